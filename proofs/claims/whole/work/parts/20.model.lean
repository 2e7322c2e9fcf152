section
variable {p : Program} {l : Launch} {e : Env} {s : State} {m : MethodId} {args : Array Value} {below : List Frame} {meth : Method} {c : Code} {Q : State → Prop} {A : Nat → Prop} {dC : Nat → ClassId} {dI : Nat → Nat → Nat} {cI cZ : ClassId}
abbrev rm_X5_in : Room := { frames := 0, cells := 0, slots := 0, locals := 0 }
section
variable {w : va_W}
noncomputable def f_X5_in (x0 : Int64) (x2 : Int64) (x4 : Int64) : Int32 :=
  (if (lg_cmp x0 x2) < 0 then 0 else (if 0 < (lg_cmp x0 x4) then 0 else 1))
set_option maxRecDepth 100000 in
set_option maxHeartbeats 4000000 in
theorem c_X5_in (w : va_W) (x0 : Int64) (x2 : Int64) (x4 : Int64) : CT l dC dI cI cZ A yX5_in cX5_in 6 (some .boolean) rm_X5_in [.long x0, .long x2, .long x4] w w (some (.int (f_X5_in x0 x2 x4))) := by
  refine b_met (by decide) (Nat.le_of_ble_eq_true rfl) ?_
  intro p e s m below meth c E
  have E : EV p s m _ meth c dC dI cI cZ cX5_in 6 RX5 (some .boolean) := E
  generalize h : f_X5_in x0 x2 x4 = z
  show GG p l e rm_X5_in s m _ below meth c _ A dC dI 6 w 0 [(0, .long x0), (2, .long x2), (4, .long x4)] []
  unfold f_X5_in at h
  refine s_lload_n E 0 rfl dX5_in_0 rfl ?_
  refine s_lload_n E 1 rfl dX5_in_1 rfl ?_
  refine s_lcmp E dX5_in_2 ?_
  refine s_if_lt E 17 dX5_in_3 (by decide) (fun c1 => ?_) (fun c1 => ?_)
  · have h := (if_pos c1).symm.trans h
    refine s_iconst E (v := 0) dX5_in_17 ki_0 ?_
    subst h
    exact s_zret E rfl rfl rfl dX5_in_18
  · have h := (if_neg c1).symm.trans h
    refine s_lload_n E 0 rfl dX5_in_6 rfl ?_
    refine s_lload E 2 rfl dX5_in_7 ?_
    refine s_lcmp E dX5_in_9 ?_
    refine s_if_gt E 17 dX5_in_10 (by decide) (fun c2 => ?_) (fun c2 => ?_)
    · have h := (if_pos c2).symm.trans h
      refine s_iconst E (v := 0) dX5_in_17 ki_0 ?_
      subst h
      exact s_zret E rfl rfl rfl dX5_in_18
    · have h := (if_neg c2).symm.trans h
      refine s_iconst E (v := 1) dX5_in_13 ki_1 ?_
      refine s_goto E 18 dX5_in_14 (by decide) ?_
      subst h
      exact s_zret E rfl rfl rfl dX5_in_18
end
abbrev rm_X5_write : Room := { frames := 1, cells := 0, slots := 0, locals := 25 }
section
noncomputable def f_X5_write_L34 (x2 : Int64) : Nat → (Nat → Nat → Int32) → Int32 → Option (Nat → Nat → Int32)
  | 0, _, _ => none
  | n + 1, σ, y4 =>
    (if y4 < 0 then (some σ) else (chk (σ 0 11) 48 (f_X5_write_L34 x2 n (up2 (up2 σ 8 ((σ 0 11).toNatClampNeg) ((x2 >>> ((8 * y4).toInt64 &&& 63)) &&& (255 : Int64)).toInt32) 0 11 ((σ 0 11) + 1)) (y4 + (-1)))))
set_option maxRecDepth 100000 in
set_option maxHeartbeats 4000000 in
theorem w_X5_write_L34 (E : EV p s m args meth c dC dI cI cZ cX5_write 5 RX5 (some .int)) (q : Nat → Nat) (x2 : Int64) : ∀ (n : Nat) (σ : Nat → Nat → Int32) (y4 : Int32) (z : (Nat → Nat → Int32)), f_X5_write_L34 x2 n σ y4 = some z → GG p l e rm_X5_write s m args below meth c Q A dC dI 5 (wM cI cZ q z) 76 [(0, .ref (q 0)), (2, .long x2)] [] → GG p l e rm_X5_write s m args below meth c Q A dC dI 5 (wM cI cZ q σ) 34 [(0, .ref (q 0)), (2, .long x2), (4, .int y4)] [] := by
  intro n
  induction n with
  | zero =>
    intro σ y4 z h
    rw [f_X5_write_L34] at h
    cases h
  | succ n ih =>
    intro σ y4 z h hK
    rw [f_X5_write_L34] at h
    refine s_iload E 2 rfl dX5_write_34 ?_
    refine s_if_lt E 76 dX5_write_36 (by decide) (fun c3 => ?_) (fun c3 => ?_)
    · have h := (if_pos c3).symm.trans h
      refine s_sub E (lv' := [(0, .ref (q 0)), (2, .long x2)]) [0, 1] rfl ?_
      obtain rfl := Option.some.inj h
      exact hK
    · have h := (if_neg c3).symm.trans h
      refine s_aload_n E 0 rfl dX5_write_39 rfl ?_
      refine s_get E (v := .ref (q 8)) 0 10 in_X5 gM_0 rfl (by decide) m_f_X5_31 rfl dX5_write_40 ?_
      refine s_aload_n E 0 rfl dX5_write_43 rfl ?_
      refine s_geti E (y := (σ 0 11)) 0 11 in_X5 gM_0 rfl (by decide) m_f_X5_74 rfl rfl dX5_write_44 ?_
      refine s_lload_n E 1 rfl dX5_write_47 rfl ?_
      refine s_bipush E (v := 8) dX5_write_48 kb_8 ?_
      refine s_iload E 2 rfl dX5_write_50 ?_
      refine s_imul E dX5_write_52 ?_
      refine s_lshr E dX5_write_53 ?_
      refine s_ldc2 E (v := (255)) m_c_X5_78 dX5_write_54 ?_
      refine s_land E dX5_write_57 ?_
      refine s_l2i E dX5_write_58 ?_
      obtain ⟨b4, h⟩ := chk_some h
      refine s_iast E (w' := (wM cI cZ q (up2 σ 8 ((σ 0 11).toNatClampNeg) ((x2 >>> ((8 * y4).toInt64 &&& 63)) &&& (255 : Int64)).toInt32))) 8 gM_8 b4 aM_8 dX5_write_59 ?_
      refine s_aload_n E 0 rfl dX5_write_60 rfl ?_
      refine s_dup E dX5_write_61 rfl ?_
      refine s_geti E (y := (σ 0 11)) 0 11 in_X5 gM_0 rfl (by decide) m_f_X5_74 rfl (up2_n rfl) dX5_write_62 ?_
      refine s_iconst E (v := 1) dX5_write_65 ki_1 ?_
      refine s_iadd E dX5_write_66 ?_
      refine s_put E (w' := (wM cI cZ q (up2 (up2 σ 8 ((σ 0 11).toNatClampNeg) ((x2 >>> ((8 * y4).toInt64 &&& 63)) &&& (255 : Int64)).toInt32) 0 11 ((σ 0 11) + 1)))) (v := .int ((σ 0 11) + 1)) 0 11 tyX5 tyX5_ok nmX5 in_X5 gM_0 rfl (by decide) m_f_X5_74 rfl (tyX5_ok 11 (by decide)) rfl rfl (Nat.le_of_ble_eq_true rfl) fM_0_11 dX5_write_67 ?_
      refine s_iinc E (v := (y4 + (-1))) (lv' := [(0, .ref (q 0)), (2, .long x2), (4, .int (y4 + (-1)))]) 2 rfl dX5_write_70 ki_m1 rfl rfl rfl rfl (by decide) ?_
      refine s_goto E 34 dX5_write_73 (by decide) ?_
      exact ih (up2 (up2 σ 8 ((σ 0 11).toNatClampNeg) ((x2 >>> ((8 * y4).toInt64 &&& 63)) &&& (255 : Int64)).toInt32) 0 11 ((σ 0 11) + 1)) (y4 + (-1)) z h hK
noncomputable def f_X5_write (σ : Nat → Nat → Int32) (x1 : Int32) (x2 : Int64) : Option (Int32 × (Nat → Nat → Int32)) :=
  (if (f_X5_in x1.toInt64 (1 : Int64) (8 : Int64)) = 0 then (some ((-2), σ)) else (if ((σ 0 11) + x1) ≤ 48 then ((f_X5_write_L34 x2 fuel σ (x1 - 1)).bind fun u5 => (some ((u5 0 11), u5))) else (some ((-4), σ))))
set_option maxRecDepth 100000 in
set_option maxHeartbeats 4000000 in
theorem c_X5_write (q : Nat → Nat) (σ : Nat → Nat → Int32) (x1 : Int32) (x2 : Int64) (z : (Int32 × (Nat → Nat → Int32))) (h : f_X5_write σ x1 x2 = some z) : CT l dC dI cI cZ A yX5_write cX5_write 5 (some .int) rm_X5_write [.ref (q 0), .int x1, .long x2] (wM cI cZ q σ) (wM cI cZ q z.2) (some (.int z.1)) := by
  refine b_met (by decide) (Nat.le_of_ble_eq_true rfl) ?_
  intro p e s m below meth c E
  have E : EV p s m _ meth c dC dI cI cZ cX5_write 5 RX5 (some .int) := E
  show GG p l e rm_X5_write s m _ below meth c _ A dC dI 5 (wM cI cZ q σ) 0 [(0, .ref (q 0)), (1, .int x1), (2, .long x2)] []
  unfold f_X5_write at h
  refine s_iload_n E 1 rfl dX5_write_0 rfl ?_
  refine s_i2l E dX5_write_1 ?_
  refine s_lconst E (v := 1) dX5_write_2 (by decide) ?_
  refine s_ldc2 E (v := (8)) m_c_X5_68 dX5_write_3 ?_
  refine s_callSi E kf_X5_in m_l_X5_70 (c_X5_in (wM cI cZ q σ) x1.toInt64 (1 : Int64) (8 : Int64)) ⟨rfl, rfl, by decide, by decide⟩ rfl rfl (Nat.le_of_ble_eq_true rfl) dX5_write_6 ?_
  refine s_if_ne E 15 dX5_write_9 (by decide) (fun c1 => ?_) (fun c1 => ?_)
  · have h := (if_pos c1).symm.trans h
    refine s_bipush E (v := (-2)) dX5_write_12 kb_m2 ?_
    obtain rfl := Option.some.inj h
    exact s_iret E rfl rfl dX5_write_14
  · have h := (if_neg c1).symm.trans h
    refine s_aload_n E 0 rfl dX5_write_15 rfl ?_
    refine s_geti E (y := (σ 0 11)) 0 11 in_X5 gM_0 rfl (by decide) m_f_X5_74 rfl rfl dX5_write_16 ?_
    refine s_iload_n E 1 rfl dX5_write_19 rfl ?_
    refine s_iadd E dX5_write_20 ?_
    refine s_bipush E (v := 48) dX5_write_21 kb_48 ?_
    refine s_icmp_le E 29 dX5_write_23 (by decide) (fun c2 => ?_) (fun c2 => ?_)
    · have h := (if_pos c2).symm.trans h
      refine s_iload_n E 1 rfl dX5_write_29 rfl ?_
      refine s_iconst E (v := 1) dX5_write_30 ki_1 ?_
      refine s_isub E dX5_write_31 ?_
      refine s_istore E (lv' := [(0, .ref (q 0)), (1, .int x1), (2, .long x2), (4, .int (x1 - 1))]) dX5_write_32 rfl rfl rfl (by decide) ?_
      refine s_sub E (lv' := [(0, .ref (q 0)), (2, .long x2), (4, .int (x1 - 1))]) [0, 2, 3] rfl ?_
      obtain ⟨u5, e5, h⟩ := bnd_some h
      refine w_X5_write_L34 E q x2 fuel σ (x1 - 1) u5 e5 ?_
      refine s_aload_n E 0 rfl dX5_write_76 rfl ?_
      refine s_geti E (y := (u5 0 11)) 0 11 in_X5 gM_0 rfl (by decide) m_f_X5_74 rfl rfl dX5_write_77 ?_
      obtain rfl := Option.some.inj h
      exact s_iret E rfl rfl dX5_write_80
    · have h := (if_neg c2).symm.trans h
      refine s_bipush E (v := (-4)) dX5_write_26 kb_m4 ?_
      obtain rfl := Option.some.inj h
      exact s_iret E rfl rfl dX5_write_28
end
abbrev rm_X5_wipe : Room := { frames := 0, cells := 0, slots := 0, locals := 0 }
section
noncomputable def f_X5_wipe (σ : Nat → Nat → Int32) : (Int32 × (Nat → Nat → Int32)) :=
  ((σ 0 11), (up2 σ 0 11 0))
set_option maxRecDepth 100000 in
set_option maxHeartbeats 4000000 in
theorem c_X5_wipe (q : Nat → Nat) (σ : Nat → Nat → Int32) : CT l dC dI cI cZ A yX5_wipe cX5_wipe 2 (some .int) rm_X5_wipe [.ref (q 0)] (wM cI cZ q σ) (wM cI cZ q (f_X5_wipe σ).2) (some (.int (f_X5_wipe σ).1)) := by
  refine b_met (by decide) (Nat.le_of_ble_eq_true rfl) ?_
  intro p e s m below meth c E
  have E : EV p s m _ meth c dC dI cI cZ cX5_wipe 2 RX5 (some .int) := E
  generalize h : f_X5_wipe σ = z
  show GG p l e rm_X5_wipe s m _ below meth c _ A dC dI 2 (wM cI cZ q σ) 0 [(0, .ref (q 0))] []
  unfold f_X5_wipe at h
  refine s_aload_n E 0 rfl dX5_wipe_0 rfl ?_
  refine s_geti E (y := (σ 0 11)) 0 11 in_X5 gM_0 rfl (by decide) m_f_X5_74 rfl rfl dX5_wipe_1 ?_
  refine s_istore_n E (lv' := [(0, .ref (q 0)), (1, .int (σ 0 11))]) dX5_wipe_4 rfl rfl rfl rfl (by decide) ?_
  refine s_aload_n E 0 rfl dX5_wipe_5 rfl ?_
  refine s_iconst E (v := 0) dX5_wipe_6 ki_0 ?_
  refine s_put E (w' := (wM cI cZ q (up2 σ 0 11 0))) (v := .int 0) 0 11 tyX5 tyX5_ok nmX5 in_X5 gM_0 rfl (by decide) m_f_X5_74 rfl (tyX5_ok 11 (by decide)) rfl rfl (Nat.le_of_ble_eq_true rfl) fM_0_11 dX5_wipe_7 ?_
  refine s_iload_n E 1 rfl dX5_wipe_10 rfl ?_
  subst h
  exact s_iret E rfl rfl dX5_wipe_11
end
abbrev rm_X5_figure : Room := { frames := 1, cells := 0, slots := 0, locals := 25 }
section
noncomputable def f_X5_figure_J57 (σ : Nat → Nat → Int32) : Option (Int32 × (Nat → Nat → Int32)) :=
  (if (σ 0 13) = (-9) then (some (0, (up2 σ 0 13 (σ 0 12)))) else (some (0, (up2 σ 0 13 (σ 0 13)))))
set_option maxRecDepth 100000 in
set_option maxHeartbeats 4000000 in
theorem w_X5_figure_J57 (E : EV p s m args meth c dC dI cI cZ cX5_figure 3 RX5 (some .int)) (q : Nat → Nat) (σ : Nat → Nat → Int32) (z : (Int32 × (Nat → Nat → Int32))) (h : f_X5_figure_J57 σ = some z) : GG p l e rm_X5_figure s m args below meth c (MQ below (CQ dC dI (some (.int z.1)) (wM cI cZ q z.2) A) args s 0 0 A) A dC dI 3 (wM cI cZ q σ) 57 [(0, .ref (q 0))] [] := by
  unfold f_X5_figure_J57 at h
  refine s_aload_n E 0 rfl dX5_figure_57 rfl ?_
  refine s_aload_n E 0 rfl dX5_figure_58 rfl ?_
  refine s_geti E (y := (σ 0 13)) 0 13 in_X5 gM_0 rfl (by decide) m_f_X5_80 rfl rfl dX5_figure_59 ?_
  refine s_bipush E (v := (-9)) dX5_figure_62 kb_m9 ?_
  refine s_icmp_ne E 74 dX5_figure_64 (by decide) (fun c4 => ?_) (fun c4 => ?_)
  · have h := (if_pos c4).symm.trans h
    refine s_aload_n E 0 rfl dX5_figure_67 rfl ?_
    refine s_geti E (y := (σ 0 12)) 0 12 in_X5 gM_0 rfl (by decide) m_f_X5_83 rfl rfl dX5_figure_68 ?_
    refine s_goto E 78 dX5_figure_71 (by decide) ?_
    refine s_put E (w' := (wM cI cZ q (up2 σ 0 13 (σ 0 12)))) (v := .int (σ 0 12)) 0 13 tyX5 tyX5_ok nmX5 in_X5 gM_0 rfl (by decide) m_f_X5_80 rfl (tyX5_ok 13 (by decide)) rfl rfl (Nat.le_of_ble_eq_true rfl) fM_0_13 dX5_figure_78 ?_
    refine s_iconst E (v := 0) dX5_figure_81 ki_0 ?_
    obtain rfl := Option.some.inj h
    exact s_iret E rfl rfl dX5_figure_82
  · have h := (if_neg c4).symm.trans h
    refine s_aload_n E 0 rfl dX5_figure_74 rfl ?_
    refine s_geti E (y := (σ 0 13)) 0 13 in_X5 gM_0 rfl (by decide) m_f_X5_80 rfl rfl dX5_figure_75 ?_
    refine s_put E (w' := (wM cI cZ q (up2 σ 0 13 (σ 0 13)))) (v := .int (σ 0 13)) 0 13 tyX5 tyX5_ok nmX5 in_X5 gM_0 rfl (by decide) m_f_X5_80 rfl (tyX5_ok 13 (by decide)) rfl rfl (Nat.le_of_ble_eq_true rfl) fM_0_13 dX5_figure_78 ?_
    refine s_iconst E (v := 0) dX5_figure_81 ki_0 ?_
    obtain rfl := Option.some.inj h
    exact s_iret E rfl rfl dX5_figure_82
noncomputable def f_X5_figure_J36 (σ : Nat → Nat → Int32) (t1 : Int32) (s0 : Int32) : Option (Int32 × (Nat → Nat → Int32)) :=
  (if (f_X5_in s0.toInt64 (0 : Int64) (9 : Int64)) = 0 then (f_X5_figure_J57 σ) else (if ((shr t1 s0) &&& 1) = 0 then (f_X5_figure_J57 σ) else (some (s0, (up2 σ 0 12 ((σ 0 12) + 1))))))
set_option maxRecDepth 100000 in
set_option maxHeartbeats 4000000 in
theorem w_X5_figure_J36 (E : EV p s m args meth c dC dI cI cZ cX5_figure 3 RX5 (some .int)) (q : Nat → Nat) (σ : Nat → Nat → Int32) (t1 : Int32) (s0 : Int32) (z : (Int32 × (Nat → Nat → Int32))) (h : f_X5_figure_J36 σ t1 s0 = some z) : GG p l e rm_X5_figure s m args below meth c (MQ below (CQ dC dI (some (.int z.1)) (wM cI cZ q z.2) A) args s 0 0 A) A dC dI 3 (wM cI cZ q σ) 36 [(0, .ref (q 0)), (1, .int t1)] [.int s0] := by
  unfold f_X5_figure_J36 at h
  refine s_istore_n E (lv' := [(0, .ref (q 0)), (1, .int t1), (2, .int s0)]) dX5_figure_36 rfl rfl rfl rfl (by decide) ?_
  refine s_iload_n E 2 rfl dX5_figure_37 rfl ?_
  refine s_i2l E dX5_figure_38 ?_
  refine s_lconst E (v := 0) dX5_figure_39 (by decide) ?_
  refine s_ldc2 E (v := (9)) m_c_X5_86 dX5_figure_40 ?_
  refine s_callSi E kf_X5_in m_l_X5_70 (c_X5_in (wM cI cZ q σ) s0.toInt64 (0 : Int64) (9 : Int64)) ⟨rfl, rfl, by decide, by decide⟩ rfl rfl (Nat.le_of_ble_eq_true rfl) dX5_figure_43 ?_
  refine s_if_eq E 57 dX5_figure_46 (by decide) (fun c3 => ?_) (fun c3 => ?_)
  · have h := (if_pos c3).symm.trans h
    refine s_sub E (lv' := [(0, .ref (q 0))]) [0] rfl ?_
    exact w_X5_figure_J57 E q σ z h
  · have h := (if_neg c3).symm.trans h
    refine s_iload_n E 1 rfl dX5_figure_49 rfl ?_
    refine s_iload_n E 2 rfl dX5_figure_50 rfl ?_
    refine s_ishr E dX5_figure_51 ?_
    refine s_iconst E (v := 1) dX5_figure_52 ki_1 ?_
    refine s_iand E dX5_figure_53 ?_
    refine s_if_ne E 83 dX5_figure_54 (by decide) (fun c5 => ?_) (fun c5 => ?_)
    · have h := (if_pos c5).symm.trans h
      refine s_sub E (lv' := [(0, .ref (q 0))]) [0] rfl ?_
      exact w_X5_figure_J57 E q σ z h
    · have h := (if_neg c5).symm.trans h
      refine s_aload_n E 0 rfl dX5_figure_83 rfl ?_
      refine s_dup E dX5_figure_84 rfl ?_
      refine s_geti E (y := (σ 0 12)) 0 12 in_X5 gM_0 rfl (by decide) m_f_X5_83 rfl rfl dX5_figure_85 ?_
      refine s_iconst E (v := 1) dX5_figure_88 ki_1 ?_
      refine s_iadd E dX5_figure_89 ?_
      refine s_put E (w' := (wM cI cZ q (up2 σ 0 12 ((σ 0 12) + 1)))) (v := .int ((σ 0 12) + 1)) 0 12 tyX5 tyX5_ok nmX5 in_X5 gM_0 rfl (by decide) m_f_X5_83 rfl (tyX5_ok 12 (by decide)) rfl rfl (Nat.le_of_ble_eq_true rfl) fM_0_12 dX5_figure_90 ?_
      refine s_iload_n E 2 rfl dX5_figure_93 rfl ?_
      obtain rfl := Option.some.inj h
      exact s_iret E rfl rfl dX5_figure_94
noncomputable def f_X5_figure_J35 (σ : Nat → Nat → Int32) (t1 : Int32) : Option (Int32 × (Nat → Nat → Int32)) :=
  (f_X5_figure_J36 σ t1 (-1))
set_option maxRecDepth 100000 in
set_option maxHeartbeats 4000000 in
theorem w_X5_figure_J35 (E : EV p s m args meth c dC dI cI cZ cX5_figure 3 RX5 (some .int)) (q : Nat → Nat) (σ : Nat → Nat → Int32) (t1 : Int32) (z : (Int32 × (Nat → Nat → Int32))) (h : f_X5_figure_J35 σ t1 = some z) : GG p l e rm_X5_figure s m args below meth c (MQ below (CQ dC dI (some (.int z.1)) (wM cI cZ q z.2) A) args s 0 0 A) A dC dI 3 (wM cI cZ q σ) 35 [(0, .ref (q 0)), (1, .int t1)] [] := by
  unfold f_X5_figure_J35 at h
  refine s_iconst E (v := (-1)) dX5_figure_35 ki_m1 ?_
  exact w_X5_figure_J36 E q σ t1 (-1) z h
noncomputable def f_X5_figure (σ : Nat → Nat → Int32) (x1 : Int32) : Option (Int32 × (Nat → Nat → Int32)) :=
  (if (σ 0 13) = (-9) then (if (σ 0 11) ≤ (σ 0 12) then (f_X5_figure_J35 σ x1) else (chk (σ 0 12) 48 (f_X5_figure_J36 σ x1 ((σ 8 ((σ 0 12).toNatClampNeg)) - 48)))) else (f_X5_figure_J35 σ x1))
set_option maxRecDepth 100000 in
set_option maxHeartbeats 4000000 in
theorem c_X5_figure (q : Nat → Nat) (σ : Nat → Nat → Int32) (x1 : Int32) (z : (Int32 × (Nat → Nat → Int32))) (h : f_X5_figure σ x1 = some z) : CT l dC dI cI cZ A yX5_figure cX5_figure 3 (some .int) rm_X5_figure [.ref (q 0), .int x1] (wM cI cZ q σ) (wM cI cZ q z.2) (some (.int z.1)) := by
  refine b_met (by decide) (Nat.le_of_ble_eq_true rfl) ?_
  intro p e s m below meth c E
  have E : EV p s m _ meth c dC dI cI cZ cX5_figure 3 RX5 (some .int) := E
  show GG p l e rm_X5_figure s m _ below meth c _ A dC dI 3 (wM cI cZ q σ) 0 [(0, .ref (q 0)), (1, .int x1)] []
  unfold f_X5_figure at h
  refine s_aload_n E 0 rfl dX5_figure_0 rfl ?_
  refine s_geti E (y := (σ 0 13)) 0 13 in_X5 gM_0 rfl (by decide) m_f_X5_80 rfl rfl dX5_figure_1 ?_
  refine s_bipush E (v := (-9)) dX5_figure_4 kb_m9 ?_
  refine s_icmp_ne E 35 dX5_figure_6 (by decide) (fun c1 => ?_) (fun c1 => ?_)
  · have h := (if_pos c1).symm.trans h
    refine s_aload_n E 0 rfl dX5_figure_9 rfl ?_
    refine s_geti E (y := (σ 0 12)) 0 12 in_X5 gM_0 rfl (by decide) m_f_X5_83 rfl rfl dX5_figure_10 ?_
    refine s_aload_n E 0 rfl dX5_figure_13 rfl ?_
    refine s_geti E (y := (σ 0 11)) 0 11 in_X5 gM_0 rfl (by decide) m_f_X5_74 rfl rfl dX5_figure_14 ?_
    refine s_icmp_ge E 35 dX5_figure_17 (by decide) (fun c2 => ?_) (fun c2 => ?_)
    · have h := (if_pos c2).symm.trans h
      exact w_X5_figure_J35 E q σ x1 z h
    · have h := (if_neg c2).symm.trans h
      refine s_aload_n E 0 rfl dX5_figure_20 rfl ?_
      refine s_get E (v := .ref (q 8)) 0 10 in_X5 gM_0 rfl (by decide) m_f_X5_31 rfl dX5_figure_21 ?_
      refine s_aload_n E 0 rfl dX5_figure_24 rfl ?_
      refine s_geti E (y := (σ 0 12)) 0 12 in_X5 gM_0 rfl (by decide) m_f_X5_83 rfl rfl dX5_figure_25 ?_
      obtain ⟨b6, h⟩ := chk_some h
      refine s_iald E (v := (σ 8 ((σ 0 12).toNatClampNeg))) 8 gM_8 b6 rfl dX5_figure_28 ?_
      refine s_bipush E (v := 48) dX5_figure_29 kb_48 ?_
      refine s_isub E dX5_figure_31 ?_
      refine s_goto E 36 dX5_figure_32 (by decide) ?_
      exact w_X5_figure_J36 E q σ x1 ((σ 8 ((σ 0 12).toNatClampNeg)) - 48) z h
  · have h := (if_neg c1).symm.trans h
    exact w_X5_figure_J35 E q σ x1 z h
end
abbrev rm_X5_readText : Room := { frames := 2, cells := 0, slots := 0, locals := 47 }
section
noncomputable def f_X5_readText_J239_103 (σ : Nat → Nat → Int32) (s1 : Int32) (s3 : Int32) (rec : (Nat → Nat → Int32) → Option (Nat → Nat → Int32)) : Option (Nat → Nat → Int32) :=
  ((f_X5_figure σ s3).bind fun u20 => (chk s1 24 (rec (up2 (up2 u20.2 2 (s1.toNatClampNeg) u20.1) 0 2 ((u20.2 0 2) + 1)))))
set_option maxRecDepth 100000 in
set_option maxHeartbeats 4000000 in
theorem w_X5_readText_J239_103 (E : EV p s m args meth c dC dI cI cZ cX5_readText 3 RX5 (some .int)) (q : Nat → Nat) (σ : Nat → Nat → Int32) (s1 : Int32) (s3 : Int32) (z : (Nat → Nat → Int32)) (rec : (Nat → Nat → Int32) → Option (Nat → Nat → Int32)) (hrec : ∀ (σ : Nat → Nat → Int32), rec σ = some z → GG p l e rm_X5_readText s m args below meth c Q A dC dI 3 (wM cI cZ q σ) 103 [(0, .ref (q 0))] []) (hK : GG p l e rm_X5_readText s m args below meth c Q A dC dI 3 (wM cI cZ q z) 267 [(0, .ref (q 0))] []) (h : f_X5_readText_J239_103 σ s1 s3 rec = some z) : GG p l e rm_X5_readText s m args below meth c Q A dC dI 3 (wM cI cZ q σ) 239 [(0, .ref (q 0))] [.int s3, .ref (q 0), .int s1, .ref (q 2)] := by
  unfold f_X5_readText_J239_103 at h
  obtain ⟨u20, e20, h⟩ := bnd_some h
  refine s_callVi E kf_X5_figure m_l_X5_91 (c_X5_figure q σ s3 u20 e20) ⟨rfl, rfl, by decide, by decide⟩ (q0 := 0) rfl rfl rfl rfl rfl (Nat.le_of_ble_eq_true rfl) dX5_readText_239 ?_
  obtain ⟨b21, h⟩ := chk_some h
  refine s_iast E (w' := (wM cI cZ q (up2 u20.2 2 (s1.toNatClampNeg) u20.1))) 2 gM_2 b21 aM_2 dX5_readText_242 ?_
  refine s_aload_n E 0 rfl dX5_readText_243 rfl ?_
  refine s_dup E dX5_readText_244 rfl ?_
  refine s_geti E (y := (u20.2 0 2)) 0 2 in_X5 gM_0 rfl (by decide) m_f_X5_88 rfl (up2_n rfl) dX5_readText_245 ?_
  refine s_iconst E (v := 1) dX5_readText_248 ki_1 ?_
  refine s_iadd E dX5_readText_249 ?_
  refine s_put E (w' := (wM cI cZ q (up2 (up2 u20.2 2 (s1.toNatClampNeg) u20.1) 0 2 ((u20.2 0 2) + 1)))) (v := .int ((u20.2 0 2) + 1)) 0 2 tyX5 tyX5_ok nmX5 in_X5 gM_0 rfl (by decide) m_f_X5_88 rfl (tyX5_ok 2 (by decide)) rfl rfl (Nat.le_of_ble_eq_true rfl) fM_0_2 dX5_readText_250 ?_
  refine s_goto E 103 dX5_readText_253 (by decide) ?_
  exact hrec (up2 (up2 u20.2 2 (s1.toNatClampNeg) u20.1) 0 2 ((u20.2 0 2) + 1)) h
noncomputable def f_X5_readText_J194_103 (σ : Nat → Nat → Int32) (t1 : Int32) (s1 : Int32) (s2 : Int32) (s4 : Int32) (rec : (Nat → Nat → Int32) → Option (Nat → Nat → Int32)) : Option (Nat → Nat → Int32) :=
  ((f_X5_figure σ s4).bind fun u15 => (chk s1 24 ((f_X5_figure (up2 u15.2 2 (s1.toNatClampNeg) (s2 + u15.1)) 1023).bind fun u17 => (chk (t1 + 1) 24 (if (u17.2 1 0) = 2 then (f_X5_readText_J239_103 (up2 u17.2 2 ((t1 + 1).toNatClampNeg) u17.1) (t1 + 2) 11 rec) else (f_X5_readText_J239_103 (up2 u17.2 2 ((t1 + 1).toNatClampNeg) u17.1) (t1 + 2) 15 rec))))))
set_option maxRecDepth 100000 in
set_option maxHeartbeats 4000000 in
theorem w_X5_readText_J194_103 (E : EV p s m args meth c dC dI cI cZ cX5_readText 3 RX5 (some .int)) (q : Nat → Nat) (σ : Nat → Nat → Int32) (t1 : Int32) (s1 : Int32) (s2 : Int32) (s4 : Int32) (z : (Nat → Nat → Int32)) (rec : (Nat → Nat → Int32) → Option (Nat → Nat → Int32)) (hrec : ∀ (σ : Nat → Nat → Int32), rec σ = some z → GG p l e rm_X5_readText s m args below meth c Q A dC dI 3 (wM cI cZ q σ) 103 [(0, .ref (q 0))] []) (hK : GG p l e rm_X5_readText s m args below meth c Q A dC dI 3 (wM cI cZ q z) 267 [(0, .ref (q 0))] []) (h : f_X5_readText_J194_103 σ t1 s1 s2 s4 rec = some z) : GG p l e rm_X5_readText s m args below meth c Q A dC dI 3 (wM cI cZ q σ) 194 [(0, .ref (q 0)), (1, .int t1)] [.int s4, .ref (q 0), .int s2, .int s1, .ref (q 2)] := by
  unfold f_X5_readText_J194_103 at h
  obtain ⟨u15, e15, h⟩ := bnd_some h
  refine s_callVi E kf_X5_figure m_l_X5_91 (c_X5_figure q σ s4 u15 e15) ⟨rfl, rfl, by decide, by decide⟩ (q0 := 0) rfl rfl rfl rfl rfl (Nat.le_of_ble_eq_true rfl) dX5_readText_194 ?_
  refine s_iadd E dX5_readText_197 ?_
  obtain ⟨b16, h⟩ := chk_some h
  refine s_iast E (w' := (wM cI cZ q (up2 u15.2 2 (s1.toNatClampNeg) (s2 + u15.1)))) 2 gM_2 b16 aM_2 dX5_readText_198 ?_
  refine s_aload_n E 0 rfl dX5_readText_199 rfl ?_
  refine s_get E (v := .ref (q 2)) 0 1 in_X5 gM_0 rfl (by decide) m_f_X5_13 rfl dX5_readText_200 ?_
  refine s_iload_n E 1 rfl dX5_readText_203 rfl ?_
  refine s_iconst E (v := 1) dX5_readText_204 ki_1 ?_
  refine s_iadd E dX5_readText_205 ?_
  refine s_aload_n E 0 rfl dX5_readText_206 rfl ?_
  refine s_sipush E (v := 1023) dX5_readText_207 ks_1023 ?_
  obtain ⟨u17, e17, h⟩ := bnd_some h
  refine s_callVi E kf_X5_figure m_l_X5_91 (c_X5_figure q (up2 u15.2 2 (s1.toNatClampNeg) (s2 + u15.1)) 1023 u17 e17) ⟨rfl, rfl, by decide, by decide⟩ (q0 := 0) rfl rfl rfl rfl rfl (Nat.le_of_ble_eq_true rfl) dX5_readText_210 ?_
  obtain ⟨b18, h⟩ := chk_some h
  refine s_iast E (w' := (wM cI cZ q (up2 u17.2 2 ((t1 + 1).toNatClampNeg) u17.1))) 2 gM_2 b18 aM_2 dX5_readText_213 ?_
  refine s_aload_n E 0 rfl dX5_readText_214 rfl ?_
  refine s_get E (v := .ref (q 2)) 0 1 in_X5 gM_0 rfl (by decide) m_f_X5_13 rfl dX5_readText_215 ?_
  refine s_iload_n E 1 rfl dX5_readText_218 rfl ?_
  refine s_iconst E (v := 2) dX5_readText_219 ki_2 ?_
  refine s_iadd E dX5_readText_220 ?_
  refine s_aload_n E 0 rfl dX5_readText_221 rfl ?_
  refine s_aload_n E 0 rfl dX5_readText_222 rfl ?_
  refine s_get E (v := .ref (q 1)) 0 0 in_X5 gM_0 rfl (by decide) m_f_X5_7 rfl dX5_readText_223 ?_
  refine s_iconst E (v := 0) dX5_readText_226 ki_0 ?_
  refine s_iald E (i := 0) (v := (u17.2 1 0)) 1 gM_1 vin_0_5 (up2_n rfl) dX5_readText_227 ?_
  refine s_iconst E (v := 2) dX5_readText_228 ki_2 ?_
  refine s_icmp_ne E 237 dX5_readText_229 (by decide) (fun c19 => ?_) (fun c19 => ?_)
  · have h := (if_pos c19).symm.trans h
    refine s_bipush E (v := 11) dX5_readText_232 kb_11 ?_
    refine s_goto E 239 dX5_readText_234 (by decide) ?_
    refine s_sub E (lv' := [(0, .ref (q 0))]) [0] rfl ?_
    exact w_X5_readText_J239_103 E q (up2 u17.2 2 ((t1 + 1).toNatClampNeg) u17.1) (t1 + 2) 11 z rec hrec hK h
  · have h := (if_neg c19).symm.trans h
    refine s_bipush E (v := 15) dX5_readText_237 kb_15 ?_
    refine s_sub E (lv' := [(0, .ref (q 0))]) [0] rfl ?_
    exact w_X5_readText_J239_103 E q (up2 u17.2 2 ((t1 + 1).toNatClampNeg) u17.1) (t1 + 2) 15 z rec hrec hK h
noncomputable def f_X5_readText_L103 : Nat → (Nat → Nat → Int32) → Option (Nat → Nat → Int32)
  | 0, _ => none
  | n + 1, σ =>
    (if (σ 0 13) = (-9) then (if (σ 0 11) ≤ (σ 0 12) then (some σ) else (chk (σ 0 12) 48 (if (σ 8 ((σ 0 12).toNatClampNeg)) = 80 then (if 8 ≤ (σ 0 2) then (f_X5_readText_L103 n (up2 σ 0 13 (σ 0 12))) else ((f_X5_figure (up2 σ 0 12 ((σ 0 12) + 1)) 1023).bind fun u13 => (if u13.1 = 0 then (f_X5_readText_J194_103 u13.2 (3 * (σ 0 2)) (3 * (σ 0 2)) (10 * u13.1) 1022 (f_X5_readText_L103 n)) else (f_X5_readText_J194_103 u13.2 (3 * (σ 0 2)) (3 * (σ 0 2)) (10 * u13.1) 1023 (f_X5_readText_L103 n))))) else (f_X5_readText_L103 n (up2 σ 0 13 (σ 0 12)))))) else (some σ))
set_option maxRecDepth 100000 in
set_option maxHeartbeats 4000000 in
theorem w_X5_readText_L103 (E : EV p s m args meth c dC dI cI cZ cX5_readText 3 RX5 (some .int)) (q : Nat → Nat) : ∀ (n : Nat) (σ : Nat → Nat → Int32) (z : (Nat → Nat → Int32)), f_X5_readText_L103 n σ = some z → GG p l e rm_X5_readText s m args below meth c Q A dC dI 3 (wM cI cZ q z) 267 [(0, .ref (q 0))] [] → GG p l e rm_X5_readText s m args below meth c Q A dC dI 3 (wM cI cZ q σ) 103 [(0, .ref (q 0))] [] := by
  intro n
  induction n with
  | zero =>
    intro σ z h
    rw [f_X5_readText_L103] at h
    cases h
  | succ n ih =>
    intro σ z h hK
    rw [f_X5_readText_L103] at h
    refine s_aload_n E 0 rfl dX5_readText_103 rfl ?_
    refine s_geti E (y := (σ 0 13)) 0 13 in_X5 gM_0 rfl (by decide) m_f_X5_80 rfl rfl dX5_readText_104 ?_
    refine s_bipush E (v := (-9)) dX5_readText_107 kb_m9 ?_
    refine s_icmp_ne E 267 dX5_readText_109 (by decide) (fun c8 => ?_) (fun c8 => ?_)
    · have h := (if_pos c8).symm.trans h
      refine s_aload_n E 0 rfl dX5_readText_112 rfl ?_
      refine s_geti E (y := (σ 0 12)) 0 12 in_X5 gM_0 rfl (by decide) m_f_X5_83 rfl rfl dX5_readText_113 ?_
      refine s_aload_n E 0 rfl dX5_readText_116 rfl ?_
      refine s_geti E (y := (σ 0 11)) 0 11 in_X5 gM_0 rfl (by decide) m_f_X5_74 rfl rfl dX5_readText_117 ?_
      refine s_icmp_ge E 267 dX5_readText_120 (by decide) (fun c9 => ?_) (fun c9 => ?_)
      · have h := (if_pos c9).symm.trans h
        obtain rfl := Option.some.inj h
        exact hK
      · have h := (if_neg c9).symm.trans h
        refine s_aload_n E 0 rfl dX5_readText_123 rfl ?_
        refine s_get E (v := .ref (q 8)) 0 10 in_X5 gM_0 rfl (by decide) m_f_X5_31 rfl dX5_readText_124 ?_
        refine s_aload_n E 0 rfl dX5_readText_127 rfl ?_
        refine s_geti E (y := (σ 0 12)) 0 12 in_X5 gM_0 rfl (by decide) m_f_X5_83 rfl rfl dX5_readText_128 ?_
        obtain ⟨b10, h⟩ := chk_some h
        refine s_iald E (v := (σ 8 ((σ 0 12).toNatClampNeg))) 8 gM_8 b10 rfl dX5_readText_131 ?_
        refine s_bipush E (v := 80) dX5_readText_132 kb_80 ?_
        refine s_icmp_ne E 256 dX5_readText_134 (by decide) (fun c11 => ?_) (fun c11 => ?_)
        · have h := (if_pos c11).symm.trans h
          refine s_aload_n E 0 rfl dX5_readText_137 rfl ?_
          refine s_geti E (y := (σ 0 2)) 0 2 in_X5 gM_0 rfl (by decide) m_f_X5_88 rfl rfl dX5_readText_138 ?_
          refine s_bipush E (v := 8) dX5_readText_141 kb_8 ?_
          refine s_icmp_ge E 256 dX5_readText_143 (by decide) (fun c12 => ?_) (fun c12 => ?_)
          · have h := (if_pos c12).symm.trans h
            refine s_aload_n E 0 rfl dX5_readText_256 rfl ?_
            refine s_aload_n E 0 rfl dX5_readText_257 rfl ?_
            refine s_geti E (y := (σ 0 12)) 0 12 in_X5 gM_0 rfl (by decide) m_f_X5_83 rfl rfl dX5_readText_258 ?_
            refine s_put E (w' := (wM cI cZ q (up2 σ 0 13 (σ 0 12)))) (v := .int (σ 0 12)) 0 13 tyX5 tyX5_ok nmX5 in_X5 gM_0 rfl (by decide) m_f_X5_80 rfl (tyX5_ok 13 (by decide)) rfl rfl (Nat.le_of_ble_eq_true rfl) fM_0_13 dX5_readText_261 ?_
            refine s_goto E 103 dX5_readText_264 (by decide) ?_
            exact ih (up2 σ 0 13 (σ 0 12)) z h hK
          · have h := (if_neg c12).symm.trans h
            refine s_aload_n E 0 rfl dX5_readText_146 rfl ?_
            refine s_dup E dX5_readText_147 rfl ?_
            refine s_geti E (y := (σ 0 12)) 0 12 in_X5 gM_0 rfl (by decide) m_f_X5_83 rfl rfl dX5_readText_148 ?_
            refine s_iconst E (v := 1) dX5_readText_151 ki_1 ?_
            refine s_iadd E dX5_readText_152 ?_
            refine s_put E (w' := (wM cI cZ q (up2 σ 0 12 ((σ 0 12) + 1)))) (v := .int ((σ 0 12) + 1)) 0 12 tyX5 tyX5_ok nmX5 in_X5 gM_0 rfl (by decide) m_f_X5_83 rfl (tyX5_ok 12 (by decide)) rfl rfl (Nat.le_of_ble_eq_true rfl) fM_0_12 dX5_readText_153 ?_
            refine s_iconst E (v := 3) dX5_readText_156 ki_3 ?_
            refine s_aload_n E 0 rfl dX5_readText_157 rfl ?_
            refine s_geti E (y := (σ 0 2)) 0 2 in_X5 gM_0 rfl (by decide) m_f_X5_88 rfl (up2_m rfl) dX5_readText_158 ?_
            refine s_imul E dX5_readText_161 ?_
            refine s_istore_n E (lv' := [(0, .ref (q 0)), (1, .int (3 * (σ 0 2)))]) dX5_readText_162 rfl rfl rfl rfl (by decide) ?_
            refine s_aload_n E 0 rfl dX5_readText_163 rfl ?_
            refine s_sipush E (v := 1023) dX5_readText_164 ks_1023 ?_
            obtain ⟨u13, e13, h⟩ := bnd_some h
            refine s_callVi E kf_X5_figure m_l_X5_91 (c_X5_figure q (up2 σ 0 12 ((σ 0 12) + 1)) 1023 u13 e13) ⟨rfl, rfl, by decide, by decide⟩ (q0 := 0) rfl rfl rfl rfl rfl (Nat.le_of_ble_eq_true rfl) dX5_readText_167 ?_
            refine s_istore_n E (lv' := [(0, .ref (q 0)), (1, .int (3 * (σ 0 2))), (2, .int u13.1)]) dX5_readText_170 rfl rfl rfl rfl (by decide) ?_
            refine s_aload_n E 0 rfl dX5_readText_171 rfl ?_
            refine s_get E (v := .ref (q 2)) 0 1 in_X5 gM_0 rfl (by decide) m_f_X5_13 rfl dX5_readText_172 ?_
            refine s_iload_n E 1 rfl dX5_readText_175 rfl ?_
            refine s_bipush E (v := 10) dX5_readText_176 kb_10 ?_
            refine s_iload_n E 2 rfl dX5_readText_178 rfl ?_
            refine s_imul E dX5_readText_179 ?_
            refine s_aload_n E 0 rfl dX5_readText_180 rfl ?_
            refine s_iload_n E 2 rfl dX5_readText_181 rfl ?_
            refine s_if_ne E 191 dX5_readText_182 (by decide) (fun c14 => ?_) (fun c14 => ?_)
            · have h := (if_pos c14).symm.trans h
              refine s_sipush E (v := 1022) dX5_readText_185 ks_1022 ?_
              refine s_goto E 194 dX5_readText_188 (by decide) ?_
              refine s_sub E (lv' := [(0, .ref (q 0)), (1, .int (3 * (σ 0 2)))]) [0, 1] rfl ?_
              exact w_X5_readText_J194_103 E q u13.2 (3 * (σ 0 2)) (3 * (σ 0 2)) (10 * u13.1) 1022 z _ (fun σ h => ih σ z h hK) hK h
            · have h := (if_neg c14).symm.trans h
              refine s_sipush E (v := 1023) dX5_readText_191 ks_1023 ?_
              refine s_sub E (lv' := [(0, .ref (q 0)), (1, .int (3 * (σ 0 2)))]) [0, 1] rfl ?_
              exact w_X5_readText_J194_103 E q u13.2 (3 * (σ 0 2)) (3 * (σ 0 2)) (10 * u13.1) 1023 z _ (fun σ h => ih σ z h hK) hK h
        · have h := (if_neg c11).symm.trans h
          refine s_aload_n E 0 rfl dX5_readText_256 rfl ?_
          refine s_aload_n E 0 rfl dX5_readText_257 rfl ?_
          refine s_geti E (y := (σ 0 12)) 0 12 in_X5 gM_0 rfl (by decide) m_f_X5_83 rfl rfl dX5_readText_258 ?_
          refine s_put E (w' := (wM cI cZ q (up2 σ 0 13 (σ 0 12)))) (v := .int (σ 0 12)) 0 13 tyX5 tyX5_ok nmX5 in_X5 gM_0 rfl (by decide) m_f_X5_80 rfl (tyX5_ok 13 (by decide)) rfl rfl (Nat.le_of_ble_eq_true rfl) fM_0_13 dX5_readText_261 ?_
          refine s_goto E 103 dX5_readText_264 (by decide) ?_
          exact ih (up2 σ 0 13 (σ 0 12)) z h hK
    · have h := (if_neg c8).symm.trans h
      obtain rfl := Option.some.inj h
      exact hK
noncomputable def f_X5_readText (σ : Nat → Nat → Int32) : Option (Int32 × (Nat → Nat → Int32)) :=
  (if (σ 0 11) = 0 then (some (0, (up2 (up2 (up2 σ 0 12 0) 0 13 (-9)) 0 2 0))) else (if (σ 8 0) = 66 then ((f_X5_figure (up2 (up2 (up2 (up2 σ 0 12 0) 0 13 (-9)) 0 2 0) 0 12 1) 12).bind fun u3 => ((f_X5_figure (up2 u3.2 1 0 u3.1) 14).bind fun u4 => ((f_X5_figure (up2 u4.2 1 1 u4.1) 14).bind fun u5 => ((f_X5_figure (up2 u5.2 1 2 u5.1) 510).bind fun u6 => ((f_X5_figure (up2 u6.2 1 3 u6.1) 1023).bind fun u7 => ((f_X5_readText_L103 fuel (up2 u7.2 1 4 u7.1)).bind fun u22 => (some ((u22 0 13), u22)))))))) else (some (0, (up2 (up2 (up2 σ 0 12 0) 0 13 (-9)) 0 2 0)))))
set_option maxRecDepth 100000 in
set_option maxHeartbeats 4000000 in
theorem c_X5_readText (q : Nat → Nat) (σ : Nat → Nat → Int32) (z : (Int32 × (Nat → Nat → Int32))) (h : f_X5_readText σ = some z) : CT l dC dI cI cZ A yX5_readText cX5_readText 3 (some .int) rm_X5_readText [.ref (q 0)] (wM cI cZ q σ) (wM cI cZ q z.2) (some (.int z.1)) := by
  refine b_met (by decide) (Nat.le_of_ble_eq_true rfl) ?_
  intro p e s m below meth c E
  have E : EV p s m _ meth c dC dI cI cZ cX5_readText 3 RX5 (some .int) := E
  show GG p l e rm_X5_readText s m _ below meth c _ A dC dI 3 (wM cI cZ q σ) 0 [(0, .ref (q 0))] []
  unfold f_X5_readText at h
  refine s_aload_n E 0 rfl dX5_readText_0 rfl ?_
  refine s_iconst E (v := 0) dX5_readText_1 ki_0 ?_
  refine s_put E (w' := (wM cI cZ q (up2 σ 0 12 0))) (v := .int 0) 0 12 tyX5 tyX5_ok nmX5 in_X5 gM_0 rfl (by decide) m_f_X5_83 rfl (tyX5_ok 12 (by decide)) rfl rfl (Nat.le_of_ble_eq_true rfl) fM_0_12 dX5_readText_2 ?_
  refine s_aload_n E 0 rfl dX5_readText_5 rfl ?_
  refine s_bipush E (v := (-9)) dX5_readText_6 kb_m9 ?_
  refine s_put E (w' := (wM cI cZ q (up2 (up2 σ 0 12 0) 0 13 (-9)))) (v := .int (-9)) 0 13 tyX5 tyX5_ok nmX5 in_X5 gM_0 rfl (by decide) m_f_X5_80 rfl (tyX5_ok 13 (by decide)) rfl rfl (Nat.le_of_ble_eq_true rfl) fM_0_13 dX5_readText_8 ?_
  refine s_aload_n E 0 rfl dX5_readText_11 rfl ?_
  refine s_iconst E (v := 0) dX5_readText_12 ki_0 ?_
  refine s_put E (w' := (wM cI cZ q (up2 (up2 (up2 σ 0 12 0) 0 13 (-9)) 0 2 0))) (v := .int 0) 0 2 tyX5 tyX5_ok nmX5 in_X5 gM_0 rfl (by decide) m_f_X5_88 rfl (tyX5_ok 2 (by decide)) rfl rfl (Nat.le_of_ble_eq_true rfl) fM_0_2 dX5_readText_13 ?_
  refine s_aload_n E 0 rfl dX5_readText_16 rfl ?_
  refine s_geti E (y := (σ 0 11)) 0 11 in_X5 gM_0 rfl (by decide) m_f_X5_74 rfl ((up2_m rfl).trans ((up2_m rfl).trans (up2_m rfl))) dX5_readText_17 ?_
  refine s_if_eq E 34 dX5_readText_20 (by decide) (fun c1 => ?_) (fun c1 => ?_)
  · have h := (if_pos c1).symm.trans h
    refine s_iconst E (v := 0) dX5_readText_34 ki_0 ?_
    obtain rfl := Option.some.inj h
    exact s_iret E rfl rfl dX5_readText_35
  · have h := (if_neg c1).symm.trans h
    refine s_aload_n E 0 rfl dX5_readText_23 rfl ?_
    refine s_get E (v := .ref (q 8)) 0 10 in_X5 gM_0 rfl (by decide) m_f_X5_31 rfl dX5_readText_24 ?_
    refine s_iconst E (v := 0) dX5_readText_27 ki_0 ?_
    refine s_iald E (i := 0) (v := (σ 8 0)) 8 gM_8 vin_0_48 ((up2_n rfl).trans ((up2_n rfl).trans (up2_n rfl))) dX5_readText_28 ?_
    refine s_bipush E (v := 66) dX5_readText_29 kb_66 ?_
    refine s_icmp_eq E 36 dX5_readText_31 (by decide) (fun c2 => ?_) (fun c2 => ?_)
    · have h := (if_pos c2).symm.trans h
      refine s_aload_n E 0 rfl dX5_readText_36 rfl ?_
      refine s_iconst E (v := 1) dX5_readText_37 ki_1 ?_
      refine s_put E (w' := (wM cI cZ q (up2 (up2 (up2 (up2 σ 0 12 0) 0 13 (-9)) 0 2 0) 0 12 1))) (v := .int 1) 0 12 tyX5 tyX5_ok nmX5 in_X5 gM_0 rfl (by decide) m_f_X5_83 rfl (tyX5_ok 12 (by decide)) rfl rfl (Nat.le_of_ble_eq_true rfl) fM_0_12 dX5_readText_38 ?_
      refine s_aload_n E 0 rfl dX5_readText_41 rfl ?_
      refine s_get E (v := .ref (q 1)) 0 0 in_X5 gM_0 rfl (by decide) m_f_X5_7 rfl dX5_readText_42 ?_
      refine s_iconst E (v := 0) dX5_readText_45 ki_0 ?_
      refine s_aload_n E 0 rfl dX5_readText_46 rfl ?_
      refine s_bipush E (v := 12) dX5_readText_47 kb_12 ?_
      obtain ⟨u3, e3, h⟩ := bnd_some h
      refine s_callVi E kf_X5_figure m_l_X5_91 (c_X5_figure q (up2 (up2 (up2 (up2 σ 0 12 0) 0 13 (-9)) 0 2 0) 0 12 1) 12 u3 e3) ⟨rfl, rfl, by decide, by decide⟩ (q0 := 0) rfl rfl rfl rfl rfl (Nat.le_of_ble_eq_true rfl) dX5_readText_49 ?_
      refine s_iast E (i := 0) (w' := (wM cI cZ q (up2 u3.2 1 0 u3.1))) 1 gM_1 vin_0_5 aM_1 dX5_readText_52 ?_
      refine s_aload_n E 0 rfl dX5_readText_53 rfl ?_
      refine s_get E (v := .ref (q 1)) 0 0 in_X5 gM_0 rfl (by decide) m_f_X5_7 rfl dX5_readText_54 ?_
      refine s_iconst E (v := 1) dX5_readText_57 ki_1 ?_
      refine s_aload_n E 0 rfl dX5_readText_58 rfl ?_
      refine s_bipush E (v := 14) dX5_readText_59 kb_14 ?_
      obtain ⟨u4, e4, h⟩ := bnd_some h
      refine s_callVi E kf_X5_figure m_l_X5_91 (c_X5_figure q (up2 u3.2 1 0 u3.1) 14 u4 e4) ⟨rfl, rfl, by decide, by decide⟩ (q0 := 0) rfl rfl rfl rfl rfl (Nat.le_of_ble_eq_true rfl) dX5_readText_61 ?_
      refine s_iast E (i := 1) (w' := (wM cI cZ q (up2 u4.2 1 1 u4.1))) 1 gM_1 vin_1_5 aM_1 dX5_readText_64 ?_
      refine s_aload_n E 0 rfl dX5_readText_65 rfl ?_
      refine s_get E (v := .ref (q 1)) 0 0 in_X5 gM_0 rfl (by decide) m_f_X5_7 rfl dX5_readText_66 ?_
      refine s_iconst E (v := 2) dX5_readText_69 ki_2 ?_
      refine s_aload_n E 0 rfl dX5_readText_70 rfl ?_
      refine s_bipush E (v := 14) dX5_readText_71 kb_14 ?_
      obtain ⟨u5, e5, h⟩ := bnd_some h
      refine s_callVi E kf_X5_figure m_l_X5_91 (c_X5_figure q (up2 u4.2 1 1 u4.1) 14 u5 e5) ⟨rfl, rfl, by decide, by decide⟩ (q0 := 0) rfl rfl rfl rfl rfl (Nat.le_of_ble_eq_true rfl) dX5_readText_73 ?_
      refine s_iast E (i := 2) (w' := (wM cI cZ q (up2 u5.2 1 2 u5.1))) 1 gM_1 vin_2_5 aM_1 dX5_readText_76 ?_
      refine s_aload_n E 0 rfl dX5_readText_77 rfl ?_
      refine s_get E (v := .ref (q 1)) 0 0 in_X5 gM_0 rfl (by decide) m_f_X5_7 rfl dX5_readText_78 ?_
      refine s_iconst E (v := 3) dX5_readText_81 ki_3 ?_
      refine s_aload_n E 0 rfl dX5_readText_82 rfl ?_
      refine s_sipush E (v := 510) dX5_readText_83 ks_510 ?_
      obtain ⟨u6, e6, h⟩ := bnd_some h
      refine s_callVi E kf_X5_figure m_l_X5_91 (c_X5_figure q (up2 u5.2 1 2 u5.1) 510 u6 e6) ⟨rfl, rfl, by decide, by decide⟩ (q0 := 0) rfl rfl rfl rfl rfl (Nat.le_of_ble_eq_true rfl) dX5_readText_86 ?_
      refine s_iast E (i := 3) (w' := (wM cI cZ q (up2 u6.2 1 3 u6.1))) 1 gM_1 vin_3_5 aM_1 dX5_readText_89 ?_
      refine s_aload_n E 0 rfl dX5_readText_90 rfl ?_
      refine s_get E (v := .ref (q 1)) 0 0 in_X5 gM_0 rfl (by decide) m_f_X5_7 rfl dX5_readText_91 ?_
      refine s_iconst E (v := 4) dX5_readText_94 ki_4 ?_
      refine s_aload_n E 0 rfl dX5_readText_95 rfl ?_
      refine s_sipush E (v := 1023) dX5_readText_96 ks_1023 ?_
      obtain ⟨u7, e7, h⟩ := bnd_some h
      refine s_callVi E kf_X5_figure m_l_X5_91 (c_X5_figure q (up2 u6.2 1 3 u6.1) 1023 u7 e7) ⟨rfl, rfl, by decide, by decide⟩ (q0 := 0) rfl rfl rfl rfl rfl (Nat.le_of_ble_eq_true rfl) dX5_readText_99 ?_
      refine s_iast E (i := 4) (w' := (wM cI cZ q (up2 u7.2 1 4 u7.1))) 1 gM_1 vin_4_5 aM_1 dX5_readText_102 ?_
      obtain ⟨u22, e22, h⟩ := bnd_some h
      refine w_X5_readText_L103 E q fuel (up2 u7.2 1 4 u7.1) u22 e22 ?_
      refine s_aload_n E 0 rfl dX5_readText_267 rfl ?_
      refine s_geti E (y := (u22 0 13)) 0 13 in_X5 gM_0 rfl (by decide) m_f_X5_80 rfl rfl dX5_readText_268 ?_
      obtain rfl := Option.some.inj h
      exact s_iret E rfl rfl dX5_readText_271
    · have h := (if_neg c2).symm.trans h
      refine s_iconst E (v := 0) dX5_readText_34 ki_0 ?_
      obtain rfl := Option.some.inj h
      exact s_iret E rfl rfl dX5_readText_35
end
abbrev rm_X5_fault : Room := { frames := 3, cells := 0, slots := 0, locals := 69 }
section
noncomputable def f_X5_fault (σ : Nat → Nat → Int32) : Option (Int32 × (Nat → Nat → Int32)) :=
  ((f_X5_readText σ).bind fun u1 => (some (u1.1, u1.2)))
set_option maxRecDepth 100000 in
set_option maxHeartbeats 4000000 in
theorem c_X5_fault (q : Nat → Nat) (σ : Nat → Nat → Int32) (z : (Int32 × (Nat → Nat → Int32))) (h : f_X5_fault σ = some z) : CT l dC dI cI cZ A yX5_fault cX5_fault 1 (some .int) rm_X5_fault [.ref (q 0)] (wM cI cZ q σ) (wM cI cZ q z.2) (some (.int z.1)) := by
  refine b_met (by decide) (Nat.le_of_ble_eq_true rfl) ?_
  intro p e s m below meth c E
  have E : EV p s m _ meth c dC dI cI cZ cX5_fault 1 RX5 (some .int) := E
  show GG p l e rm_X5_fault s m _ below meth c _ A dC dI 1 (wM cI cZ q σ) 0 [(0, .ref (q 0))] []
  unfold f_X5_fault at h
  refine s_aload_n E 0 rfl dX5_fault_0 rfl ?_
  obtain ⟨u1, e1, h⟩ := bnd_some h
  refine s_callVi E kf_X5_readText m_l_X5_95 (c_X5_readText q σ u1 e1) ⟨rfl, rfl, by decide, by decide⟩ (q0 := 0) rfl rfl rfl rfl rfl (Nat.le_of_ble_eq_true rfl) dX5_fault_1 ?_
  obtain rfl := Option.some.inj h
  exact s_iret E rfl rfl dX5_fault_4
end
abbrev rm_X5_ferry : Room := { frames := 3, cells := 0, slots := 0, locals := 69 }
section
noncomputable def f_X5_ferry_L14 : Nat → (Nat → Nat → Int32) → Int32 → Option (Nat → Nat → Int32)
  | 0, _, _ => none
  | n + 1, σ, y1 =>
    (if 5 ≤ y1 then (some σ) else (chk y1 5 (chk y1 5 (f_X5_ferry_L14 n (up2 σ 3 (y1.toNatClampNeg) (σ 1 (y1.toNatClampNeg))) (y1 + 1)))))
set_option maxRecDepth 100000 in
set_option maxHeartbeats 4000000 in
theorem w_X5_ferry_L14 (E : EV p s m args meth c dC dI cI cZ cX5_ferry 2 RX5 (some .int)) (q : Nat → Nat) : ∀ (n : Nat) (σ : Nat → Nat → Int32) (y1 : Int32) (z : (Nat → Nat → Int32)), f_X5_ferry_L14 n σ y1 = some z → GG p l e rm_X5_ferry s m args below meth c Q A dC dI 2 (wM cI cZ q z) 37 [(0, .ref (q 0))] [] → GG p l e rm_X5_ferry s m args below meth c Q A dC dI 2 (wM cI cZ q σ) 14 [(0, .ref (q 0)), (1, .int y1)] [] := by
  intro n
  induction n with
  | zero =>
    intro σ y1 z h
    rw [f_X5_ferry_L14] at h
    cases h
  | succ n ih =>
    intro σ y1 z h hK
    rw [f_X5_ferry_L14] at h
    refine s_iload_n E 1 rfl dX5_ferry_14 rfl ?_
    refine s_iconst E (v := 5) dX5_ferry_15 ki_5 ?_
    refine s_icmp_ge E 37 dX5_ferry_16 (by decide) (fun c3 => ?_) (fun c3 => ?_)
    · have h := (if_pos c3).symm.trans h
      refine s_sub E (lv' := [(0, .ref (q 0))]) [0] rfl ?_
      obtain rfl := Option.some.inj h
      exact hK
    · have h := (if_neg c3).symm.trans h
      refine s_aload_n E 0 rfl dX5_ferry_19 rfl ?_
      refine s_get E (v := .ref (q 3)) 0 3 in_X5 gM_0 rfl (by decide) m_f_X5_16 rfl dX5_ferry_20 ?_
      refine s_iload_n E 1 rfl dX5_ferry_23 rfl ?_
      refine s_aload_n E 0 rfl dX5_ferry_24 rfl ?_
      refine s_get E (v := .ref (q 1)) 0 0 in_X5 gM_0 rfl (by decide) m_f_X5_7 rfl dX5_ferry_25 ?_
      refine s_iload_n E 1 rfl dX5_ferry_28 rfl ?_
      obtain ⟨b4, h⟩ := chk_some h
      refine s_iald E (v := (σ 1 (y1.toNatClampNeg))) 1 gM_1 b4 rfl dX5_ferry_29 ?_
      obtain ⟨b5, h⟩ := chk_some h
      refine s_iast E (w' := (wM cI cZ q (up2 σ 3 (y1.toNatClampNeg) (σ 1 (y1.toNatClampNeg))))) 3 gM_3 b5 aM_3 dX5_ferry_30 ?_
      refine s_iinc E (v := (y1 + 1)) (lv' := [(0, .ref (q 0)), (1, .int (y1 + 1))]) 1 rfl dX5_ferry_31 ki_1 rfl rfl rfl rfl (by decide) ?_
      refine s_goto E 14 dX5_ferry_34 (by decide) ?_
      exact ih (up2 σ 3 (y1.toNatClampNeg) (σ 1 (y1.toNatClampNeg))) (y1 + 1) z h hK
noncomputable def f_X5_ferry_L47 : Nat → (Nat → Nat → Int32) → Int32 → Option (Nat → Nat → Int32)
  | 0, _, _ => none
  | n + 1, σ, y1 =>
    (if (σ 0 5) ≤ y1 then (some σ) else (chk (3 * y1) 24 (chk (3 * y1) 24 (chk ((3 * y1) + 1) 24 (chk ((3 * y1) + 1) 24 (chk ((3 * y1) + 2) 24 (chk ((3 * y1) + 2) 24 (chk y1 8 (chk (3 * y1) 24 (chk y1 8 (chk y1 8 (f_X5_ferry_L47 n (up2 (up2 (up2 (up2 (up2 (up2 σ 4 ((3 * y1).toNatClampNeg) (σ 2 ((3 * y1).toNatClampNeg))) 4 (((3 * y1) + 1).toNatClampNeg) (σ 2 (((3 * y1) + 1).toNatClampNeg))) 4 (((3 * y1) + 2).toNatClampNeg) (σ 2 (((3 * y1) + 2).toNatClampNeg))) 5 (y1.toNatClampNeg) 0) 6 (y1.toNatClampNeg) ((up2 (up2 (up2 σ 4 ((3 * y1).toNatClampNeg) (σ 2 ((3 * y1).toNatClampNeg))) 4 (((3 * y1) + 1).toNatClampNeg) (σ 2 (((3 * y1) + 1).toNatClampNeg))) 4 (((3 * y1) + 2).toNatClampNeg) (σ 2 (((3 * y1) + 2).toNatClampNeg))) 4 ((3 * y1).toNatClampNeg))) 7 (y1.toNatClampNeg) 10) (y1 + 1)))))))))))))
set_option maxRecDepth 100000 in
set_option maxHeartbeats 4000000 in
theorem w_X5_ferry_L47 (E : EV p s m args meth c dC dI cI cZ cX5_ferry 2 RX5 (some .int)) (q : Nat → Nat) : ∀ (n : Nat) (σ : Nat → Nat → Int32) (y1 : Int32) (z : (Nat → Nat → Int32)), f_X5_ferry_L47 n σ y1 = some z → GG p l e rm_X5_ferry s m args below meth c Q A dC dI 2 (wM cI cZ q z) 146 [(0, .ref (q 0))] [] → GG p l e rm_X5_ferry s m args below meth c Q A dC dI 2 (wM cI cZ q σ) 47 [(0, .ref (q 0)), (1, .int y1)] [] := by
  intro n
  induction n with
  | zero =>
    intro σ y1 z h
    rw [f_X5_ferry_L47] at h
    cases h
  | succ n ih =>
    intro σ y1 z h hK
    rw [f_X5_ferry_L47] at h
    refine s_iload_n E 1 rfl dX5_ferry_47 rfl ?_
    refine s_aload_n E 0 rfl dX5_ferry_48 rfl ?_
    refine s_geti E (y := (σ 0 5)) 0 5 in_X5 gM_0 rfl (by decide) m_f_X5_99 rfl rfl dX5_ferry_49 ?_
    refine s_icmp_ge E 146 dX5_ferry_52 (by decide) (fun c7 => ?_) (fun c7 => ?_)
    · have h := (if_pos c7).symm.trans h
      refine s_sub E (lv' := [(0, .ref (q 0))]) [0] rfl ?_
      obtain rfl := Option.some.inj h
      exact hK
    · have h := (if_neg c7).symm.trans h
      refine s_aload_n E 0 rfl dX5_ferry_55 rfl ?_
      refine s_get E (v := .ref (q 4)) 0 4 in_X5 gM_0 rfl (by decide) m_f_X5_19 rfl dX5_ferry_56 ?_
      refine s_iconst E (v := 3) dX5_ferry_59 ki_3 ?_
      refine s_iload_n E 1 rfl dX5_ferry_60 rfl ?_
      refine s_imul E dX5_ferry_61 ?_
      refine s_aload_n E 0 rfl dX5_ferry_62 rfl ?_
      refine s_get E (v := .ref (q 2)) 0 1 in_X5 gM_0 rfl (by decide) m_f_X5_13 rfl dX5_ferry_63 ?_
      refine s_iconst E (v := 3) dX5_ferry_66 ki_3 ?_
      refine s_iload_n E 1 rfl dX5_ferry_67 rfl ?_
      refine s_imul E dX5_ferry_68 ?_
      obtain ⟨b8, h⟩ := chk_some h
      refine s_iald E (v := (σ 2 ((3 * y1).toNatClampNeg))) 2 gM_2 b8 rfl dX5_ferry_69 ?_
      obtain ⟨b9, h⟩ := chk_some h
      refine s_iast E (w' := (wM cI cZ q (up2 σ 4 ((3 * y1).toNatClampNeg) (σ 2 ((3 * y1).toNatClampNeg))))) 4 gM_4 b9 aM_4 dX5_ferry_70 ?_
      refine s_aload_n E 0 rfl dX5_ferry_71 rfl ?_
      refine s_get E (v := .ref (q 4)) 0 4 in_X5 gM_0 rfl (by decide) m_f_X5_19 rfl dX5_ferry_72 ?_
      refine s_iconst E (v := 3) dX5_ferry_75 ki_3 ?_
      refine s_iload_n E 1 rfl dX5_ferry_76 rfl ?_
      refine s_imul E dX5_ferry_77 ?_
      refine s_iconst E (v := 1) dX5_ferry_78 ki_1 ?_
      refine s_iadd E dX5_ferry_79 ?_
      refine s_aload_n E 0 rfl dX5_ferry_80 rfl ?_
      refine s_get E (v := .ref (q 2)) 0 1 in_X5 gM_0 rfl (by decide) m_f_X5_13 rfl dX5_ferry_81 ?_
      refine s_iconst E (v := 3) dX5_ferry_84 ki_3 ?_
      refine s_iload_n E 1 rfl dX5_ferry_85 rfl ?_
      refine s_imul E dX5_ferry_86 ?_
      refine s_iconst E (v := 1) dX5_ferry_87 ki_1 ?_
      refine s_iadd E dX5_ferry_88 ?_
      obtain ⟨b10, h⟩ := chk_some h
      refine s_iald E (v := (σ 2 (((3 * y1) + 1).toNatClampNeg))) 2 gM_2 b10 (up2_n rfl) dX5_ferry_89 ?_
      obtain ⟨b11, h⟩ := chk_some h
      refine s_iast E (w' := (wM cI cZ q (up2 (up2 σ 4 ((3 * y1).toNatClampNeg) (σ 2 ((3 * y1).toNatClampNeg))) 4 (((3 * y1) + 1).toNatClampNeg) (σ 2 (((3 * y1) + 1).toNatClampNeg))))) 4 gM_4 b11 aM_4 dX5_ferry_90 ?_
      refine s_aload_n E 0 rfl dX5_ferry_91 rfl ?_
      refine s_get E (v := .ref (q 4)) 0 4 in_X5 gM_0 rfl (by decide) m_f_X5_19 rfl dX5_ferry_92 ?_
      refine s_iconst E (v := 3) dX5_ferry_95 ki_3 ?_
      refine s_iload_n E 1 rfl dX5_ferry_96 rfl ?_
      refine s_imul E dX5_ferry_97 ?_
      refine s_iconst E (v := 2) dX5_ferry_98 ki_2 ?_
      refine s_iadd E dX5_ferry_99 ?_
      refine s_aload_n E 0 rfl dX5_ferry_100 rfl ?_
      refine s_get E (v := .ref (q 2)) 0 1 in_X5 gM_0 rfl (by decide) m_f_X5_13 rfl dX5_ferry_101 ?_
      refine s_iconst E (v := 3) dX5_ferry_104 ki_3 ?_
      refine s_iload_n E 1 rfl dX5_ferry_105 rfl ?_
      refine s_imul E dX5_ferry_106 ?_
      refine s_iconst E (v := 2) dX5_ferry_107 ki_2 ?_
      refine s_iadd E dX5_ferry_108 ?_
      obtain ⟨b12, h⟩ := chk_some h
      refine s_iald E (v := (σ 2 (((3 * y1) + 2).toNatClampNeg))) 2 gM_2 b12 ((up2_n rfl).trans (up2_n rfl)) dX5_ferry_109 ?_
      obtain ⟨b13, h⟩ := chk_some h
      refine s_iast E (w' := (wM cI cZ q (up2 (up2 (up2 σ 4 ((3 * y1).toNatClampNeg) (σ 2 ((3 * y1).toNatClampNeg))) 4 (((3 * y1) + 1).toNatClampNeg) (σ 2 (((3 * y1) + 1).toNatClampNeg))) 4 (((3 * y1) + 2).toNatClampNeg) (σ 2 (((3 * y1) + 2).toNatClampNeg))))) 4 gM_4 b13 aM_4 dX5_ferry_110 ?_
      refine s_aload_n E 0 rfl dX5_ferry_111 rfl ?_
      refine s_get E (v := .ref (q 5)) 0 6 in_X5 gM_0 rfl (by decide) m_f_X5_22 rfl dX5_ferry_112 ?_
      refine s_iload_n E 1 rfl dX5_ferry_115 rfl ?_
      refine s_iconst E (v := 0) dX5_ferry_116 ki_0 ?_
      obtain ⟨b14, h⟩ := chk_some h
      refine s_iast E (w' := (wM cI cZ q (up2 (up2 (up2 (up2 σ 4 ((3 * y1).toNatClampNeg) (σ 2 ((3 * y1).toNatClampNeg))) 4 (((3 * y1) + 1).toNatClampNeg) (σ 2 (((3 * y1) + 1).toNatClampNeg))) 4 (((3 * y1) + 2).toNatClampNeg) (σ 2 (((3 * y1) + 2).toNatClampNeg))) 5 (y1.toNatClampNeg) 0))) 5 gM_5 b14 aM_5 dX5_ferry_117 ?_
      refine s_aload_n E 0 rfl dX5_ferry_118 rfl ?_
      refine s_get E (v := .ref (q 6)) 0 7 in_X5 gM_0 rfl (by decide) m_f_X5_25 rfl dX5_ferry_119 ?_
      refine s_iload_n E 1 rfl dX5_ferry_122 rfl ?_
      refine s_aload_n E 0 rfl dX5_ferry_123 rfl ?_
      refine s_get E (v := .ref (q 4)) 0 4 in_X5 gM_0 rfl (by decide) m_f_X5_19 rfl dX5_ferry_124 ?_
      refine s_iconst E (v := 3) dX5_ferry_127 ki_3 ?_
      refine s_iload_n E 1 rfl dX5_ferry_128 rfl ?_
      refine s_imul E dX5_ferry_129 ?_
      obtain ⟨b15, h⟩ := chk_some h
      refine s_iald E (v := ((up2 (up2 (up2 σ 4 ((3 * y1).toNatClampNeg) (σ 2 ((3 * y1).toNatClampNeg))) 4 (((3 * y1) + 1).toNatClampNeg) (σ 2 (((3 * y1) + 1).toNatClampNeg))) 4 (((3 * y1) + 2).toNatClampNeg) (σ 2 (((3 * y1) + 2).toNatClampNeg))) 4 ((3 * y1).toNatClampNeg))) 4 gM_4 b15 (up2_n rfl) dX5_ferry_130 ?_
      obtain ⟨b16, h⟩ := chk_some h
      refine s_iast E (w' := (wM cI cZ q (up2 (up2 (up2 (up2 (up2 σ 4 ((3 * y1).toNatClampNeg) (σ 2 ((3 * y1).toNatClampNeg))) 4 (((3 * y1) + 1).toNatClampNeg) (σ 2 (((3 * y1) + 1).toNatClampNeg))) 4 (((3 * y1) + 2).toNatClampNeg) (σ 2 (((3 * y1) + 2).toNatClampNeg))) 5 (y1.toNatClampNeg) 0) 6 (y1.toNatClampNeg) ((up2 (up2 (up2 σ 4 ((3 * y1).toNatClampNeg) (σ 2 ((3 * y1).toNatClampNeg))) 4 (((3 * y1) + 1).toNatClampNeg) (σ 2 (((3 * y1) + 1).toNatClampNeg))) 4 (((3 * y1) + 2).toNatClampNeg) (σ 2 (((3 * y1) + 2).toNatClampNeg))) 4 ((3 * y1).toNatClampNeg))))) 6 gM_6 b16 aM_6 dX5_ferry_131 ?_
      refine s_aload_n E 0 rfl dX5_ferry_132 rfl ?_
      refine s_get E (v := .ref (q 7)) 0 8 in_X5 gM_0 rfl (by decide) m_f_X5_28 rfl dX5_ferry_133 ?_
      refine s_iload_n E 1 rfl dX5_ferry_136 rfl ?_
      refine s_bipush E (v := 10) dX5_ferry_137 kb_10 ?_
      obtain ⟨b17, h⟩ := chk_some h
      refine s_iast E (w' := (wM cI cZ q (up2 (up2 (up2 (up2 (up2 (up2 σ 4 ((3 * y1).toNatClampNeg) (σ 2 ((3 * y1).toNatClampNeg))) 4 (((3 * y1) + 1).toNatClampNeg) (σ 2 (((3 * y1) + 1).toNatClampNeg))) 4 (((3 * y1) + 2).toNatClampNeg) (σ 2 (((3 * y1) + 2).toNatClampNeg))) 5 (y1.toNatClampNeg) 0) 6 (y1.toNatClampNeg) ((up2 (up2 (up2 σ 4 ((3 * y1).toNatClampNeg) (σ 2 ((3 * y1).toNatClampNeg))) 4 (((3 * y1) + 1).toNatClampNeg) (σ 2 (((3 * y1) + 1).toNatClampNeg))) 4 (((3 * y1) + 2).toNatClampNeg) (σ 2 (((3 * y1) + 2).toNatClampNeg))) 4 ((3 * y1).toNatClampNeg))) 7 (y1.toNatClampNeg) 10))) 7 gM_7 b17 aM_7 dX5_ferry_139 ?_
      refine s_iinc E (v := (y1 + 1)) (lv' := [(0, .ref (q 0)), (1, .int (y1 + 1))]) 1 rfl dX5_ferry_140 ki_1 rfl rfl rfl rfl (by decide) ?_
      refine s_goto E 47 dX5_ferry_143 (by decide) ?_
      exact ih (up2 (up2 (up2 (up2 (up2 (up2 σ 4 ((3 * y1).toNatClampNeg) (σ 2 ((3 * y1).toNatClampNeg))) 4 (((3 * y1) + 1).toNatClampNeg) (σ 2 (((3 * y1) + 1).toNatClampNeg))) 4 (((3 * y1) + 2).toNatClampNeg) (σ 2 (((3 * y1) + 2).toNatClampNeg))) 5 (y1.toNatClampNeg) 0) 6 (y1.toNatClampNeg) ((up2 (up2 (up2 σ 4 ((3 * y1).toNatClampNeg) (σ 2 ((3 * y1).toNatClampNeg))) 4 (((3 * y1) + 1).toNatClampNeg) (σ 2 (((3 * y1) + 1).toNatClampNeg))) 4 (((3 * y1) + 2).toNatClampNeg) (σ 2 (((3 * y1) + 2).toNatClampNeg))) 4 ((3 * y1).toNatClampNeg))) 7 (y1.toNatClampNeg) 10) (y1 + 1) z h hK
noncomputable def f_X5_ferry (σ : Nat → Nat → Int32) : Option (Int32 × (Nat → Nat → Int32)) :=
  ((f_X5_readText σ).bind fun u1 => (if u1.1 = (-9) then ((f_X5_ferry_L14 fuel u1.2 0).bind fun u6 => ((f_X5_ferry_L47 fuel (up2 u6 0 5 (u6 0 2)) 0).bind fun u18 => (some ((u18 0 5), (up2 (up2 (up2 (up2 u18 0 9 0) 0 14 0) 14 0 0) 14 1 0))))) else (some ((-3), u1.2))))
set_option maxRecDepth 100000 in
set_option maxHeartbeats 4000000 in
theorem c_X5_ferry (q : Nat → Nat) (σ : Nat → Nat → Int32) (z : (Int32 × (Nat → Nat → Int32))) (h : f_X5_ferry σ = some z) : CT l dC dI cI cZ A yX5_ferry cX5_ferry 2 (some .int) rm_X5_ferry [.ref (q 0)] (wM cI cZ q σ) (wM cI cZ q z.2) (some (.int z.1)) := by
  refine b_met (by decide) (Nat.le_of_ble_eq_true rfl) ?_
  intro p e s m below meth c E
  have E : EV p s m _ meth c dC dI cI cZ cX5_ferry 2 RX5 (some .int) := E
  show GG p l e rm_X5_ferry s m _ below meth c _ A dC dI 2 (wM cI cZ q σ) 0 [(0, .ref (q 0))] []
  unfold f_X5_ferry at h
  refine s_aload_n E 0 rfl dX5_ferry_0 rfl ?_
  obtain ⟨u1, e1, h⟩ := bnd_some h
  refine s_callVi E kf_X5_readText m_l_X5_95 (c_X5_readText q σ u1 e1) ⟨rfl, rfl, by decide, by decide⟩ (q0 := 0) rfl rfl rfl rfl rfl (Nat.le_of_ble_eq_true rfl) dX5_ferry_1 ?_
  refine s_bipush E (v := (-9)) dX5_ferry_4 kb_m9 ?_
  refine s_icmp_eq E 12 dX5_ferry_6 (by decide) (fun c2 => ?_) (fun c2 => ?_)
  · have h := (if_pos c2).symm.trans h
    refine s_iconst E (v := 0) dX5_ferry_12 ki_0 ?_
    refine s_istore_n E (lv' := [(0, .ref (q 0)), (1, .int 0)]) dX5_ferry_13 rfl rfl rfl rfl (by decide) ?_
    obtain ⟨u6, e6, h⟩ := bnd_some h
    refine w_X5_ferry_L14 E q fuel u1.2 0 u6 e6 ?_
    refine s_aload_n E 0 rfl dX5_ferry_37 rfl ?_
    refine s_aload_n E 0 rfl dX5_ferry_38 rfl ?_
    refine s_geti E (y := (u6 0 2)) 0 2 in_X5 gM_0 rfl (by decide) m_f_X5_88 rfl rfl dX5_ferry_39 ?_
    refine s_put E (w' := (wM cI cZ q (up2 u6 0 5 (u6 0 2)))) (v := .int (u6 0 2)) 0 5 tyX5 tyX5_ok nmX5 in_X5 gM_0 rfl (by decide) m_f_X5_99 rfl (tyX5_ok 5 (by decide)) rfl rfl (Nat.le_of_ble_eq_true rfl) fM_0_5 dX5_ferry_42 ?_
    refine s_iconst E (v := 0) dX5_ferry_45 ki_0 ?_
    refine s_istore_n E (lv' := [(0, .ref (q 0)), (1, .int 0)]) dX5_ferry_46 rfl rfl rfl rfl (by decide) ?_
    obtain ⟨u18, e18, h⟩ := bnd_some h
    refine w_X5_ferry_L47 E q fuel (up2 u6 0 5 (u6 0 2)) 0 u18 e18 ?_
    refine s_aload_n E 0 rfl dX5_ferry_146 rfl ?_
    refine s_iconst E (v := 0) dX5_ferry_147 ki_0 ?_
    refine s_put E (w' := (wM cI cZ q (up2 u18 0 9 0))) (v := .int 0) 0 9 tyX5 tyX5_ok nmX5 in_X5 gM_0 rfl (by decide) m_f_X5_102 rfl (tyX5_ok 9 (by decide)) rfl rfl (Nat.le_of_ble_eq_true rfl) fM_0_9 dX5_ferry_148 ?_
    refine s_aload_n E 0 rfl dX5_ferry_151 rfl ?_
    refine s_iconst E (v := 0) dX5_ferry_152 ki_0 ?_
    refine s_put E (w' := (wM cI cZ q (up2 (up2 u18 0 9 0) 0 14 0))) (v := .int 0) 0 14 tyX5 tyX5_ok nmX5 in_X5 gM_0 rfl (by decide) m_f_X5_105 rfl (tyX5_ok 14 (by decide)) rfl rfl (Nat.le_of_ble_eq_true rfl) fM_0_14 dX5_ferry_153 ?_
    refine s_aload_n E 0 rfl dX5_ferry_156 rfl ?_
    refine s_get E (v := .ref (q 14)) 0 23 in_X5 gM_0 rfl (by decide) m_f_X5_50 rfl dX5_ferry_157 ?_
    refine s_iconst E (v := 0) dX5_ferry_160 ki_0 ?_
    refine s_iconst E (v := 0) dX5_ferry_161 ki_0 ?_
    refine s_zast E (i := 0) (w' := (wM cI cZ q (up2 (up2 (up2 u18 0 9 0) 0 14 0) 14 0 0))) 14 gM_14 vin_0_2 aM_14_0 dX5_ferry_162 ?_
    refine s_aload_n E 0 rfl dX5_ferry_163 rfl ?_
    refine s_get E (v := .ref (q 14)) 0 23 in_X5 gM_0 rfl (by decide) m_f_X5_50 rfl dX5_ferry_164 ?_
    refine s_iconst E (v := 1) dX5_ferry_167 ki_1 ?_
    refine s_iconst E (v := 0) dX5_ferry_168 ki_0 ?_
    refine s_zast E (i := 1) (w' := (wM cI cZ q (up2 (up2 (up2 (up2 u18 0 9 0) 0 14 0) 14 0 0) 14 1 0))) 14 gM_14 vin_1_2 aM_14_0 dX5_ferry_169 ?_
    refine s_aload_n E 0 rfl dX5_ferry_170 rfl ?_
    refine s_geti E (y := (u18 0 5)) 0 5 in_X5 gM_0 rfl (by decide) m_f_X5_99 rfl ((up2_n rfl).trans ((up2_n rfl).trans ((up2_m rfl).trans (up2_m rfl)))) dX5_ferry_171 ?_
    obtain rfl := Option.some.inj h
    exact s_iret E rfl rfl dX5_ferry_174
  · have h := (if_neg c2).symm.trans h
    refine s_bipush E (v := (-3)) dX5_ferry_9 kb_m3 ?_
    obtain rfl := Option.some.inj h
    exact s_iret E rfl rfl dX5_ferry_11
end
abbrev rm_X5_boat : Room := { frames := 1, cells := 0, slots := 0, locals := 25 }
section
noncomputable def f_X5_boat (σ : Nat → Nat → Int32) (x1 : Int32) : Option Int32 :=
  (if (f_X5_in x1.toInt64 (0 : Int64) (4 : Int64)) = 0 then (if x1 = 5 then (some (σ 0 9)) else (some (-2))) else (chk x1 5 (some (σ 3 (x1.toNatClampNeg)))))
set_option maxRecDepth 100000 in
set_option maxHeartbeats 4000000 in
theorem c_X5_boat (q : Nat → Nat) (σ : Nat → Nat → Int32) (x1 : Int32) (z : Int32) (h : f_X5_boat σ x1 = some z) : CT l dC dI cI cZ A yX5_boat cX5_boat 2 (some .int) rm_X5_boat [.ref (q 0), .int x1] (wM cI cZ q σ) (wM cI cZ q σ) (some (.int z)) := by
  refine b_met (by decide) (Nat.le_of_ble_eq_true rfl) ?_
  intro p e s m below meth c E
  have E : EV p s m _ meth c dC dI cI cZ cX5_boat 2 RX5 (some .int) := E
  show GG p l e rm_X5_boat s m _ below meth c _ A dC dI 2 (wM cI cZ q σ) 0 [(0, .ref (q 0)), (1, .int x1)] []
  unfold f_X5_boat at h
  refine s_iload_n E 1 rfl dX5_boat_0 rfl ?_
  refine s_i2l E dX5_boat_1 ?_
  refine s_lconst E (v := 0) dX5_boat_2 (by decide) ?_
  refine s_ldc2 E (v := (4)) m_c_X5_108 dX5_boat_3 ?_
  refine s_callSi E kf_X5_in m_l_X5_70 (c_X5_in (wM cI cZ q σ) x1.toInt64 (0 : Int64) (4 : Int64)) ⟨rfl, rfl, by decide, by decide⟩ rfl rfl (Nat.le_of_ble_eq_true rfl) dX5_boat_6 ?_
  refine s_if_eq E 21 dX5_boat_9 (by decide) (fun c1 => ?_) (fun c1 => ?_)
  · have h := (if_pos c1).symm.trans h
    refine s_iload_n E 1 rfl dX5_boat_21 rfl ?_
    refine s_iconst E (v := 5) dX5_boat_22 ki_5 ?_
    refine s_icmp_ne E 33 dX5_boat_23 (by decide) (fun c2 => ?_) (fun c2 => ?_)
    · have h := (if_pos c2).symm.trans h
      refine s_aload_n E 0 rfl dX5_boat_26 rfl ?_
      refine s_geti E (y := (σ 0 9)) 0 9 in_X5 gM_0 rfl (by decide) m_f_X5_102 rfl rfl dX5_boat_27 ?_
      refine s_goto E 35 dX5_boat_30 (by decide) ?_
      obtain rfl := Option.some.inj h
      exact s_iret E rfl rfl dX5_boat_35
    · have h := (if_neg c2).symm.trans h
      refine s_bipush E (v := (-2)) dX5_boat_33 kb_m2 ?_
      obtain rfl := Option.some.inj h
      exact s_iret E rfl rfl dX5_boat_35
  · have h := (if_neg c1).symm.trans h
    refine s_aload_n E 0 rfl dX5_boat_12 rfl ?_
    refine s_get E (v := .ref (q 3)) 0 3 in_X5 gM_0 rfl (by decide) m_f_X5_16 rfl dX5_boat_13 ?_
    refine s_iload_n E 1 rfl dX5_boat_16 rfl ?_
    obtain ⟨b3, h⟩ := chk_some h
    refine s_iald E (v := (σ 3 (x1.toNatClampNeg))) 3 gM_3 b3 rfl dX5_boat_17 ?_
    refine s_goto E 35 dX5_boat_18 (by decide) ?_
    obtain rfl := Option.some.inj h
    exact s_iret E rfl rfl dX5_boat_35
end
abbrev rm_X5_isPerson : Room := { frames := 1, cells := 0, slots := 0, locals := 25 }
section
noncomputable def f_X5_isPerson (σ : Nat → Nat → Int32) (x1 : Int32) : Option Int32 :=
  (chb (f_X5_in x1.toInt64 (0 : Int64) ((σ 0 5) - 1).toInt64) (some (f_X5_in x1.toInt64 (0 : Int64) ((σ 0 5) - 1).toInt64)))
set_option maxRecDepth 100000 in
set_option maxHeartbeats 4000000 in
theorem c_X5_isPerson (q : Nat → Nat) (σ : Nat → Nat → Int32) (x1 : Int32) (z : Int32) (h : f_X5_isPerson σ x1 = some z) : CT l dC dI cI cZ A yX5_isPerson cX5_isPerson 2 (some .boolean) rm_X5_isPerson [.ref (q 0), .int x1] (wM cI cZ q σ) (wM cI cZ q σ) (some (.int z)) := by
  refine b_met (by decide) (Nat.le_of_ble_eq_true rfl) ?_
  intro p e s m below meth c E
  have E : EV p s m _ meth c dC dI cI cZ cX5_isPerson 2 RX5 (some .boolean) := E
  show GG p l e rm_X5_isPerson s m _ below meth c _ A dC dI 2 (wM cI cZ q σ) 0 [(0, .ref (q 0)), (1, .int x1)] []
  unfold f_X5_isPerson at h
  refine s_iload_n E 1 rfl dX5_isPerson_0 rfl ?_
  refine s_i2l E dX5_isPerson_1 ?_
  refine s_lconst E (v := 0) dX5_isPerson_2 (by decide) ?_
  refine s_aload_n E 0 rfl dX5_isPerson_3 rfl ?_
  refine s_geti E (y := (σ 0 5)) 0 5 in_X5 gM_0 rfl (by decide) m_f_X5_99 rfl rfl dX5_isPerson_4 ?_
  refine s_iconst E (v := 1) dX5_isPerson_7 ki_1 ?_
  refine s_isub E dX5_isPerson_8 ?_
  refine s_i2l E dX5_isPerson_9 ?_
  refine s_callSi E kf_X5_in m_l_X5_70 (c_X5_in (wM cI cZ q σ) x1.toInt64 (0 : Int64) ((σ 0 5) - 1).toInt64) ⟨rfl, rfl, by decide, by decide⟩ rfl rfl (Nat.le_of_ble_eq_true rfl) dX5_isPerson_10 ?_
  obtain ⟨b1, h⟩ := chb_some h
  obtain rfl := Option.some.inj h
  exact s_zret E b1 rfl rfl dX5_isPerson_13
end
abbrev rm_X5_person : Room := { frames := 2, cells := 0, slots := 0, locals := 46 }
section
noncomputable def f_X5_person (σ : Nat → Nat → Int32) (x1 : Int32) (x2 : Int32) : Option Int32 :=
  ((f_X5_isPerson σ x1).bind fun u1 => (if u1 = 0 then (some (-1)) else (if x2 = 0 then (chk (3 * x1) 24 (some (σ 4 ((3 * x1).toNatClampNeg)))) else (if x2 = 1 then (chk ((3 * x1) + 1) 24 (some (σ 4 (((3 * x1) + 1).toNatClampNeg)))) else (if x2 = 2 then (chk ((3 * x1) + 2) 24 (some (σ 4 (((3 * x1) + 2).toNatClampNeg)))) else (if x2 = 3 then (chk x1 8 (some ((σ 5 (x1.toNatClampNeg)) + 10))) else (if x2 = 4 then (chk x1 8 (some (σ 6 (x1.toNatClampNeg)))) else (if x2 = 5 then (chk x1 8 (some (σ 7 (x1.toNatClampNeg)))) else (some (-2))))))))))
set_option maxRecDepth 100000 in
set_option maxHeartbeats 4000000 in
theorem c_X5_person (q : Nat → Nat) (σ : Nat → Nat → Int32) (x1 : Int32) (x2 : Int32) (z : Int32) (h : f_X5_person σ x1 x2 = some z) : CT l dC dI cI cZ A yX5_person cX5_person 3 (some .int) rm_X5_person [.ref (q 0), .int x1, .int x2] (wM cI cZ q σ) (wM cI cZ q σ) (some (.int z)) := by
  refine b_met (by decide) (Nat.le_of_ble_eq_true rfl) ?_
  intro p e s m below meth c E
  have E : EV p s m _ meth c dC dI cI cZ cX5_person 3 RX5 (some .int) := E
  show GG p l e rm_X5_person s m _ below meth c _ A dC dI 3 (wM cI cZ q σ) 0 [(0, .ref (q 0)), (1, .int x1), (2, .int x2)] []
  unfold f_X5_person at h
  refine s_aload_n E 0 rfl dX5_person_0 rfl ?_
  refine s_iload_n E 1 rfl dX5_person_1 rfl ?_
  obtain ⟨u1, e1, h⟩ := bnd_some h
  refine s_callVi E kf_X5_isPerson m_l_X5_110 (c_X5_isPerson q σ x1 u1 e1) ⟨rfl, rfl, by decide, by decide⟩ (q0 := 0) rfl rfl rfl rfl rfl (Nat.le_of_ble_eq_true rfl) dX5_person_2 ?_
  refine s_if_ne E 10 dX5_person_5 (by decide) (fun c2 => ?_) (fun c2 => ?_)
  · have h := (if_pos c2).symm.trans h
    refine s_iconst E (v := (-1)) dX5_person_8 ki_m1 ?_
    obtain rfl := Option.some.inj h
    exact s_iret E rfl rfl dX5_person_9
  · have h := (if_neg c2).symm.trans h
    refine s_iload_n E 2 rfl dX5_person_10 rfl ?_
    by_cases c3 : x2 = 0
    · have h := (if_pos c3).symm.trans h
      refine s_swIn E 48 dX5_person_11 (by rw [c3]; decide) (by rw [c3]; decide) (off := 37) (by rw [c3]; decide) (by decide) ?_
      refine s_aload_n E 0 rfl dX5_person_48 rfl ?_
      refine s_get E (v := .ref (q 4)) 0 4 in_X5 gM_0 rfl (by decide) m_f_X5_19 rfl dX5_person_49 ?_
      refine s_iconst E (v := 3) dX5_person_52 ki_3 ?_
      refine s_iload_n E 1 rfl dX5_person_53 rfl ?_
      refine s_imul E dX5_person_54 ?_
      obtain ⟨b4, h⟩ := chk_some h
      refine s_iald E (v := (σ 4 ((3 * x1).toNatClampNeg))) 4 gM_4 b4 rfl dX5_person_55 ?_
      obtain rfl := Option.some.inj h
      exact s_iret E rfl rfl dX5_person_56
    · have h := (if_neg c3).symm.trans h
      by_cases c5 : x2 = 1
      · have h := (if_pos c5).symm.trans h
        refine s_swIn E 57 dX5_person_11 (by rw [c5]; decide) (by rw [c5]; decide) (off := 46) (by rw [c5]; decide) (by decide) ?_
        refine s_aload_n E 0 rfl dX5_person_57 rfl ?_
        refine s_get E (v := .ref (q 4)) 0 4 in_X5 gM_0 rfl (by decide) m_f_X5_19 rfl dX5_person_58 ?_
        refine s_iconst E (v := 3) dX5_person_61 ki_3 ?_
        refine s_iload_n E 1 rfl dX5_person_62 rfl ?_
        refine s_imul E dX5_person_63 ?_
        refine s_iconst E (v := 1) dX5_person_64 ki_1 ?_
        refine s_iadd E dX5_person_65 ?_
        obtain ⟨b6, h⟩ := chk_some h
        refine s_iald E (v := (σ 4 (((3 * x1) + 1).toNatClampNeg))) 4 gM_4 b6 rfl dX5_person_66 ?_
        obtain rfl := Option.some.inj h
        exact s_iret E rfl rfl dX5_person_67
      · have h := (if_neg c5).symm.trans h
        by_cases c7 : x2 = 2
        · have h := (if_pos c7).symm.trans h
          refine s_swIn E 68 dX5_person_11 (by rw [c7]; decide) (by rw [c7]; decide) (off := 57) (by rw [c7]; decide) (by decide) ?_
          refine s_aload_n E 0 rfl dX5_person_68 rfl ?_
          refine s_get E (v := .ref (q 4)) 0 4 in_X5 gM_0 rfl (by decide) m_f_X5_19 rfl dX5_person_69 ?_
          refine s_iconst E (v := 3) dX5_person_72 ki_3 ?_
          refine s_iload_n E 1 rfl dX5_person_73 rfl ?_
          refine s_imul E dX5_person_74 ?_
          refine s_iconst E (v := 2) dX5_person_75 ki_2 ?_
          refine s_iadd E dX5_person_76 ?_
          obtain ⟨b8, h⟩ := chk_some h
          refine s_iald E (v := (σ 4 (((3 * x1) + 2).toNatClampNeg))) 4 gM_4 b8 rfl dX5_person_77 ?_
          obtain rfl := Option.some.inj h
          exact s_iret E rfl rfl dX5_person_78
        · have h := (if_neg c7).symm.trans h
          by_cases c9 : x2 = 3
          · have h := (if_pos c9).symm.trans h
            refine s_swIn E 79 dX5_person_11 (by rw [c9]; decide) (by rw [c9]; decide) (off := 68) (by rw [c9]; decide) (by decide) ?_
            refine s_aload_n E 0 rfl dX5_person_79 rfl ?_
            refine s_get E (v := .ref (q 5)) 0 6 in_X5 gM_0 rfl (by decide) m_f_X5_22 rfl dX5_person_80 ?_
            refine s_iload_n E 1 rfl dX5_person_83 rfl ?_
            obtain ⟨b10, h⟩ := chk_some h
            refine s_iald E (v := (σ 5 (x1.toNatClampNeg))) 5 gM_5 b10 rfl dX5_person_84 ?_
            refine s_bipush E (v := 10) dX5_person_85 kb_10 ?_
            refine s_iadd E dX5_person_87 ?_
            obtain rfl := Option.some.inj h
            exact s_iret E rfl rfl dX5_person_88
          · have h := (if_neg c9).symm.trans h
            by_cases c11 : x2 = 4
            · have h := (if_pos c11).symm.trans h
              refine s_swIn E 89 dX5_person_11 (by rw [c11]; decide) (by rw [c11]; decide) (off := 78) (by rw [c11]; decide) (by decide) ?_
              refine s_aload_n E 0 rfl dX5_person_89 rfl ?_
              refine s_get E (v := .ref (q 6)) 0 7 in_X5 gM_0 rfl (by decide) m_f_X5_25 rfl dX5_person_90 ?_
              refine s_iload_n E 1 rfl dX5_person_93 rfl ?_
              obtain ⟨b12, h⟩ := chk_some h
              refine s_iald E (v := (σ 6 (x1.toNatClampNeg))) 6 gM_6 b12 rfl dX5_person_94 ?_
              obtain rfl := Option.some.inj h
              exact s_iret E rfl rfl dX5_person_95
            · have h := (if_neg c11).symm.trans h
              by_cases c13 : x2 = 5
              · have h := (if_pos c13).symm.trans h
                refine s_swIn E 96 dX5_person_11 (by rw [c13]; decide) (by rw [c13]; decide) (off := 85) (by rw [c13]; decide) (by decide) ?_
                refine s_aload_n E 0 rfl dX5_person_96 rfl ?_
                refine s_get E (v := .ref (q 7)) 0 8 in_X5 gM_0 rfl (by decide) m_f_X5_28 rfl dX5_person_97 ?_
                refine s_iload_n E 1 rfl dX5_person_100 rfl ?_
                obtain ⟨b14, h⟩ := chk_some h
                refine s_iald E (v := (σ 7 (x1.toNatClampNeg))) 7 gM_7 b14 rfl dX5_person_101 ?_
                obtain rfl := Option.some.inj h
                exact s_iret E rfl rfl dX5_person_102
              · have h := (if_neg c13).symm.trans h
                have tc3 := lv_neT (a := 0) c3 (by decide)
                have tc5 := lv_neT (a := 1) c5 (by decide)
                have tc7 := lv_neT (a := 2) c7 (by decide)
                have tc9 := lv_neT (a := 3) c9 (by decide)
                have tc11 := lv_neT (a := 4) c11 (by decide)
                have tc13 := lv_neT (a := 5) c13 (by decide)
                refine s_swOut E 103 dX5_person_11 (by omega) (by decide) ?_
                refine s_bipush E (v := (-2)) dX5_person_103 kb_m2 ?_
                obtain rfl := Option.some.inj h
                exact s_iret E rfl rfl dX5_person_105
end
abbrev rm_X5_gain : Room := { frames := 2, cells := 0, slots := 0, locals := 46 }
section
noncomputable def f_X5_gain (σ : Nat → Nat → Int32) (x1 : Int32) (x2 : Int32) : Option (Int32 × (Nat → Nat → Int32)) :=
  ((f_X5_isPerson σ x1).bind fun u1 => (if u1 = 0 then (some ((-1), σ)) else (if (f_X5_in x2.toInt64 (-3 : Int64) (3 : Int64)) = 0 then (some ((-2), σ)) else (chk x1 8 (chk x1 8 (some (((σ 5 (x1.toNatClampNeg)) + 10), (up2 σ 5 (x1.toNatClampNeg) x2))))))))
set_option maxRecDepth 100000 in
set_option maxHeartbeats 4000000 in
theorem c_X5_gain (q : Nat → Nat) (σ : Nat → Nat → Int32) (x1 : Int32) (x2 : Int32) (z : (Int32 × (Nat → Nat → Int32))) (h : f_X5_gain σ x1 x2 = some z) : CT l dC dI cI cZ A yX5_gain cX5_gain 4 (some .int) rm_X5_gain [.ref (q 0), .int x1, .int x2] (wM cI cZ q σ) (wM cI cZ q z.2) (some (.int z.1)) := by
  refine b_met (by decide) (Nat.le_of_ble_eq_true rfl) ?_
  intro p e s m below meth c E
  have E : EV p s m _ meth c dC dI cI cZ cX5_gain 4 RX5 (some .int) := E
  show GG p l e rm_X5_gain s m _ below meth c _ A dC dI 4 (wM cI cZ q σ) 0 [(0, .ref (q 0)), (1, .int x1), (2, .int x2)] []
  unfold f_X5_gain at h
  refine s_aload_n E 0 rfl dX5_gain_0 rfl ?_
  refine s_iload_n E 1 rfl dX5_gain_1 rfl ?_
  obtain ⟨u1, e1, h⟩ := bnd_some h
  refine s_callVi E kf_X5_isPerson m_l_X5_110 (c_X5_isPerson q σ x1 u1 e1) ⟨rfl, rfl, by decide, by decide⟩ (q0 := 0) rfl rfl rfl rfl rfl (Nat.le_of_ble_eq_true rfl) dX5_gain_2 ?_
  refine s_if_ne E 10 dX5_gain_5 (by decide) (fun c2 => ?_) (fun c2 => ?_)
  · have h := (if_pos c2).symm.trans h
    refine s_iconst E (v := (-1)) dX5_gain_8 ki_m1 ?_
    obtain rfl := Option.some.inj h
    exact s_iret E rfl rfl dX5_gain_9
  · have h := (if_neg c2).symm.trans h
    refine s_iload_n E 2 rfl dX5_gain_10 rfl ?_
    refine s_i2l E dX5_gain_11 ?_
    refine s_ldc2 E (v := (-3)) m_c_X5_114 dX5_gain_12 ?_
    refine s_ldc2 E (v := (3)) m_c_X5_116 dX5_gain_15 ?_
    refine s_callSi E kf_X5_in m_l_X5_70 (c_X5_in (wM cI cZ q σ) x2.toInt64 (-3 : Int64) (3 : Int64)) ⟨rfl, rfl, by decide, by decide⟩ rfl rfl (Nat.le_of_ble_eq_true rfl) dX5_gain_18 ?_
    refine s_if_ne E 27 dX5_gain_21 (by decide) (fun c3 => ?_) (fun c3 => ?_)
    · have h := (if_pos c3).symm.trans h
      refine s_bipush E (v := (-2)) dX5_gain_24 kb_m2 ?_
      obtain rfl := Option.some.inj h
      exact s_iret E rfl rfl dX5_gain_26
    · have h := (if_neg c3).symm.trans h
      refine s_aload_n E 0 rfl dX5_gain_27 rfl ?_
      refine s_get E (v := .ref (q 5)) 0 6 in_X5 gM_0 rfl (by decide) m_f_X5_22 rfl dX5_gain_28 ?_
      refine s_iload_n E 1 rfl dX5_gain_31 rfl ?_
      obtain ⟨b4, h⟩ := chk_some h
      refine s_iald E (v := (σ 5 (x1.toNatClampNeg))) 5 gM_5 b4 rfl dX5_gain_32 ?_
      refine s_bipush E (v := 10) dX5_gain_33 kb_10 ?_
      refine s_iadd E dX5_gain_35 ?_
      refine s_istore_n E (lv' := [(0, .ref (q 0)), (1, .int x1), (2, .int x2), (3, .int ((σ 5 (x1.toNatClampNeg)) + 10))]) dX5_gain_36 rfl rfl rfl rfl (by decide) ?_
      refine s_aload_n E 0 rfl dX5_gain_37 rfl ?_
      refine s_get E (v := .ref (q 5)) 0 6 in_X5 gM_0 rfl (by decide) m_f_X5_22 rfl dX5_gain_38 ?_
      refine s_iload_n E 1 rfl dX5_gain_41 rfl ?_
      refine s_iload_n E 2 rfl dX5_gain_42 rfl ?_
      obtain ⟨b5, h⟩ := chk_some h
      refine s_iast E (w' := (wM cI cZ q (up2 σ 5 (x1.toNatClampNeg) x2))) 5 gM_5 b5 aM_5 dX5_gain_43 ?_
      refine s_iload_n E 3 rfl dX5_gain_44 rfl ?_
      obtain rfl := Option.some.inj h
      exact s_iret E rfl rfl dX5_gain_45
end
abbrev rm_X5_minutes : Room := { frames := 1, cells := 0, slots := 0, locals := 25 }
section
noncomputable def f_X5_minutes (σ : Nat → Nat → Int32) (x1 : Int32) : (Int32 × (Nat → Nat → Int32)) :=
  (if (f_X5_in x1.toInt64 (0 : Int64) (9 : Int64)) = 0 then ((-2), σ) else ((σ 0 9), (up2 σ 0 9 x1)))
set_option maxRecDepth 100000 in
set_option maxHeartbeats 4000000 in
theorem c_X5_minutes (q : Nat → Nat) (σ : Nat → Nat → Int32) (x1 : Int32) : CT l dC dI cI cZ A yX5_minutes cX5_minutes 3 (some .int) rm_X5_minutes [.ref (q 0), .int x1] (wM cI cZ q σ) (wM cI cZ q (f_X5_minutes σ x1).2) (some (.int (f_X5_minutes σ x1).1)) := by
  refine b_met (by decide) (Nat.le_of_ble_eq_true rfl) ?_
  intro p e s m below meth c E
  have E : EV p s m _ meth c dC dI cI cZ cX5_minutes 3 RX5 (some .int) := E
  generalize h : f_X5_minutes σ x1 = z
  show GG p l e rm_X5_minutes s m _ below meth c _ A dC dI 3 (wM cI cZ q σ) 0 [(0, .ref (q 0)), (1, .int x1)] []
  unfold f_X5_minutes at h
  refine s_iload_n E 1 rfl dX5_minutes_0 rfl ?_
  refine s_i2l E dX5_minutes_1 ?_
  refine s_lconst E (v := 0) dX5_minutes_2 (by decide) ?_
  refine s_ldc2 E (v := (9)) m_c_X5_86 dX5_minutes_3 ?_
  refine s_callSi E kf_X5_in m_l_X5_70 (c_X5_in (wM cI cZ q σ) x1.toInt64 (0 : Int64) (9 : Int64)) ⟨rfl, rfl, by decide, by decide⟩ rfl rfl (Nat.le_of_ble_eq_true rfl) dX5_minutes_6 ?_
  refine s_if_ne E 15 dX5_minutes_9 (by decide) (fun c1 => ?_) (fun c1 => ?_)
  · have h := (if_pos c1).symm.trans h
    refine s_bipush E (v := (-2)) dX5_minutes_12 kb_m2 ?_
    subst h
    exact s_iret E rfl rfl dX5_minutes_14
  · have h := (if_neg c1).symm.trans h
    refine s_aload_n E 0 rfl dX5_minutes_15 rfl ?_
    refine s_geti E (y := (σ 0 9)) 0 9 in_X5 gM_0 rfl (by decide) m_f_X5_102 rfl rfl dX5_minutes_16 ?_
    refine s_istore_n E (lv' := [(0, .ref (q 0)), (1, .int x1), (2, .int (σ 0 9))]) dX5_minutes_19 rfl rfl rfl rfl (by decide) ?_
    refine s_aload_n E 0 rfl dX5_minutes_20 rfl ?_
    refine s_iload_n E 1 rfl dX5_minutes_21 rfl ?_
    refine s_put E (w' := (wM cI cZ q (up2 σ 0 9 x1))) (v := .int x1) 0 9 tyX5 tyX5_ok nmX5 in_X5 gM_0 rfl (by decide) m_f_X5_102 rfl (tyX5_ok 9 (by decide)) rfl rfl (Nat.le_of_ble_eq_true rfl) fM_0_9 dX5_minutes_22 ?_
    refine s_iload_n E 2 rfl dX5_minutes_25 rfl ?_
    subst h
    exact s_iret E rfl rfl dX5_minutes_26
end
abbrev rm_X5_isEnd : Room := { frames := 1, cells := 0, slots := 0, locals := 25 }
section
noncomputable def f_X5_isEnd (σ : Nat → Nat → Int32) (x1 : Int32) : Option Int32 :=
  (chb (f_X5_in x1.toInt64 (0 : Int64) ((σ 3 0) - 1).toInt64) (some (f_X5_in x1.toInt64 (0 : Int64) ((σ 3 0) - 1).toInt64)))
set_option maxRecDepth 100000 in
set_option maxHeartbeats 4000000 in
theorem c_X5_isEnd (q : Nat → Nat) (σ : Nat → Nat → Int32) (x1 : Int32) (z : Int32) (h : f_X5_isEnd σ x1 = some z) : CT l dC dI cI cZ A yX5_isEnd cX5_isEnd 2 (some .boolean) rm_X5_isEnd [.ref (q 0), .int x1] (wM cI cZ q σ) (wM cI cZ q σ) (some (.int z)) := by
  refine b_met (by decide) (Nat.le_of_ble_eq_true rfl) ?_
  intro p e s m below meth c E
  have E : EV p s m _ meth c dC dI cI cZ cX5_isEnd 2 RX5 (some .boolean) := E
  show GG p l e rm_X5_isEnd s m _ below meth c _ A dC dI 2 (wM cI cZ q σ) 0 [(0, .ref (q 0)), (1, .int x1)] []
  unfold f_X5_isEnd at h
  refine s_iload_n E 1 rfl dX5_isEnd_0 rfl ?_
  refine s_i2l E dX5_isEnd_1 ?_
  refine s_lconst E (v := 0) dX5_isEnd_2 (by decide) ?_
  refine s_aload_n E 0 rfl dX5_isEnd_3 rfl ?_
  refine s_get E (v := .ref (q 3)) 0 3 in_X5 gM_0 rfl (by decide) m_f_X5_16 rfl dX5_isEnd_4 ?_
  refine s_iconst E (v := 0) dX5_isEnd_7 ki_0 ?_
  refine s_iald E (i := 0) (v := (σ 3 0)) 3 gM_3 vin_0_5 rfl dX5_isEnd_8 ?_
  refine s_iconst E (v := 1) dX5_isEnd_9 ki_1 ?_
  refine s_isub E dX5_isEnd_10 ?_
  refine s_i2l E dX5_isEnd_11 ?_
  refine s_callSi E kf_X5_in m_l_X5_70 (c_X5_in (wM cI cZ q σ) x1.toInt64 (0 : Int64) ((σ 3 0) - 1).toInt64) ⟨rfl, rfl, by decide, by decide⟩ rfl rfl (Nat.le_of_ble_eq_true rfl) dX5_isEnd_12 ?_
  obtain ⟨b1, h⟩ := chb_some h
  obtain rfl := Option.some.inj h
  exact s_zret E b1 rfl rfl dX5_isEnd_15
end
abbrev rm_X5_willSit : Room := { frames := 0, cells := 0, slots := 0, locals := 0 }
section
noncomputable def f_X5_willSit (σ : Nat → Nat → Int32) (x1 : Int32) (x2 : Int32) : Option Int32 :=
  (chk ((3 * x1) + 2) 24 (if (σ 4 (((3 * x1) + 2).toNatClampNeg)) = 3 then (some 1) else (chk ((3 * x1) + 2) 24 (if (σ 4 (((3 * x1) + 2).toNatClampNeg)) = x2 then (some 1) else (some 0)))))
set_option maxRecDepth 100000 in
set_option maxHeartbeats 4000000 in
theorem c_X5_willSit (q : Nat → Nat) (σ : Nat → Nat → Int32) (x1 : Int32) (x2 : Int32) (z : Int32) (h : f_X5_willSit σ x1 x2 = some z) : CT l dC dI cI cZ A yX5_willSit cX5_willSit 3 (some .boolean) rm_X5_willSit [.ref (q 0), .int x1, .int x2] (wM cI cZ q σ) (wM cI cZ q σ) (some (.int z)) := by
  refine b_met (by decide) (Nat.le_of_ble_eq_true rfl) ?_
  intro p e s m below meth c E
  have E : EV p s m _ meth c dC dI cI cZ cX5_willSit 3 RX5 (some .boolean) := E
  show GG p l e rm_X5_willSit s m _ below meth c _ A dC dI 3 (wM cI cZ q σ) 0 [(0, .ref (q 0)), (1, .int x1), (2, .int x2)] []
  unfold f_X5_willSit at h
  refine s_aload_n E 0 rfl dX5_willSit_0 rfl ?_
  refine s_get E (v := .ref (q 4)) 0 4 in_X5 gM_0 rfl (by decide) m_f_X5_19 rfl dX5_willSit_1 ?_
  refine s_iconst E (v := 3) dX5_willSit_4 ki_3 ?_
  refine s_iload_n E 1 rfl dX5_willSit_5 rfl ?_
  refine s_imul E dX5_willSit_6 ?_
  refine s_iconst E (v := 2) dX5_willSit_7 ki_2 ?_
  refine s_iadd E dX5_willSit_8 ?_
  obtain ⟨b1, h⟩ := chk_some h
  refine s_iald E (v := (σ 4 (((3 * x1) + 2).toNatClampNeg))) 4 gM_4 b1 rfl dX5_willSit_9 ?_
  refine s_iconst E (v := 3) dX5_willSit_10 ki_3 ?_
  refine s_icmp_eq E 28 dX5_willSit_11 (by decide) (fun c2 => ?_) (fun c2 => ?_)
  · have h := (if_pos c2).symm.trans h
    refine s_iconst E (v := 1) dX5_willSit_28 ki_1 ?_
    refine s_goto E 33 dX5_willSit_29 (by decide) ?_
    obtain rfl := Option.some.inj h
    exact s_zret E rfl rfl rfl dX5_willSit_33
  · have h := (if_neg c2).symm.trans h
    refine s_aload_n E 0 rfl dX5_willSit_14 rfl ?_
    refine s_get E (v := .ref (q 4)) 0 4 in_X5 gM_0 rfl (by decide) m_f_X5_19 rfl dX5_willSit_15 ?_
    refine s_iconst E (v := 3) dX5_willSit_18 ki_3 ?_
    refine s_iload_n E 1 rfl dX5_willSit_19 rfl ?_
    refine s_imul E dX5_willSit_20 ?_
    refine s_iconst E (v := 2) dX5_willSit_21 ki_2 ?_
    refine s_iadd E dX5_willSit_22 ?_
    obtain ⟨b3, h⟩ := chk_some h
    refine s_iald E (v := (σ 4 (((3 * x1) + 2).toNatClampNeg))) 4 gM_4 b3 rfl dX5_willSit_23 ?_
    refine s_iload_n E 2 rfl dX5_willSit_24 rfl ?_
    refine s_icmp_ne E 32 dX5_willSit_25 (by decide) (fun c4 => ?_) (fun c4 => ?_)
    · have h := (if_pos c4).symm.trans h
      refine s_iconst E (v := 1) dX5_willSit_28 ki_1 ?_
      refine s_goto E 33 dX5_willSit_29 (by decide) ?_
      obtain rfl := Option.some.inj h
      exact s_zret E rfl rfl rfl dX5_willSit_33
    · have h := (if_neg c4).symm.trans h
      refine s_iconst E (v := 0) dX5_willSit_32 ki_0 ?_
      obtain rfl := Option.some.inj h
      exact s_zret E rfl rfl rfl dX5_willSit_33
end
abbrev rm_X5_whoAt : Room := { frames := 0, cells := 0, slots := 0, locals := 0 }
section
noncomputable def f_X5_whoAt_L4 (σ : Nat → Nat → Int32) (x1 : Int32) : Nat → Int32 → Int32 → Option Int32
  | 0, _, _ => none
  | n + 1, y2, y3 =>
    (if (σ 0 5) ≤ y3 then (some y2) else (chk y3 8 (if (σ 7 (y3.toNatClampNeg)) = x1 then (f_X5_whoAt_L4 σ x1 n (y2 ||| (shl 1 y3)) (y3 + 1)) else (f_X5_whoAt_L4 σ x1 n (y2 ||| 0) (y3 + 1)))))
set_option maxRecDepth 100000 in
set_option maxHeartbeats 4000000 in
theorem w_X5_whoAt_L4 (E : EV p s m args meth c dC dI cI cZ cX5_whoAt 4 RX5 (some .int)) (q : Nat → Nat) (σ : Nat → Nat → Int32) (x1 : Int32) : ∀ (n : Nat) (y2 y3 : Int32) (z : Int32), f_X5_whoAt_L4 σ x1 n y2 y3 = some z → GG p l e rm_X5_whoAt s m args below meth c Q A dC dI 4 (wM cI cZ q σ) 38 [(0, .ref (q 0)), (1, .int x1), (2, .int z)] [] → GG p l e rm_X5_whoAt s m args below meth c Q A dC dI 4 (wM cI cZ q σ) 4 [(0, .ref (q 0)), (1, .int x1), (2, .int y2), (3, .int y3)] [] := by
  intro n
  induction n with
  | zero =>
    intro y2 y3 z h
    rw [f_X5_whoAt_L4] at h
    cases h
  | succ n ih =>
    intro y2 y3 z h hK
    rw [f_X5_whoAt_L4] at h
    refine s_iload_n E 3 rfl dX5_whoAt_4 rfl ?_
    refine s_aload_n E 0 rfl dX5_whoAt_5 rfl ?_
    refine s_geti E (y := (σ 0 5)) 0 5 in_X5 gM_0 rfl (by decide) m_f_X5_99 rfl rfl dX5_whoAt_6 ?_
    refine s_icmp_ge E 38 dX5_whoAt_9 (by decide) (fun c1 => ?_) (fun c1 => ?_)
    · have h := (if_pos c1).symm.trans h
      refine s_sub E (lv' := [(0, .ref (q 0)), (1, .int x1), (2, .int y2)]) [0, 1, 2] rfl ?_
      obtain rfl := Option.some.inj h
      exact hK
    · have h := (if_neg c1).symm.trans h
      refine s_iload_n E 2 rfl dX5_whoAt_12 rfl ?_
      refine s_aload_n E 0 rfl dX5_whoAt_13 rfl ?_
      refine s_get E (v := .ref (q 7)) 0 8 in_X5 gM_0 rfl (by decide) m_f_X5_28 rfl dX5_whoAt_14 ?_
      refine s_iload_n E 3 rfl dX5_whoAt_17 rfl ?_
      obtain ⟨b2, h⟩ := chk_some h
      refine s_iald E (v := (σ 7 (y3.toNatClampNeg))) 7 gM_7 b2 rfl dX5_whoAt_18 ?_
      refine s_iload_n E 1 rfl dX5_whoAt_19 rfl ?_
      refine s_icmp_ne E 29 dX5_whoAt_20 (by decide) (fun c3 => ?_) (fun c3 => ?_)
      · have h := (if_pos c3).symm.trans h
        refine s_iconst E (v := 1) dX5_whoAt_23 ki_1 ?_
        refine s_iload_n E 3 rfl dX5_whoAt_24 rfl ?_
        refine s_ishl E dX5_whoAt_25 ?_
        refine s_goto E 30 dX5_whoAt_26 (by decide) ?_
        refine s_ior E dX5_whoAt_30 ?_
        refine s_istore_n E (lv' := [(0, .ref (q 0)), (1, .int x1), (2, .int (y2 ||| (shl 1 y3))), (3, .int y3)]) dX5_whoAt_31 rfl rfl rfl rfl (by decide) ?_
        refine s_iinc E (v := (y3 + 1)) (lv' := [(0, .ref (q 0)), (1, .int x1), (2, .int (y2 ||| (shl 1 y3))), (3, .int (y3 + 1))]) 3 rfl dX5_whoAt_32 ki_1 rfl rfl rfl rfl (by decide) ?_
        refine s_goto E 4 dX5_whoAt_35 (by decide) ?_
        exact ih (y2 ||| (shl 1 y3)) (y3 + 1) z h hK
      · have h := (if_neg c3).symm.trans h
        refine s_iconst E (v := 0) dX5_whoAt_29 ki_0 ?_
        refine s_ior E dX5_whoAt_30 ?_
        refine s_istore_n E (lv' := [(0, .ref (q 0)), (1, .int x1), (2, .int (y2 ||| 0)), (3, .int y3)]) dX5_whoAt_31 rfl rfl rfl rfl (by decide) ?_
        refine s_iinc E (v := (y3 + 1)) (lv' := [(0, .ref (q 0)), (1, .int x1), (2, .int (y2 ||| 0)), (3, .int (y3 + 1))]) 3 rfl dX5_whoAt_32 ki_1 rfl rfl rfl rfl (by decide) ?_
        refine s_goto E 4 dX5_whoAt_35 (by decide) ?_
        exact ih (y2 ||| 0) (y3 + 1) z h hK
noncomputable def f_X5_whoAt (σ : Nat → Nat → Int32) (x1 : Int32) : Option Int32 :=
  ((f_X5_whoAt_L4 σ x1 fuel 0 0).bind fun u4 => (some u4))
set_option maxRecDepth 100000 in
set_option maxHeartbeats 4000000 in
theorem c_X5_whoAt (q : Nat → Nat) (σ : Nat → Nat → Int32) (x1 : Int32) (z : Int32) (h : f_X5_whoAt σ x1 = some z) : CT l dC dI cI cZ A yX5_whoAt cX5_whoAt 4 (some .int) rm_X5_whoAt [.ref (q 0), .int x1] (wM cI cZ q σ) (wM cI cZ q σ) (some (.int z)) := by
  refine b_met (by decide) (Nat.le_of_ble_eq_true rfl) ?_
  intro p e s m below meth c E
  have E : EV p s m _ meth c dC dI cI cZ cX5_whoAt 4 RX5 (some .int) := E
  show GG p l e rm_X5_whoAt s m _ below meth c _ A dC dI 4 (wM cI cZ q σ) 0 [(0, .ref (q 0)), (1, .int x1)] []
  unfold f_X5_whoAt at h
  refine s_iconst E (v := 0) dX5_whoAt_0 ki_0 ?_
  refine s_istore_n E (lv' := [(0, .ref (q 0)), (1, .int x1), (2, .int 0)]) dX5_whoAt_1 rfl rfl rfl rfl (by decide) ?_
  refine s_iconst E (v := 0) dX5_whoAt_2 ki_0 ?_
  refine s_istore_n E (lv' := [(0, .ref (q 0)), (1, .int x1), (2, .int 0), (3, .int 0)]) dX5_whoAt_3 rfl rfl rfl rfl (by decide) ?_
  obtain ⟨u4, e4, h⟩ := bnd_some h
  refine w_X5_whoAt_L4 E q σ x1 fuel 0 0 u4 e4 ?_
  refine s_iload_n E 2 rfl dX5_whoAt_38 rfl ?_
  obtain rfl := Option.some.inj h
  exact s_iret E rfl rfl dX5_whoAt_39
end
abbrev rm_X5_ones : Room := { frames := 0, cells := 0, slots := 0, locals := 0 }
section
variable {w : va_W}
noncomputable def f_X5_ones_L4 (x0 : Int32) : Nat → Int32 → Int32 → Option Int32
  | 0, _, _ => none
  | n + 1, y1, y2 =>
    (if 8 ≤ y2 then (some y1) else (f_X5_ones_L4 x0 n (y1 + ((shr x0 y2) &&& 1)) (y2 + 1)))
set_option maxRecDepth 100000 in
set_option maxHeartbeats 4000000 in
theorem w_X5_ones_L4 (E : EV p s m args meth c dC dI cI cZ cX5_ones 3 RX5 (some .int)) (x0 : Int32) : ∀ (n : Nat) (y1 y2 : Int32) (z : Int32), f_X5_ones_L4 x0 n y1 y2 = some z → GG p l e rm_X5_ones s m args below meth c Q A dC dI 3 w 24 [(0, .int x0), (1, .int z)] [] → GG p l e rm_X5_ones s m args below meth c Q A dC dI 3 w 4 [(0, .int x0), (1, .int y1), (2, .int y2)] [] := by
  intro n
  induction n with
  | zero =>
    intro y1 y2 z h
    rw [f_X5_ones_L4] at h
    cases h
  | succ n ih =>
    intro y1 y2 z h hK
    rw [f_X5_ones_L4] at h
    refine s_iload_n E 2 rfl dX5_ones_4 rfl ?_
    refine s_bipush E (v := 8) dX5_ones_5 kb_8 ?_
    refine s_icmp_ge E 24 dX5_ones_7 (by decide) (fun c1 => ?_) (fun c1 => ?_)
    · have h := (if_pos c1).symm.trans h
      refine s_sub E (lv' := [(0, .int x0), (1, .int y1)]) [0, 1] rfl ?_
      obtain rfl := Option.some.inj h
      exact hK
    · have h := (if_neg c1).symm.trans h
      refine s_iload_n E 1 rfl dX5_ones_10 rfl ?_
      refine s_iload_n E 0 rfl dX5_ones_11 rfl ?_
      refine s_iload_n E 2 rfl dX5_ones_12 rfl ?_
      refine s_ishr E dX5_ones_13 ?_
      refine s_iconst E (v := 1) dX5_ones_14 ki_1 ?_
      refine s_iand E dX5_ones_15 ?_
      refine s_iadd E dX5_ones_16 ?_
      refine s_istore_n E (lv' := [(0, .int x0), (1, .int (y1 + ((shr x0 y2) &&& 1))), (2, .int y2)]) dX5_ones_17 rfl rfl rfl rfl (by decide) ?_
      refine s_iinc E (v := (y2 + 1)) (lv' := [(0, .int x0), (1, .int (y1 + ((shr x0 y2) &&& 1))), (2, .int (y2 + 1))]) 2 rfl dX5_ones_18 ki_1 rfl rfl rfl rfl (by decide) ?_
      refine s_goto E 4 dX5_ones_21 (by decide) ?_
      exact ih (y1 + ((shr x0 y2) &&& 1)) (y2 + 1) z h hK
noncomputable def f_X5_ones (x0 : Int32) : Option Int32 :=
  ((f_X5_ones_L4 x0 fuel 0 0).bind fun u2 => (some u2))
set_option maxRecDepth 100000 in
set_option maxHeartbeats 4000000 in
theorem c_X5_ones (w : va_W) (x0 : Int32) (z : Int32) (h : f_X5_ones x0 = some z) : CT l dC dI cI cZ A yX5_ones cX5_ones 3 (some .int) rm_X5_ones [.int x0] w w (some (.int z)) := by
  refine b_met (by decide) (Nat.le_of_ble_eq_true rfl) ?_
  intro p e s m below meth c E
  have E : EV p s m _ meth c dC dI cI cZ cX5_ones 3 RX5 (some .int) := E
  show GG p l e rm_X5_ones s m _ below meth c _ A dC dI 3 w 0 [(0, .int x0)] []
  unfold f_X5_ones at h
  refine s_iconst E (v := 0) dX5_ones_0 ki_0 ?_
  refine s_istore_n E (lv' := [(0, .int x0), (1, .int 0)]) dX5_ones_1 rfl rfl rfl rfl (by decide) ?_
  refine s_iconst E (v := 0) dX5_ones_2 ki_0 ?_
  refine s_istore_n E (lv' := [(0, .int x0), (1, .int 0), (2, .int 0)]) dX5_ones_3 rfl rfl rfl rfl (by decide) ?_
  obtain ⟨u2, e2, h⟩ := bnd_some h
  refine w_X5_ones_L4 E  x0 fuel 0 0 u2 e2 ?_
  refine s_iload_n E 1 rfl dX5_ones_24 rfl ?_
  obtain rfl := Option.some.inj h
  exact s_iret E rfl rfl dX5_ones_25
end
abbrev rm_X5_lay : Room := { frames := 2, cells := 0, slots := 0, locals := 46 }
section
noncomputable def f_X5_lay (σ : Nat → Nat → Int32) (x1 : Int32) (x2 : Int32) : Option (Int32 × (Nat → Nat → Int32)) :=
  ((f_X5_isPerson σ x1).bind fun u1 => (if u1 = 0 then (some ((-1), σ)) else ((f_X5_isEnd σ x2).bind fun u3 => (if u3 = 0 then (some ((-1), σ)) else (chk x1 8 (if (σ 7 (x1.toNatClampNeg)) = 10 then ((f_X5_willSit σ x1 x2).bind fun u7 => (if u7 = 0 then (some ((-3), σ)) else ((f_X5_whoAt σ x2).bind fun u9 => ((f_X5_ones u9).bind fun u10 => (if u10 < (σ 3 3) then (chk x1 8 (some ((u10 + 1), (up2 σ 7 (x1.toNatClampNeg) x2)))) else (some ((-4), σ))))))) else (some ((-3), σ))))))))
set_option maxRecDepth 100000 in
set_option maxHeartbeats 4000000 in
theorem c_X5_lay (q : Nat → Nat) (σ : Nat → Nat → Int32) (x1 : Int32) (x2 : Int32) (z : (Int32 × (Nat → Nat → Int32))) (h : f_X5_lay σ x1 x2 = some z) : CT l dC dI cI cZ A yX5_lay cX5_lay 4 (some .int) rm_X5_lay [.ref (q 0), .int x1, .int x2] (wM cI cZ q σ) (wM cI cZ q z.2) (some (.int z.1)) := by
  refine b_met (by decide) (Nat.le_of_ble_eq_true rfl) ?_
  intro p e s m below meth c E
  have E : EV p s m _ meth c dC dI cI cZ cX5_lay 4 RX5 (some .int) := E
  show GG p l e rm_X5_lay s m _ below meth c _ A dC dI 4 (wM cI cZ q σ) 0 [(0, .ref (q 0)), (1, .int x1), (2, .int x2)] []
  unfold f_X5_lay at h
  refine s_aload_n E 0 rfl dX5_lay_0 rfl ?_
  refine s_iload_n E 1 rfl dX5_lay_1 rfl ?_
  obtain ⟨u1, e1, h⟩ := bnd_some h
  refine s_callVi E kf_X5_isPerson m_l_X5_110 (c_X5_isPerson q σ x1 u1 e1) ⟨rfl, rfl, by decide, by decide⟩ (q0 := 0) rfl rfl rfl rfl rfl (Nat.le_of_ble_eq_true rfl) dX5_lay_2 ?_
  refine s_if_eq E 16 dX5_lay_5 (by decide) (fun c2 => ?_) (fun c2 => ?_)
  · have h := (if_pos c2).symm.trans h
    refine s_iconst E (v := (-1)) dX5_lay_16 ki_m1 ?_
    obtain rfl := Option.some.inj h
    exact s_iret E rfl rfl dX5_lay_17
  · have h := (if_neg c2).symm.trans h
    refine s_aload_n E 0 rfl dX5_lay_8 rfl ?_
    refine s_iload_n E 2 rfl dX5_lay_9 rfl ?_
    obtain ⟨u3, e3, h⟩ := bnd_some h
    refine s_callVi E kf_X5_isEnd m_l_X5_118 (c_X5_isEnd q σ x2 u3 e3) ⟨rfl, rfl, by decide, by decide⟩ (q0 := 0) rfl rfl rfl rfl rfl (Nat.le_of_ble_eq_true rfl) dX5_lay_10 ?_
    refine s_if_ne E 18 dX5_lay_13 (by decide) (fun c4 => ?_) (fun c4 => ?_)
    · have h := (if_pos c4).symm.trans h
      refine s_iconst E (v := (-1)) dX5_lay_16 ki_m1 ?_
      obtain rfl := Option.some.inj h
      exact s_iret E rfl rfl dX5_lay_17
    · have h := (if_neg c4).symm.trans h
      refine s_aload_n E 0 rfl dX5_lay_18 rfl ?_
      refine s_get E (v := .ref (q 7)) 0 8 in_X5 gM_0 rfl (by decide) m_f_X5_28 rfl dX5_lay_19 ?_
      refine s_iload_n E 1 rfl dX5_lay_22 rfl ?_
      obtain ⟨b5, h⟩ := chk_some h
      refine s_iald E (v := (σ 7 (x1.toNatClampNeg))) 7 gM_7 b5 rfl dX5_lay_23 ?_
      refine s_bipush E (v := 10) dX5_lay_24 kb_10 ?_
      refine s_icmp_ne E 38 dX5_lay_26 (by decide) (fun c6 => ?_) (fun c6 => ?_)
      · have h := (if_pos c6).symm.trans h
        refine s_aload_n E 0 rfl dX5_lay_29 rfl ?_
        refine s_iload_n E 1 rfl dX5_lay_30 rfl ?_
        refine s_iload_n E 2 rfl dX5_lay_31 rfl ?_
        obtain ⟨u7, e7, h⟩ := bnd_some h
        refine s_callVi E kf_X5_willSit m_l_X5_121 (c_X5_willSit q σ x1 x2 u7 e7) ⟨rfl, rfl, by decide, by decide⟩ (q0 := 0) rfl rfl rfl rfl rfl (Nat.le_of_ble_eq_true rfl) dX5_lay_32 ?_
        refine s_if_ne E 41 dX5_lay_35 (by decide) (fun c8 => ?_) (fun c8 => ?_)
        · have h := (if_pos c8).symm.trans h
          refine s_bipush E (v := (-3)) dX5_lay_38 kb_m3 ?_
          obtain rfl := Option.some.inj h
          exact s_iret E rfl rfl dX5_lay_40
        · have h := (if_neg c8).symm.trans h
          refine s_aload_n E 0 rfl dX5_lay_41 rfl ?_
          refine s_iload_n E 2 rfl dX5_lay_42 rfl ?_
          obtain ⟨u9, e9, h⟩ := bnd_some h
          refine s_callVi E kf_X5_whoAt m_l_X5_125 (c_X5_whoAt q σ x2 u9 e9) ⟨rfl, rfl, by decide, by decide⟩ (q0 := 0) rfl rfl rfl rfl rfl (Nat.le_of_ble_eq_true rfl) dX5_lay_43 ?_
          obtain ⟨u10, e10, h⟩ := bnd_some h
          refine s_callSi E kf_X5_ones m_l_X5_128 (c_X5_ones (wM cI cZ q σ) u9 u10 e10) ⟨rfl, rfl, by decide, by decide⟩ rfl rfl (Nat.le_of_ble_eq_true rfl) dX5_lay_46 ?_
          refine s_istore_n E (lv' := [(0, .ref (q 0)), (1, .int x1), (2, .int x2), (3, .int u10)]) dX5_lay_49 rfl rfl rfl rfl (by decide) ?_
          refine s_iload_n E 3 rfl dX5_lay_50 rfl ?_
          refine s_aload_n E 0 rfl dX5_lay_51 rfl ?_
          refine s_get E (v := .ref (q 3)) 0 3 in_X5 gM_0 rfl (by decide) m_f_X5_16 rfl dX5_lay_52 ?_
          refine s_iconst E (v := 3) dX5_lay_55 ki_3 ?_
          refine s_iald E (i := 3) (v := (σ 3 3)) 3 gM_3 vin_3_5 rfl dX5_lay_56 ?_
          refine s_icmp_lt E 63 dX5_lay_57 (by decide) (fun c11 => ?_) (fun c11 => ?_)
          · have h := (if_pos c11).symm.trans h
            refine s_aload_n E 0 rfl dX5_lay_63 rfl ?_
            refine s_get E (v := .ref (q 7)) 0 8 in_X5 gM_0 rfl (by decide) m_f_X5_28 rfl dX5_lay_64 ?_
            refine s_iload_n E 1 rfl dX5_lay_67 rfl ?_
            refine s_iload_n E 2 rfl dX5_lay_68 rfl ?_
            obtain ⟨b12, h⟩ := chk_some h
            refine s_iast E (w' := (wM cI cZ q (up2 σ 7 (x1.toNatClampNeg) x2))) 7 gM_7 b12 aM_7 dX5_lay_69 ?_
            refine s_iload_n E 3 rfl dX5_lay_70 rfl ?_
            refine s_iconst E (v := 1) dX5_lay_71 ki_1 ?_
            refine s_iadd E dX5_lay_72 ?_
            obtain rfl := Option.some.inj h
            exact s_iret E rfl rfl dX5_lay_73
          · have h := (if_neg c11).symm.trans h
            refine s_bipush E (v := (-4)) dX5_lay_60 kb_m4 ?_
            obtain rfl := Option.some.inj h
            exact s_iret E rfl rfl dX5_lay_62
      · have h := (if_neg c6).symm.trans h
        refine s_bipush E (v := (-3)) dX5_lay_38 kb_m3 ?_
        obtain rfl := Option.some.inj h
        exact s_iret E rfl rfl dX5_lay_40
end
abbrev rm_X5_laid : Room := { frames := 1, cells := 0, slots := 0, locals := 23 }
section
noncomputable def f_X5_laid (σ : Nat → Nat → Int32) : Option Int32 :=
  ((f_X5_whoAt σ 0).bind fun u1 => ((f_X5_whoAt σ 1).bind fun u2 => ((f_X5_whoAt σ 2).bind fun u3 => ((f_X5_ones ((u1 ||| u2) ||| u3)).bind fun u4 => (some u4)))))
set_option maxRecDepth 100000 in
set_option maxHeartbeats 4000000 in
theorem c_X5_laid (q : Nat → Nat) (σ : Nat → Nat → Int32) (z : Int32) (h : f_X5_laid σ = some z) : CT l dC dI cI cZ A yX5_laid cX5_laid 1 (some .int) rm_X5_laid [.ref (q 0)] (wM cI cZ q σ) (wM cI cZ q σ) (some (.int z)) := by
  refine b_met (by decide) (Nat.le_of_ble_eq_true rfl) ?_
  intro p e s m below meth c E
  have E : EV p s m _ meth c dC dI cI cZ cX5_laid 1 RX5 (some .int) := E
  show GG p l e rm_X5_laid s m _ below meth c _ A dC dI 1 (wM cI cZ q σ) 0 [(0, .ref (q 0))] []
  unfold f_X5_laid at h
  refine s_aload_n E 0 rfl dX5_laid_0 rfl ?_
  refine s_iconst E (v := 0) dX5_laid_1 ki_0 ?_
  obtain ⟨u1, e1, h⟩ := bnd_some h
  refine s_callVi E kf_X5_whoAt m_l_X5_125 (c_X5_whoAt q σ 0 u1 e1) ⟨rfl, rfl, by decide, by decide⟩ (q0 := 0) rfl rfl rfl rfl rfl (Nat.le_of_ble_eq_true rfl) dX5_laid_2 ?_
  refine s_aload_n E 0 rfl dX5_laid_5 rfl ?_
  refine s_iconst E (v := 1) dX5_laid_6 ki_1 ?_
  obtain ⟨u2, e2, h⟩ := bnd_some h
  refine s_callVi E kf_X5_whoAt m_l_X5_125 (c_X5_whoAt q σ 1 u2 e2) ⟨rfl, rfl, by decide, by decide⟩ (q0 := 0) rfl rfl rfl rfl rfl (Nat.le_of_ble_eq_true rfl) dX5_laid_7 ?_
  refine s_ior E dX5_laid_10 ?_
  refine s_aload_n E 0 rfl dX5_laid_11 rfl ?_
  refine s_iconst E (v := 2) dX5_laid_12 ki_2 ?_
  obtain ⟨u3, e3, h⟩ := bnd_some h
  refine s_callVi E kf_X5_whoAt m_l_X5_125 (c_X5_whoAt q σ 2 u3 e3) ⟨rfl, rfl, by decide, by decide⟩ (q0 := 0) rfl rfl rfl rfl rfl (Nat.le_of_ble_eq_true rfl) dX5_laid_13 ?_
  refine s_ior E dX5_laid_16 ?_
  obtain ⟨u4, e4, h⟩ := bnd_some h
  refine s_callSi E kf_X5_ones m_l_X5_128 (c_X5_ones (wM cI cZ q σ) ((u1 ||| u2) ||| u3) u4 e4) ⟨rfl, rfl, by decide, by decide⟩ rfl rfl (Nat.le_of_ble_eq_true rfl) dX5_laid_17 ?_
  obtain rfl := Option.some.inj h
  exact s_iret E rfl rfl dX5_laid_20
end
abbrev rm_X5_unlay : Room := { frames := 2, cells := 0, slots := 0, locals := 46 }
section
noncomputable def f_X5_unlay (σ : Nat → Nat → Int32) (x1 : Int32) : Option (Int32 × (Nat → Nat → Int32)) :=
  ((f_X5_isPerson σ x1).bind fun u1 => (if u1 = 0 then (some ((-1), σ)) else (chk x1 8 (if (σ 7 (x1.toNatClampNeg)) < 10 then (chk x1 8 ((f_X5_laid (up2 σ 7 (x1.toNatClampNeg) 10)).bind fun u6 => (some (u6, (up2 σ 7 (x1.toNatClampNeg) 10))))) else (some ((-3), σ))))))
set_option maxRecDepth 100000 in
set_option maxHeartbeats 4000000 in
theorem c_X5_unlay (q : Nat → Nat) (σ : Nat → Nat → Int32) (x1 : Int32) (z : (Int32 × (Nat → Nat → Int32))) (h : f_X5_unlay σ x1 = some z) : CT l dC dI cI cZ A yX5_unlay cX5_unlay 2 (some .int) rm_X5_unlay [.ref (q 0), .int x1] (wM cI cZ q σ) (wM cI cZ q z.2) (some (.int z.1)) := by
  refine b_met (by decide) (Nat.le_of_ble_eq_true rfl) ?_
  intro p e s m below meth c E
  have E : EV p s m _ meth c dC dI cI cZ cX5_unlay 2 RX5 (some .int) := E
  show GG p l e rm_X5_unlay s m _ below meth c _ A dC dI 2 (wM cI cZ q σ) 0 [(0, .ref (q 0)), (1, .int x1)] []
  unfold f_X5_unlay at h
  refine s_aload_n E 0 rfl dX5_unlay_0 rfl ?_
  refine s_iload_n E 1 rfl dX5_unlay_1 rfl ?_
  obtain ⟨u1, e1, h⟩ := bnd_some h
  refine s_callVi E kf_X5_isPerson m_l_X5_110 (c_X5_isPerson q σ x1 u1 e1) ⟨rfl, rfl, by decide, by decide⟩ (q0 := 0) rfl rfl rfl rfl rfl (Nat.le_of_ble_eq_true rfl) dX5_unlay_2 ?_
  refine s_if_ne E 10 dX5_unlay_5 (by decide) (fun c2 => ?_) (fun c2 => ?_)
  · have h := (if_pos c2).symm.trans h
    refine s_iconst E (v := (-1)) dX5_unlay_8 ki_m1 ?_
    obtain rfl := Option.some.inj h
    exact s_iret E rfl rfl dX5_unlay_9
  · have h := (if_neg c2).symm.trans h
    refine s_aload_n E 0 rfl dX5_unlay_10 rfl ?_
    refine s_get E (v := .ref (q 7)) 0 8 in_X5 gM_0 rfl (by decide) m_f_X5_28 rfl dX5_unlay_11 ?_
    refine s_iload_n E 1 rfl dX5_unlay_14 rfl ?_
    obtain ⟨b3, h⟩ := chk_some h
    refine s_iald E (v := (σ 7 (x1.toNatClampNeg))) 7 gM_7 b3 rfl dX5_unlay_15 ?_
    refine s_bipush E (v := 10) dX5_unlay_16 kb_10 ?_
    refine s_icmp_lt E 24 dX5_unlay_18 (by decide) (fun c4 => ?_) (fun c4 => ?_)
    · have h := (if_pos c4).symm.trans h
      refine s_aload_n E 0 rfl dX5_unlay_24 rfl ?_
      refine s_get E (v := .ref (q 7)) 0 8 in_X5 gM_0 rfl (by decide) m_f_X5_28 rfl dX5_unlay_25 ?_
      refine s_iload_n E 1 rfl dX5_unlay_28 rfl ?_
      refine s_bipush E (v := 10) dX5_unlay_29 kb_10 ?_
      obtain ⟨b5, h⟩ := chk_some h
      refine s_iast E (w' := (wM cI cZ q (up2 σ 7 (x1.toNatClampNeg) 10))) 7 gM_7 b5 aM_7 dX5_unlay_31 ?_
      refine s_aload_n E 0 rfl dX5_unlay_32 rfl ?_
      obtain ⟨u6, e6, h⟩ := bnd_some h
      refine s_callVi E kf_X5_laid m_l_X5_131 (c_X5_laid q (up2 σ 7 (x1.toNatClampNeg) 10) u6 e6) ⟨rfl, rfl, by decide, by decide⟩ (q0 := 0) rfl rfl rfl rfl rfl (Nat.le_of_ble_eq_true rfl) dX5_unlay_33 ?_
      obtain rfl := Option.some.inj h
      exact s_iret E rfl rfl dX5_unlay_36
    · have h := (if_neg c4).symm.trans h
      refine s_bipush E (v := (-3)) dX5_unlay_21 kb_m3 ?_
      obtain rfl := Option.some.inj h
      exact s_iret E rfl rfl dX5_unlay_23
end
abbrev rm_X5_weightOf : Room := { frames := 0, cells := 0, slots := 0, locals := 0 }
section
noncomputable def f_X5_weightOf_J21 (σ : Nat → Nat → Int32) (t1 : Int32) (t2 : Int32) (s0 : Int32) : Option Int32 :=
  (chk t1 8 (if 0 ≤ (s0 + (t2 * (σ 5 (t1.toNatClampNeg)))) then (some (s0 + (t2 * (σ 5 (t1.toNatClampNeg))))) else (some 0)))
set_option maxRecDepth 100000 in
set_option maxHeartbeats 4000000 in
theorem w_X5_weightOf_J21 (E : EV p s m args meth c dC dI cI cZ cX5_weightOf 5 RX5 (some .int)) (q : Nat → Nat) (σ : Nat → Nat → Int32) (t1 : Int32) (t2 : Int32) (s0 : Int32) (z : Int32) (h : f_X5_weightOf_J21 σ t1 t2 s0 = some z) : GG p l e rm_X5_weightOf s m args below meth c (MQ below (CQ dC dI (some (.int z)) (wM cI cZ q σ) A) args s 0 0 A) A dC dI 5 (wM cI cZ q σ) 21 [(0, .ref (q 0)), (1, .int t1), (2, .int t2)] [.int s0] := by
  unfold f_X5_weightOf_J21 at h
  refine s_iload_n E 2 rfl dX5_weightOf_21 rfl ?_
  refine s_aload_n E 0 rfl dX5_weightOf_22 rfl ?_
  refine s_get E (v := .ref (q 5)) 0 6 in_X5 gM_0 rfl (by decide) m_f_X5_22 rfl dX5_weightOf_23 ?_
  refine s_iload_n E 1 rfl dX5_weightOf_26 rfl ?_
  obtain ⟨b3, h⟩ := chk_some h
  refine s_iald E (v := (σ 5 (t1.toNatClampNeg))) 5 gM_5 b3 rfl dX5_weightOf_27 ?_
  refine s_imul E dX5_weightOf_28 ?_
  refine s_iadd E dX5_weightOf_29 ?_
  refine s_istore E (lv' := [(0, .ref (q 0)), (1, .int t1), (2, .int t2), (4, .int (s0 + (t2 * (σ 5 (t1.toNatClampNeg)))))]) dX5_weightOf_30 rfl rfl rfl (by decide) ?_
  refine s_iload E 3 rfl dX5_weightOf_32 ?_
  refine s_if_ge E 41 dX5_weightOf_34 (by decide) (fun c4 => ?_) (fun c4 => ?_)
  · have h := (if_pos c4).symm.trans h
    refine s_iload E 3 rfl dX5_weightOf_41 ?_
    obtain rfl := Option.some.inj h
    exact s_iret E rfl rfl dX5_weightOf_43
  · have h := (if_neg c4).symm.trans h
    refine s_iconst E (v := 0) dX5_weightOf_37 ki_0 ?_
    refine s_goto E 43 dX5_weightOf_38 (by decide) ?_
    obtain rfl := Option.some.inj h
    exact s_iret E rfl rfl dX5_weightOf_43
noncomputable def f_X5_weightOf (σ : Nat → Nat → Int32) (x1 : Int32) (x2 : Int32) (x3 : Int32) : Option Int32 :=
  (if x3 = 0 then (chk (3 * x1) 24 (f_X5_weightOf_J21 σ x1 x2 (σ 4 ((3 * x1).toNatClampNeg)))) else (chk x1 8 (f_X5_weightOf_J21 σ x1 x2 (σ 6 (x1.toNatClampNeg)))))
set_option maxRecDepth 100000 in
set_option maxHeartbeats 4000000 in
theorem c_X5_weightOf (q : Nat → Nat) (σ : Nat → Nat → Int32) (x1 : Int32) (x2 : Int32) (x3 : Int32) (z : Int32) (h : f_X5_weightOf σ x1 x2 x3 = some z) : CT l dC dI cI cZ A yX5_weightOf cX5_weightOf 5 (some .int) rm_X5_weightOf [.ref (q 0), .int x1, .int x2, .int x3] (wM cI cZ q σ) (wM cI cZ q σ) (some (.int z)) := by
  refine b_met (by decide) (Nat.le_of_ble_eq_true rfl) ?_
  intro p e s m below meth c E
  have E : EV p s m _ meth c dC dI cI cZ cX5_weightOf 5 RX5 (some .int) := E
  show GG p l e rm_X5_weightOf s m _ below meth c _ A dC dI 5 (wM cI cZ q σ) 0 [(0, .ref (q 0)), (1, .int x1), (2, .int x2), (3, .int x3)] []
  unfold f_X5_weightOf at h
  refine s_iload_n E 3 rfl dX5_weightOf_0 rfl ?_
  refine s_if_eq E 13 dX5_weightOf_1 (by decide) (fun c1 => ?_) (fun c1 => ?_)
  · have h := (if_pos c1).symm.trans h
    refine s_aload_n E 0 rfl dX5_weightOf_13 rfl ?_
    refine s_get E (v := .ref (q 4)) 0 4 in_X5 gM_0 rfl (by decide) m_f_X5_19 rfl dX5_weightOf_14 ?_
    refine s_iconst E (v := 3) dX5_weightOf_17 ki_3 ?_
    refine s_iload_n E 1 rfl dX5_weightOf_18 rfl ?_
    refine s_imul E dX5_weightOf_19 ?_
    obtain ⟨b2, h⟩ := chk_some h
    refine s_iald E (v := (σ 4 ((3 * x1).toNatClampNeg))) 4 gM_4 b2 rfl dX5_weightOf_20 ?_
    refine s_sub E (lv' := [(0, .ref (q 0)), (1, .int x1), (2, .int x2)]) [0, 1, 2] rfl ?_
    exact w_X5_weightOf_J21 E q σ x1 x2 (σ 4 ((3 * x1).toNatClampNeg)) z h
  · have h := (if_neg c1).symm.trans h
    refine s_aload_n E 0 rfl dX5_weightOf_4 rfl ?_
    refine s_get E (v := .ref (q 6)) 0 7 in_X5 gM_0 rfl (by decide) m_f_X5_25 rfl dX5_weightOf_5 ?_
    refine s_iload_n E 1 rfl dX5_weightOf_8 rfl ?_
    obtain ⟨b5, h⟩ := chk_some h
    refine s_iald E (v := (σ 6 (x1.toNatClampNeg))) 6 gM_6 b5 rfl dX5_weightOf_9 ?_
    refine s_goto E 21 dX5_weightOf_10 (by decide) ?_
    refine s_sub E (lv' := [(0, .ref (q 0)), (1, .int x1), (2, .int x2)]) [0, 1, 2] rfl ?_
    exact w_X5_weightOf_J21 E q σ x1 x2 (σ 6 (x1.toNatClampNeg)) z h
end
abbrev rm_X5_heavy : Room := { frames := 1, cells := 0, slots := 0, locals := 24 }
section
noncomputable def f_X5_heavy_L19 (σ : Nat → Nat → Int32) (x1 : Int32) (x3 : Int32) (x4 : Int32) : Nat → Int32 → Int32 → Option Int32
  | 0, _, _ => none
  | n + 1, y5, y6 =>
    (if (σ 0 5) ≤ y6 then (some y5) else (if ((shr x1 y6) &&& 1) = 1 then ((f_X5_weightOf σ y6 x3 x4).bind fun u4 => (f_X5_heavy_L19 σ x1 x3 x4 n (y5 + u4) (y6 + 1))) else (f_X5_heavy_L19 σ x1 x3 x4 n (y5 + 0) (y6 + 1))))
set_option maxRecDepth 100000 in
set_option maxHeartbeats 4000000 in
theorem w_X5_heavy_L19 (E : EV p s m args meth c dC dI cI cZ cX5_heavy 7 RX5 (some .int)) (q : Nat → Nat) (σ : Nat → Nat → Int32) (x1 : Int32) (x3 : Int32) (x4 : Int32) : ∀ (n : Nat) (y5 y6 : Int32) (z : Int32), f_X5_heavy_L19 σ x1 x3 x4 n y5 y6 = some z → GG p l e rm_X5_heavy s m args below meth c Q A dC dI 7 (wM cI cZ q σ) 62 [(0, .ref (q 0)), (1, .int x1), (3, .int x3), (4, .int x4), (5, .int z)] [] → GG p l e rm_X5_heavy s m args below meth c Q A dC dI 7 (wM cI cZ q σ) 19 [(0, .ref (q 0)), (1, .int x1), (3, .int x3), (4, .int x4), (5, .int y5), (6, .int y6)] [] := by
  intro n
  induction n with
  | zero =>
    intro y5 y6 z h
    rw [f_X5_heavy_L19] at h
    cases h
  | succ n ih =>
    intro y5 y6 z h hK
    rw [f_X5_heavy_L19] at h
    refine s_iload E 5 rfl dX5_heavy_19 ?_
    refine s_aload_n E 0 rfl dX5_heavy_21 rfl ?_
    refine s_geti E (y := (σ 0 5)) 0 5 in_X5 gM_0 rfl (by decide) m_f_X5_99 rfl rfl dX5_heavy_22 ?_
    refine s_icmp_ge E 62 dX5_heavy_25 (by decide) (fun c2 => ?_) (fun c2 => ?_)
    · have h := (if_pos c2).symm.trans h
      refine s_sub E (lv' := [(0, .ref (q 0)), (1, .int x1), (3, .int x3), (4, .int x4), (5, .int y5)]) [0, 1, 2, 3, 4] rfl ?_
      obtain rfl := Option.some.inj h
      exact hK
    · have h := (if_neg c2).symm.trans h
      refine s_iload E 4 rfl dX5_heavy_28 ?_
      refine s_iload_n E 1 rfl dX5_heavy_30 rfl ?_
      refine s_iload E 5 rfl dX5_heavy_31 ?_
      refine s_ishr E dX5_heavy_33 ?_
      refine s_iconst E (v := 1) dX5_heavy_34 ki_1 ?_
      refine s_iand E dX5_heavy_35 ?_
      refine s_iconst E (v := 1) dX5_heavy_36 ki_1 ?_
      refine s_icmp_ne E 52 dX5_heavy_37 (by decide) (fun c3 => ?_) (fun c3 => ?_)
      · have h := (if_pos c3).symm.trans h
        refine s_aload_n E 0 rfl dX5_heavy_40 rfl ?_
        refine s_iload E 5 rfl dX5_heavy_41 ?_
        refine s_iload_n E 2 rfl dX5_heavy_43 rfl ?_
        refine s_iload E 3 rfl dX5_heavy_44 ?_
        obtain ⟨u4, e4, h⟩ := bnd_some h
        refine s_callVi E kf_X5_weightOf m_l_X5_134 (c_X5_weightOf q σ y6 x3 x4 u4 e4) ⟨rfl, rfl, by decide, by decide⟩ (q0 := 0) rfl rfl rfl rfl rfl (Nat.le_of_ble_eq_true rfl) dX5_heavy_46 ?_
        refine s_goto E 53 dX5_heavy_49 (by decide) ?_
        refine s_iadd E dX5_heavy_53 ?_
        refine s_istore E (lv' := [(0, .ref (q 0)), (1, .int x1), (3, .int x3), (4, .int x4), (5, .int (y5 + u4)), (6, .int y6)]) dX5_heavy_54 rfl rfl rfl (by decide) ?_
        refine s_iinc E (v := (y6 + 1)) (lv' := [(0, .ref (q 0)), (1, .int x1), (3, .int x3), (4, .int x4), (5, .int (y5 + u4)), (6, .int (y6 + 1))]) 5 rfl dX5_heavy_56 ki_1 rfl rfl rfl rfl (by decide) ?_
        refine s_goto E 19 dX5_heavy_59 (by decide) ?_
        exact ih (y5 + u4) (y6 + 1) z h hK
      · have h := (if_neg c3).symm.trans h
        refine s_iconst E (v := 0) dX5_heavy_52 ki_0 ?_
        refine s_iadd E dX5_heavy_53 ?_
        refine s_istore E (lv' := [(0, .ref (q 0)), (1, .int x1), (3, .int x3), (4, .int x4), (5, .int (y5 + 0)), (6, .int y6)]) dX5_heavy_54 rfl rfl rfl (by decide) ?_
        refine s_iinc E (v := (y6 + 1)) (lv' := [(0, .ref (q 0)), (1, .int x1), (3, .int x3), (4, .int x4), (5, .int (y5 + 0)), (6, .int (y6 + 1))]) 5 rfl dX5_heavy_56 ki_1 rfl rfl rfl rfl (by decide) ?_
        refine s_goto E 19 dX5_heavy_59 (by decide) ?_
        exact ih (y5 + 0) (y6 + 1) z h hK
noncomputable def f_X5_heavy_J14 (σ : Nat → Nat → Int32) (t1 : Int32) (t3 : Int32) (t4 : Int32) (s0 : Int32) : Option Int32 :=
  ((f_X5_heavy_L19 σ t1 t3 t4 fuel s0 0).bind fun u5 => (some u5))
set_option maxRecDepth 100000 in
set_option maxHeartbeats 4000000 in
theorem w_X5_heavy_J14 (E : EV p s m args meth c dC dI cI cZ cX5_heavy 7 RX5 (some .int)) (q : Nat → Nat) (σ : Nat → Nat → Int32) (t1 : Int32) (t3 : Int32) (t4 : Int32) (s0 : Int32) (z : Int32) (h : f_X5_heavy_J14 σ t1 t3 t4 s0 = some z) : GG p l e rm_X5_heavy s m args below meth c (MQ below (CQ dC dI (some (.int z)) (wM cI cZ q σ) A) args s 0 0 A) A dC dI 7 (wM cI cZ q σ) 14 [(0, .ref (q 0)), (1, .int t1), (3, .int t3), (4, .int t4)] [.int s0] := by
  unfold f_X5_heavy_J14 at h
  refine s_istore E (lv' := [(0, .ref (q 0)), (1, .int t1), (3, .int t3), (4, .int t4), (5, .int s0)]) dX5_heavy_14 rfl rfl rfl (by decide) ?_
  refine s_iconst E (v := 0) dX5_heavy_16 ki_0 ?_
  refine s_istore E (lv' := [(0, .ref (q 0)), (1, .int t1), (3, .int t3), (4, .int t4), (5, .int s0), (6, .int 0)]) dX5_heavy_17 rfl rfl rfl (by decide) ?_
  obtain ⟨u5, e5, h⟩ := bnd_some h
  refine w_X5_heavy_L19 E q σ t1 t3 t4 fuel s0 0 u5 e5 ?_
  refine s_iload E 4 rfl dX5_heavy_62 ?_
  obtain rfl := Option.some.inj h
  exact s_iret E rfl rfl dX5_heavy_64
noncomputable def f_X5_heavy (σ : Nat → Nat → Int32) (x1 : Int32) (x2 : Int32) (x3 : Int32) (x4 : Int32) : Option Int32 :=
  (if x2 = 0 then (f_X5_heavy_J14 σ x1 x3 x4 (σ 3 4)) else (f_X5_heavy_J14 σ x1 x3 x4 0))
set_option maxRecDepth 100000 in
set_option maxHeartbeats 4000000 in
theorem c_X5_heavy (q : Nat → Nat) (σ : Nat → Nat → Int32) (x1 : Int32) (x2 : Int32) (x3 : Int32) (x4 : Int32) (z : Int32) (h : f_X5_heavy σ x1 x2 x3 x4 = some z) : CT l dC dI cI cZ A yX5_heavy cX5_heavy 7 (some .int) rm_X5_heavy [.ref (q 0), .int x1, .int x2, .int x3, .int x4] (wM cI cZ q σ) (wM cI cZ q σ) (some (.int z)) := by
  refine b_met (by decide) (Nat.le_of_ble_eq_true rfl) ?_
  intro p e s m below meth c E
  have E : EV p s m _ meth c dC dI cI cZ cX5_heavy 7 RX5 (some .int) := E
  show GG p l e rm_X5_heavy s m _ below meth c _ A dC dI 7 (wM cI cZ q σ) 0 [(0, .ref (q 0)), (1, .int x1), (2, .int x2), (3, .int x3), (4, .int x4)] []
  unfold f_X5_heavy at h
  refine s_iload_n E 2 rfl dX5_heavy_0 rfl ?_
  refine s_if_ne E 13 dX5_heavy_1 (by decide) (fun c1 => ?_) (fun c1 => ?_)
  · have h := (if_pos c1).symm.trans h
    refine s_aload_n E 0 rfl dX5_heavy_4 rfl ?_
    refine s_get E (v := .ref (q 3)) 0 3 in_X5 gM_0 rfl (by decide) m_f_X5_16 rfl dX5_heavy_5 ?_
    refine s_iconst E (v := 4) dX5_heavy_8 ki_4 ?_
    refine s_iald E (i := 4) (v := (σ 3 4)) 3 gM_3 vin_4_5 rfl dX5_heavy_9 ?_
    refine s_goto E 14 dX5_heavy_10 (by decide) ?_
    refine s_sub E (lv' := [(0, .ref (q 0)), (1, .int x1), (3, .int x3), (4, .int x4)]) [0, 1, 3, 4] rfl ?_
    exact w_X5_heavy_J14 E q σ x1 x3 x4 (σ 3 4) z h
  · have h := (if_neg c1).symm.trans h
    refine s_iconst E (v := 0) dX5_heavy_13 ki_0 ?_
    refine s_sub E (lv' := [(0, .ref (q 0)), (1, .int x1), (3, .int x3), (4, .int x4)]) [0, 1, 3, 4] rfl ?_
    exact w_X5_heavy_J14 E q σ x1 x3 x4 0 z h
end
abbrev rm_X5_weighs : Room := { frames := 2, cells := 0, slots := 0, locals := 50 }
section
noncomputable def f_X5_weighs (σ : Nat → Nat → Int32) (x1 : Int32) (x2 : Int32) : Option Int32 :=
  ((f_X5_isEnd σ x1).bind fun u1 => (if u1 = 0 then (some (-1)) else (if (f_X5_in x2.toInt64 (0 : Int64) (9 : Int64)) = 0 then (some (-2)) else ((f_X5_whoAt σ x1).bind fun u4 => ((f_X5_heavy σ u4 x1 x2 0).bind fun u5 => (some u5))))))
set_option maxRecDepth 100000 in
set_option maxHeartbeats 4000000 in
theorem c_X5_weighs (q : Nat → Nat) (σ : Nat → Nat → Int32) (x1 : Int32) (x2 : Int32) (z : Int32) (h : f_X5_weighs σ x1 x2 = some z) : CT l dC dI cI cZ A yX5_weighs cX5_weighs 3 (some .int) rm_X5_weighs [.ref (q 0), .int x1, .int x2] (wM cI cZ q σ) (wM cI cZ q σ) (some (.int z)) := by
  refine b_met (by decide) (Nat.le_of_ble_eq_true rfl) ?_
  intro p e s m below meth c E
  have E : EV p s m _ meth c dC dI cI cZ cX5_weighs 3 RX5 (some .int) := E
  show GG p l e rm_X5_weighs s m _ below meth c _ A dC dI 3 (wM cI cZ q σ) 0 [(0, .ref (q 0)), (1, .int x1), (2, .int x2)] []
  unfold f_X5_weighs at h
  refine s_aload_n E 0 rfl dX5_weighs_0 rfl ?_
  refine s_iload_n E 1 rfl dX5_weighs_1 rfl ?_
  obtain ⟨u1, e1, h⟩ := bnd_some h
  refine s_callVi E kf_X5_isEnd m_l_X5_118 (c_X5_isEnd q σ x1 u1 e1) ⟨rfl, rfl, by decide, by decide⟩ (q0 := 0) rfl rfl rfl rfl rfl (Nat.le_of_ble_eq_true rfl) dX5_weighs_2 ?_
  refine s_if_ne E 10 dX5_weighs_5 (by decide) (fun c2 => ?_) (fun c2 => ?_)
  · have h := (if_pos c2).symm.trans h
    refine s_iconst E (v := (-1)) dX5_weighs_8 ki_m1 ?_
    obtain rfl := Option.some.inj h
    exact s_iret E rfl rfl dX5_weighs_9
  · have h := (if_neg c2).symm.trans h
    refine s_iload_n E 2 rfl dX5_weighs_10 rfl ?_
    refine s_i2l E dX5_weighs_11 ?_
    refine s_lconst E (v := 0) dX5_weighs_12 (by decide) ?_
    refine s_ldc2 E (v := (9)) m_c_X5_86 dX5_weighs_13 ?_
    refine s_callSi E kf_X5_in m_l_X5_70 (c_X5_in (wM cI cZ q σ) x2.toInt64 (0 : Int64) (9 : Int64)) ⟨rfl, rfl, by decide, by decide⟩ rfl rfl (Nat.le_of_ble_eq_true rfl) dX5_weighs_16 ?_
    refine s_if_eq E 37 dX5_weighs_19 (by decide) (fun c3 => ?_) (fun c3 => ?_)
    · have h := (if_pos c3).symm.trans h
      refine s_bipush E (v := (-2)) dX5_weighs_37 kb_m2 ?_
      obtain rfl := Option.some.inj h
      exact s_iret E rfl rfl dX5_weighs_39
    · have h := (if_neg c3).symm.trans h
      refine s_aload_n E 0 rfl dX5_weighs_22 rfl ?_
      refine s_aload_n E 0 rfl dX5_weighs_23 rfl ?_
      refine s_iload_n E 1 rfl dX5_weighs_24 rfl ?_
      obtain ⟨u4, e4, h⟩ := bnd_some h
      refine s_callVi E kf_X5_whoAt m_l_X5_125 (c_X5_whoAt q σ x1 u4 e4) ⟨rfl, rfl, by decide, by decide⟩ (q0 := 0) rfl rfl rfl rfl rfl (Nat.le_of_ble_eq_true rfl) dX5_weighs_25 ?_
      refine s_iload_n E 1 rfl dX5_weighs_28 rfl ?_
      refine s_iload_n E 2 rfl dX5_weighs_29 rfl ?_
      refine s_iconst E (v := 0) dX5_weighs_30 ki_0 ?_
      obtain ⟨u5, e5, h⟩ := bnd_some h
      refine s_callVi E kf_X5_heavy m_l_X5_138 (c_X5_heavy q σ u4 x1 x2 0 u5 e5) ⟨rfl, rfl, by decide, by decide⟩ (q0 := 0) rfl rfl rfl rfl rfl (Nat.le_of_ble_eq_true rfl) dX5_weighs_31 ?_
      refine s_goto E 39 dX5_weighs_34 (by decide) ?_
      obtain rfl := Option.some.inj h
      exact s_iret E rfl rfl dX5_weighs_39
end
abbrev rm_X5_offOf : Room := { frames := 0, cells := 0, slots := 0, locals := 0 }
section
noncomputable def f_X5_offOf_J64 (t3 : Int32) (t5 : Int32) (s0 : Int32) : Int32 :=
  (if t5 ≤ t3 then (s0 - t5) else (s0 - t3))
set_option maxRecDepth 100000 in
set_option maxHeartbeats 4000000 in
theorem w_X5_offOf_J64 (E : EV p s m args meth c dC dI cI cZ cX5_offOf 6 RX5 (some .int)) (q : Nat → Nat) (σ : Nat → Nat → Int32) (t3 : Int32) (t5 : Int32) (s0 : Int32) (z : Int32) (h : f_X5_offOf_J64 t3 t5 s0 = z) : GG p l e rm_X5_offOf s m args below meth c (MQ below (CQ dC dI (some (.int z)) (wM cI cZ q σ) A) args s 0 0 A) A dC dI 6 (wM cI cZ q σ) 64 [(3, .int t3), (5, .int t5)] [.int s0] := by
  unfold f_X5_offOf_J64 at h
  refine s_istore E (lv' := [(3, .int t3), (5, .int t5), (4, .int s0)]) dX5_offOf_64 rfl rfl rfl (by decide) ?_
  refine s_sub E (lv' := [(3, .int t3), (4, .int s0), (5, .int t5)]) [0, 2, 1] rfl ?_
  refine s_iload_n E 0 rfl dX5_offOf_66 rfl ?_
  refine s_iload E 2 rfl dX5_offOf_67 ?_
  refine s_icmp_ge E 76 dX5_offOf_69 (by decide) (fun c5 => ?_) (fun c5 => ?_)
  · have h := (if_pos c5).symm.trans h
    refine s_iload E 2 rfl dX5_offOf_76 ?_
    refine s_istore E (lv' := [(3, .int t3), (4, .int s0), (5, .int t5)]) dX5_offOf_78 rfl rfl rfl (by decide) ?_
    refine s_iload E 1 rfl dX5_offOf_80 ?_
    refine s_iload E 2 rfl dX5_offOf_82 ?_
    refine s_isub E dX5_offOf_84 ?_
    subst h
    exact s_iret E rfl rfl dX5_offOf_85
  · have h := (if_neg c5).symm.trans h
    refine s_iload_n E 0 rfl dX5_offOf_72 rfl ?_
    refine s_goto E 78 dX5_offOf_73 (by decide) ?_
    refine s_istore E (lv' := [(3, .int t3), (4, .int s0), (5, .int t3)]) dX5_offOf_78 rfl rfl rfl (by decide) ?_
    refine s_iload E 1 rfl dX5_offOf_80 ?_
    refine s_iload E 2 rfl dX5_offOf_82 ?_
    refine s_isub E dX5_offOf_84 ?_
    subst h
    exact s_iret E rfl rfl dX5_offOf_85
noncomputable def f_X5_offOf_J50 (t3 : Int32) (t4 : Int32) (s0 : Int32) : Int32 :=
  (if t3 ≤ t4 then (f_X5_offOf_J64 t3 s0 t4) else (f_X5_offOf_J64 t3 s0 t3))
set_option maxRecDepth 100000 in
set_option maxHeartbeats 4000000 in
theorem w_X5_offOf_J50 (E : EV p s m args meth c dC dI cI cZ cX5_offOf 6 RX5 (some .int)) (q : Nat → Nat) (σ : Nat → Nat → Int32) (t3 : Int32) (t4 : Int32) (s0 : Int32) (z : Int32) (h : f_X5_offOf_J50 t3 t4 s0 = z) : GG p l e rm_X5_offOf s m args below meth c (MQ below (CQ dC dI (some (.int z)) (wM cI cZ q σ) A) args s 0 0 A) A dC dI 6 (wM cI cZ q σ) 50 [(3, .int t3), (4, .int t4)] [.int s0] := by
  unfold f_X5_offOf_J50 at h
  refine s_istore E (lv' := [(3, .int t3), (4, .int t4), (5, .int s0)]) dX5_offOf_50 rfl rfl rfl (by decide) ?_
  refine s_iload_n E 0 rfl dX5_offOf_52 rfl ?_
  refine s_iload E 1 rfl dX5_offOf_53 ?_
  refine s_icmp_le E 62 dX5_offOf_55 (by decide) (fun c4 => ?_) (fun c4 => ?_)
  · have h := (if_pos c4).symm.trans h
    refine s_iload E 1 rfl dX5_offOf_62 ?_
    refine s_sub E (lv' := [(3, .int t3), (5, .int s0)]) [0, 2] rfl ?_
    exact w_X5_offOf_J64 E q σ t3 s0 t4 z h
  · have h := (if_neg c4).symm.trans h
    refine s_iload_n E 0 rfl dX5_offOf_58 rfl ?_
    refine s_goto E 64 dX5_offOf_59 (by decide) ?_
    refine s_sub E (lv' := [(3, .int t3), (5, .int s0)]) [0, 2] rfl ?_
    exact w_X5_offOf_J64 E q σ t3 s0 t3 z h
noncomputable def f_X5_offOf_J38 (t1 : Int32) (t2 : Int32) (t3 : Int32) (s0 : Int32) : Int32 :=
  (if t2 ≤ t1 then (f_X5_offOf_J50 t3 s0 t2) else (f_X5_offOf_J50 t3 s0 t1))
set_option maxRecDepth 100000 in
set_option maxHeartbeats 4000000 in
theorem w_X5_offOf_J38 (E : EV p s m args meth c dC dI cI cZ cX5_offOf 6 RX5 (some .int)) (q : Nat → Nat) (σ : Nat → Nat → Int32) (t1 : Int32) (t2 : Int32) (t3 : Int32) (s0 : Int32) (z : Int32) (h : f_X5_offOf_J38 t1 t2 t3 s0 = z) : GG p l e rm_X5_offOf s m args below meth c (MQ below (CQ dC dI (some (.int z)) (wM cI cZ q σ) A) args s 0 0 A) A dC dI 6 (wM cI cZ q σ) 38 [(1, .int t1), (2, .int t2), (3, .int t3)] [.int s0] := by
  unfold f_X5_offOf_J38 at h
  refine s_istore E (lv' := [(1, .int t1), (2, .int t2), (3, .int t3), (4, .int s0)]) dX5_offOf_38 rfl rfl rfl (by decide) ?_
  refine s_iload_n E 0 rfl dX5_offOf_40 rfl ?_
  refine s_iload_n E 1 rfl dX5_offOf_41 rfl ?_
  refine s_icmp_ge E 49 dX5_offOf_42 (by decide) (fun c3 => ?_) (fun c3 => ?_)
  · have h := (if_pos c3).symm.trans h
    refine s_iload_n E 1 rfl dX5_offOf_49 rfl ?_
    refine s_sub E (lv' := [(3, .int t3), (4, .int s0)]) [2, 3] rfl ?_
    exact w_X5_offOf_J50 E q σ t3 s0 t2 z h
  · have h := (if_neg c3).symm.trans h
    refine s_iload_n E 0 rfl dX5_offOf_45 rfl ?_
    refine s_goto E 50 dX5_offOf_46 (by decide) ?_
    refine s_sub E (lv' := [(3, .int t3), (4, .int s0)]) [2, 3] rfl ?_
    exact w_X5_offOf_J50 E q σ t3 s0 t1 z h
noncomputable def f_X5_offOf (σ : Nat → Nat → Int32) (x1 : Int32) (x2 : Int32) (x3 : Int32) : Int32 :=
  (if (σ 3 0) = 2 then (((σ 3 1) * x1) - ((σ 3 2) * x2)) else (if x1 ≤ x2 then (f_X5_offOf_J38 x1 x2 x3 x2) else (f_X5_offOf_J38 x1 x2 x3 x1)))
set_option maxRecDepth 100000 in
set_option maxHeartbeats 4000000 in
theorem c_X5_offOf (q : Nat → Nat) (σ : Nat → Nat → Int32) (x1 : Int32) (x2 : Int32) (x3 : Int32) : CT l dC dI cI cZ A yX5_offOf cX5_offOf 6 (some .int) rm_X5_offOf [.ref (q 0), .int x1, .int x2, .int x3] (wM cI cZ q σ) (wM cI cZ q σ) (some (.int (f_X5_offOf σ x1 x2 x3))) := by
  refine b_met (by decide) (Nat.le_of_ble_eq_true rfl) ?_
  intro p e s m below meth c E
  have E : EV p s m _ meth c dC dI cI cZ cX5_offOf 6 RX5 (some .int) := E
  generalize h : f_X5_offOf σ x1 x2 x3 = z
  show GG p l e rm_X5_offOf s m _ below meth c _ A dC dI 6 (wM cI cZ q σ) 0 [(0, .ref (q 0)), (1, .int x1), (2, .int x2), (3, .int x3)] []
  unfold f_X5_offOf at h
  refine s_aload_n E 0 rfl dX5_offOf_0 rfl ?_
  refine s_get E (v := .ref (q 3)) 0 3 in_X5 gM_0 rfl (by decide) m_f_X5_16 rfl dX5_offOf_1 ?_
  refine s_iconst E (v := 0) dX5_offOf_4 ki_0 ?_
  refine s_iald E (i := 0) (v := (σ 3 0)) 3 gM_3 vin_0_5 rfl dX5_offOf_5 ?_
  refine s_iconst E (v := 2) dX5_offOf_6 ki_2 ?_
  refine s_icmp_ne E 28 dX5_offOf_7 (by decide) (fun c1 => ?_) (fun c1 => ?_)
  · have h := (if_pos c1).symm.trans h
    refine s_aload_n E 0 rfl dX5_offOf_10 rfl ?_
    refine s_get E (v := .ref (q 3)) 0 3 in_X5 gM_0 rfl (by decide) m_f_X5_16 rfl dX5_offOf_11 ?_
    refine s_iconst E (v := 1) dX5_offOf_14 ki_1 ?_
    refine s_iald E (i := 1) (v := (σ 3 1)) 3 gM_3 vin_1_5 rfl dX5_offOf_15 ?_
    refine s_iload_n E 1 rfl dX5_offOf_16 rfl ?_
    refine s_imul E dX5_offOf_17 ?_
    refine s_aload_n E 0 rfl dX5_offOf_18 rfl ?_
    refine s_get E (v := .ref (q 3)) 0 3 in_X5 gM_0 rfl (by decide) m_f_X5_16 rfl dX5_offOf_19 ?_
    refine s_iconst E (v := 2) dX5_offOf_22 ki_2 ?_
    refine s_iald E (i := 2) (v := (σ 3 2)) 3 gM_3 vin_2_5 rfl dX5_offOf_23 ?_
    refine s_iload_n E 2 rfl dX5_offOf_24 rfl ?_
    refine s_imul E dX5_offOf_25 ?_
    refine s_isub E dX5_offOf_26 ?_
    subst h
    exact s_iret E rfl rfl dX5_offOf_27
  · have h := (if_neg c1).symm.trans h
    refine s_iload_n E 1 rfl dX5_offOf_28 rfl ?_
    refine s_iload_n E 2 rfl dX5_offOf_29 rfl ?_
    refine s_icmp_le E 37 dX5_offOf_30 (by decide) (fun c2 => ?_) (fun c2 => ?_)
    · have h := (if_pos c2).symm.trans h
      refine s_iload_n E 2 rfl dX5_offOf_37 rfl ?_
      refine s_sub E (lv' := [(1, .int x1), (2, .int x2), (3, .int x3)]) [1, 2, 3] rfl ?_
      exact w_X5_offOf_J38 E q σ x1 x2 x3 x2 z h
    · have h := (if_neg c2).symm.trans h
      refine s_iload_n E 1 rfl dX5_offOf_33 rfl ?_
      refine s_goto E 38 dX5_offOf_34 (by decide) ?_
      refine s_sub E (lv' := [(1, .int x1), (2, .int x2), (3, .int x3)]) [1, 2, 3] rfl ?_
      exact w_X5_offOf_J38 E q σ x1 x2 x3 x1 z h
end
abbrev rm_X5_off : Room := { frames := 2, cells := 0, slots := 0, locals := 50 }
section
noncomputable def f_X5_off (σ : Nat → Nat → Int32) (x1 : Int32) : Option Int32 :=
  (if (f_X5_in x1.toInt64 (0 : Int64) (9 : Int64)) = 0 then (some (-2)) else ((f_X5_whoAt σ 0).bind fun u2 => ((f_X5_heavy σ u2 0 x1 0).bind fun u3 => ((f_X5_whoAt σ 1).bind fun u4 => ((f_X5_heavy σ u4 1 x1 0).bind fun u5 => ((f_X5_whoAt σ 2).bind fun u6 => ((f_X5_heavy σ u6 2 x1 0).bind fun u7 => (some (10000 + (f_X5_offOf σ u3 u5 u7))))))))))
set_option maxRecDepth 100000 in
set_option maxHeartbeats 4000000 in
theorem c_X5_off (q : Nat → Nat) (σ : Nat → Nat → Int32) (x1 : Int32) (z : Int32) (h : f_X5_off σ x1 = some z) : CT l dC dI cI cZ A yX5_off cX5_off 2 (some .int) rm_X5_off [.ref (q 0), .int x1] (wM cI cZ q σ) (wM cI cZ q σ) (some (.int z)) := by
  refine b_met (by decide) (Nat.le_of_ble_eq_true rfl) ?_
  intro p e s m below meth c E
  have E : EV p s m _ meth c dC dI cI cZ cX5_off 2 RX5 (some .int) := E
  show GG p l e rm_X5_off s m _ below meth c _ A dC dI 2 (wM cI cZ q σ) 0 [(0, .ref (q 0)), (1, .int x1)] []
  unfold f_X5_off at h
  refine s_iload_n E 1 rfl dX5_off_0 rfl ?_
  refine s_i2l E dX5_off_1 ?_
  refine s_lconst E (v := 0) dX5_off_2 (by decide) ?_
  refine s_ldc2 E (v := (9)) m_c_X5_86 dX5_off_3 ?_
  refine s_callSi E kf_X5_in m_l_X5_70 (c_X5_in (wM cI cZ q σ) x1.toInt64 (0 : Int64) (9 : Int64)) ⟨rfl, rfl, by decide, by decide⟩ rfl rfl (Nat.le_of_ble_eq_true rfl) dX5_off_6 ?_
  refine s_if_ne E 15 dX5_off_9 (by decide) (fun c1 => ?_) (fun c1 => ?_)
  · have h := (if_pos c1).symm.trans h
    refine s_bipush E (v := (-2)) dX5_off_12 kb_m2 ?_
    obtain rfl := Option.some.inj h
    exact s_iret E rfl rfl dX5_off_14
  · have h := (if_neg c1).symm.trans h
    refine s_sipush E (v := 10000) dX5_off_15 ks_10000 ?_
    refine s_aload_n E 0 rfl dX5_off_18 rfl ?_
    refine s_aload_n E 0 rfl dX5_off_19 rfl ?_
    refine s_aload_n E 0 rfl dX5_off_20 rfl ?_
    refine s_iconst E (v := 0) dX5_off_21 ki_0 ?_
    obtain ⟨u2, e2, h⟩ := bnd_some h
    refine s_callVi E kf_X5_whoAt m_l_X5_125 (c_X5_whoAt q σ 0 u2 e2) ⟨rfl, rfl, by decide, by decide⟩ (q0 := 0) rfl rfl rfl rfl rfl (Nat.le_of_ble_eq_true rfl) dX5_off_22 ?_
    refine s_iconst E (v := 0) dX5_off_25 ki_0 ?_
    refine s_iload_n E 1 rfl dX5_off_26 rfl ?_
    refine s_iconst E (v := 0) dX5_off_27 ki_0 ?_
    obtain ⟨u3, e3, h⟩ := bnd_some h
    refine s_callVi E kf_X5_heavy m_l_X5_138 (c_X5_heavy q σ u2 0 x1 0 u3 e3) ⟨rfl, rfl, by decide, by decide⟩ (q0 := 0) rfl rfl rfl rfl rfl (Nat.le_of_ble_eq_true rfl) dX5_off_28 ?_
    refine s_aload_n E 0 rfl dX5_off_31 rfl ?_
    refine s_aload_n E 0 rfl dX5_off_32 rfl ?_
    refine s_iconst E (v := 1) dX5_off_33 ki_1 ?_
    obtain ⟨u4, e4, h⟩ := bnd_some h
    refine s_callVi E kf_X5_whoAt m_l_X5_125 (c_X5_whoAt q σ 1 u4 e4) ⟨rfl, rfl, by decide, by decide⟩ (q0 := 0) rfl rfl rfl rfl rfl (Nat.le_of_ble_eq_true rfl) dX5_off_34 ?_
    refine s_iconst E (v := 1) dX5_off_37 ki_1 ?_
    refine s_iload_n E 1 rfl dX5_off_38 rfl ?_
    refine s_iconst E (v := 0) dX5_off_39 ki_0 ?_
    obtain ⟨u5, e5, h⟩ := bnd_some h
    refine s_callVi E kf_X5_heavy m_l_X5_138 (c_X5_heavy q σ u4 1 x1 0 u5 e5) ⟨rfl, rfl, by decide, by decide⟩ (q0 := 0) rfl rfl rfl rfl rfl (Nat.le_of_ble_eq_true rfl) dX5_off_40 ?_
    refine s_aload_n E 0 rfl dX5_off_43 rfl ?_
    refine s_aload_n E 0 rfl dX5_off_44 rfl ?_
    refine s_iconst E (v := 2) dX5_off_45 ki_2 ?_
    obtain ⟨u6, e6, h⟩ := bnd_some h
    refine s_callVi E kf_X5_whoAt m_l_X5_125 (c_X5_whoAt q σ 2 u6 e6) ⟨rfl, rfl, by decide, by decide⟩ (q0 := 0) rfl rfl rfl rfl rfl (Nat.le_of_ble_eq_true rfl) dX5_off_46 ?_
    refine s_iconst E (v := 2) dX5_off_49 ki_2 ?_
    refine s_iload_n E 1 rfl dX5_off_50 rfl ?_
    refine s_iconst E (v := 0) dX5_off_51 ki_0 ?_
    obtain ⟨u7, e7, h⟩ := bnd_some h
    refine s_callVi E kf_X5_heavy m_l_X5_138 (c_X5_heavy q σ u6 2 x1 0 u7 e7) ⟨rfl, rfl, by decide, by decide⟩ (q0 := 0) rfl rfl rfl rfl rfl (Nat.le_of_ble_eq_true rfl) dX5_off_52 ?_
    refine s_callVi E kf_X5_offOf m_l_X5_142 (c_X5_offOf q σ u3 u5 u7) ⟨rfl, rfl, by decide, by decide⟩ (q0 := 0) rfl rfl rfl rfl rfl (Nat.le_of_ble_eq_true rfl) dX5_off_55 ?_
    refine s_iadd E dX5_off_58 ?_
    obtain rfl := Option.some.inj h
    exact s_iret E rfl rfl dX5_off_59
end
abbrev rm_X5_isEven : Room := { frames := 2, cells := 0, slots := 0, locals := 50 }
section
noncomputable def f_X5_isEven (σ : Nat → Nat → Int32) (x1 : Int32) (x2 : Int32) (x3 : Int32) (x4 : Int32) (x5 : Int32) : Option Int32 :=
  ((f_X5_heavy σ x1 0 x4 x5).bind fun u1 => ((f_X5_heavy σ x2 1 x4 x5).bind fun u2 => ((f_X5_heavy σ x3 2 x4 x5).bind fun u3 => (if (f_X5_offOf σ u1 u2 u3) = 0 then (some 1) else (some 0)))))
set_option maxRecDepth 100000 in
set_option maxHeartbeats 4000000 in
theorem c_X5_isEven (q : Nat → Nat) (σ : Nat → Nat → Int32) (x1 : Int32) (x2 : Int32) (x3 : Int32) (x4 : Int32) (x5 : Int32) (z : Int32) (h : f_X5_isEven σ x1 x2 x3 x4 x5 = some z) : CT l dC dI cI cZ A yX5_isEven cX5_isEven 6 (some .boolean) rm_X5_isEven [.ref (q 0), .int x1, .int x2, .int x3, .int x4, .int x5] (wM cI cZ q σ) (wM cI cZ q σ) (some (.int z)) := by
  refine b_met (by decide) (Nat.le_of_ble_eq_true rfl) ?_
  intro p e s m below meth c E
  have E : EV p s m _ meth c dC dI cI cZ cX5_isEven 6 RX5 (some .boolean) := E
  show GG p l e rm_X5_isEven s m _ below meth c _ A dC dI 6 (wM cI cZ q σ) 0 [(0, .ref (q 0)), (1, .int x1), (2, .int x2), (3, .int x3), (4, .int x4), (5, .int x5)] []
  unfold f_X5_isEven at h
  refine s_aload_n E 0 rfl dX5_isEven_0 rfl ?_
  refine s_aload_n E 0 rfl dX5_isEven_1 rfl ?_
  refine s_iload_n E 1 rfl dX5_isEven_2 rfl ?_
  refine s_iconst E (v := 0) dX5_isEven_3 ki_0 ?_
  refine s_iload E 4 rfl dX5_isEven_4 ?_
  refine s_iload E 5 rfl dX5_isEven_6 ?_
  obtain ⟨u1, e1, h⟩ := bnd_some h
  refine s_callVi E kf_X5_heavy m_l_X5_138 (c_X5_heavy q σ x1 0 x4 x5 u1 e1) ⟨rfl, rfl, by decide, by decide⟩ (q0 := 0) rfl rfl rfl rfl rfl (Nat.le_of_ble_eq_true rfl) dX5_isEven_8 ?_
  refine s_aload_n E 0 rfl dX5_isEven_11 rfl ?_
  refine s_iload_n E 2 rfl dX5_isEven_12 rfl ?_
  refine s_iconst E (v := 1) dX5_isEven_13 ki_1 ?_
  refine s_iload E 4 rfl dX5_isEven_14 ?_
  refine s_iload E 5 rfl dX5_isEven_16 ?_
  obtain ⟨u2, e2, h⟩ := bnd_some h
  refine s_callVi E kf_X5_heavy m_l_X5_138 (c_X5_heavy q σ x2 1 x4 x5 u2 e2) ⟨rfl, rfl, by decide, by decide⟩ (q0 := 0) rfl rfl rfl rfl rfl (Nat.le_of_ble_eq_true rfl) dX5_isEven_18 ?_
  refine s_aload_n E 0 rfl dX5_isEven_21 rfl ?_
  refine s_iload_n E 3 rfl dX5_isEven_22 rfl ?_
  refine s_iconst E (v := 2) dX5_isEven_23 ki_2 ?_
  refine s_iload E 4 rfl dX5_isEven_24 ?_
  refine s_iload E 5 rfl dX5_isEven_26 ?_
  obtain ⟨u3, e3, h⟩ := bnd_some h
  refine s_callVi E kf_X5_heavy m_l_X5_138 (c_X5_heavy q σ x3 2 x4 x5 u3 e3) ⟨rfl, rfl, by decide, by decide⟩ (q0 := 0) rfl rfl rfl rfl rfl (Nat.le_of_ble_eq_true rfl) dX5_isEven_28 ?_
  refine s_callVi E kf_X5_offOf m_l_X5_142 (c_X5_offOf q σ u1 u2 u3) ⟨rfl, rfl, by decide, by decide⟩ (q0 := 0) rfl rfl rfl rfl rfl (Nat.le_of_ble_eq_true rfl) dX5_isEven_31 ?_
  refine s_if_ne E 41 dX5_isEven_34 (by decide) (fun c4 => ?_) (fun c4 => ?_)
  · have h := (if_pos c4).symm.trans h
    refine s_iconst E (v := 1) dX5_isEven_37 ki_1 ?_
    refine s_goto E 42 dX5_isEven_38 (by decide) ?_
    obtain rfl := Option.some.inj h
    exact s_zret E rfl rfl rfl dX5_isEven_42
  · have h := (if_neg c4).symm.trans h
    refine s_iconst E (v := 0) dX5_isEven_41 ki_0 ?_
    obtain rfl := Option.some.inj h
    exact s_zret E rfl rfl rfl dX5_isEven_42
end
abbrev rm_X5_isLevel : Room := { frames := 3, cells := 0, slots := 0, locals := 75 }
section
noncomputable def f_X5_isLevel (σ : Nat → Nat → Int32) (x1 : Int32) (x2 : Int32) (x3 : Int32) (x4 : Int32) : Option Int32 :=
  ((f_X5_isEven σ x1 x2 x3 0 x4).bind fun u1 => (if u1 = 0 then (some 0) else ((f_X5_isEven σ x1 x2 x3 (σ 0 9) x4).bind fun u3 => (if u3 = 0 then (some 0) else (some 1)))))
set_option maxRecDepth 100000 in
set_option maxHeartbeats 4000000 in
theorem c_X5_isLevel (q : Nat → Nat) (σ : Nat → Nat → Int32) (x1 : Int32) (x2 : Int32) (x3 : Int32) (x4 : Int32) (z : Int32) (h : f_X5_isLevel σ x1 x2 x3 x4 = some z) : CT l dC dI cI cZ A yX5_isLevel cX5_isLevel 5 (some .boolean) rm_X5_isLevel [.ref (q 0), .int x1, .int x2, .int x3, .int x4] (wM cI cZ q σ) (wM cI cZ q σ) (some (.int z)) := by
  refine b_met (by decide) (Nat.le_of_ble_eq_true rfl) ?_
  intro p e s m below meth c E
  have E : EV p s m _ meth c dC dI cI cZ cX5_isLevel 5 RX5 (some .boolean) := E
  show GG p l e rm_X5_isLevel s m _ below meth c _ A dC dI 5 (wM cI cZ q σ) 0 [(0, .ref (q 0)), (1, .int x1), (2, .int x2), (3, .int x3), (4, .int x4)] []
  unfold f_X5_isLevel at h
  refine s_aload_n E 0 rfl dX5_isLevel_0 rfl ?_
  refine s_iload_n E 1 rfl dX5_isLevel_1 rfl ?_
  refine s_iload_n E 2 rfl dX5_isLevel_2 rfl ?_
  refine s_iload_n E 3 rfl dX5_isLevel_3 rfl ?_
  refine s_iconst E (v := 0) dX5_isLevel_4 ki_0 ?_
  refine s_iload E 4 rfl dX5_isLevel_5 ?_
  obtain ⟨u1, e1, h⟩ := bnd_some h
  refine s_callVi E kf_X5_isEven m_l_X5_146 (c_X5_isEven q σ x1 x2 x3 0 x4 u1 e1) ⟨rfl, rfl, by decide, by decide⟩ (q0 := 0) rfl rfl rfl rfl rfl (Nat.le_of_ble_eq_true rfl) dX5_isLevel_7 ?_
  refine s_if_eq E 33 dX5_isLevel_10 (by decide) (fun c2 => ?_) (fun c2 => ?_)
  · have h := (if_pos c2).symm.trans h
    refine s_iconst E (v := 0) dX5_isLevel_33 ki_0 ?_
    obtain rfl := Option.some.inj h
    exact s_zret E rfl rfl rfl dX5_isLevel_34
  · have h := (if_neg c2).symm.trans h
    refine s_aload_n E 0 rfl dX5_isLevel_13 rfl ?_
    refine s_iload_n E 1 rfl dX5_isLevel_14 rfl ?_
    refine s_iload_n E 2 rfl dX5_isLevel_15 rfl ?_
    refine s_iload_n E 3 rfl dX5_isLevel_16 rfl ?_
    refine s_aload_n E 0 rfl dX5_isLevel_17 rfl ?_
    refine s_geti E (y := (σ 0 9)) 0 9 in_X5 gM_0 rfl (by decide) m_f_X5_102 rfl rfl dX5_isLevel_18 ?_
    refine s_iload E 4 rfl dX5_isLevel_21 ?_
    obtain ⟨u3, e3, h⟩ := bnd_some h
    refine s_callVi E kf_X5_isEven m_l_X5_146 (c_X5_isEven q σ x1 x2 x3 (σ 0 9) x4 u3 e3) ⟨rfl, rfl, by decide, by decide⟩ (q0 := 0) rfl rfl rfl rfl rfl (Nat.le_of_ble_eq_true rfl) dX5_isLevel_23 ?_
    refine s_if_eq E 33 dX5_isLevel_26 (by decide) (fun c4 => ?_) (fun c4 => ?_)
    · have h := (if_pos c4).symm.trans h
      refine s_iconst E (v := 0) dX5_isLevel_33 ki_0 ?_
      obtain rfl := Option.some.inj h
      exact s_zret E rfl rfl rfl dX5_isLevel_34
    · have h := (if_neg c4).symm.trans h
      refine s_iconst E (v := 1) dX5_isLevel_29 ki_1 ?_
      refine s_goto E 34 dX5_isLevel_30 (by decide) ?_
      obtain rfl := Option.some.inj h
      exact s_zret E rfl rfl rfl dX5_isLevel_34
end
abbrev rm_X5_fares : Room := { frames := 0, cells := 0, slots := 0, locals := 0 }
section
noncomputable def f_X5_fares_L4 (σ : Nat → Nat → Int32) (x1 : Int32) : Nat → Int32 → Int32 → Option Int32
  | 0, _, _ => none
  | n + 1, y2, y3 =>
    (if (σ 0 5) ≤ y3 then (some y2) else (if ((shr x1 y3) &&& 1) = 1 then (chk ((3 * y3) + 1) 24 (f_X5_fares_L4 σ x1 n (y2 + (σ 4 (((3 * y3) + 1).toNatClampNeg))) (y3 + 1))) else (f_X5_fares_L4 σ x1 n (y2 + 0) (y3 + 1))))
set_option maxRecDepth 100000 in
set_option maxHeartbeats 4000000 in
theorem w_X5_fares_L4 (E : EV p s m args meth c dC dI cI cZ cX5_fares 4 RX5 (some .int)) (q : Nat → Nat) (σ : Nat → Nat → Int32) (x1 : Int32) : ∀ (n : Nat) (y2 y3 : Int32) (z : Int32), f_X5_fares_L4 σ x1 n y2 y3 = some z → GG p l e rm_X5_fares s m args below meth c Q A dC dI 4 (wM cI cZ q σ) 44 [(0, .ref (q 0)), (1, .int x1), (2, .int z)] [] → GG p l e rm_X5_fares s m args below meth c Q A dC dI 4 (wM cI cZ q σ) 4 [(0, .ref (q 0)), (1, .int x1), (2, .int y2), (3, .int y3)] [] := by
  intro n
  induction n with
  | zero =>
    intro y2 y3 z h
    rw [f_X5_fares_L4] at h
    cases h
  | succ n ih =>
    intro y2 y3 z h hK
    rw [f_X5_fares_L4] at h
    refine s_iload_n E 3 rfl dX5_fares_4 rfl ?_
    refine s_aload_n E 0 rfl dX5_fares_5 rfl ?_
    refine s_geti E (y := (σ 0 5)) 0 5 in_X5 gM_0 rfl (by decide) m_f_X5_99 rfl rfl dX5_fares_6 ?_
    refine s_icmp_ge E 44 dX5_fares_9 (by decide) (fun c1 => ?_) (fun c1 => ?_)
    · have h := (if_pos c1).symm.trans h
      refine s_sub E (lv' := [(0, .ref (q 0)), (1, .int x1), (2, .int y2)]) [0, 1, 2] rfl ?_
      obtain rfl := Option.some.inj h
      exact hK
    · have h := (if_neg c1).symm.trans h
      refine s_iload_n E 2 rfl dX5_fares_12 rfl ?_
      refine s_iload_n E 1 rfl dX5_fares_13 rfl ?_
      refine s_iload_n E 3 rfl dX5_fares_14 rfl ?_
      refine s_ishr E dX5_fares_15 ?_
      refine s_iconst E (v := 1) dX5_fares_16 ki_1 ?_
      refine s_iand E dX5_fares_17 ?_
      refine s_iconst E (v := 1) dX5_fares_18 ki_1 ?_
      refine s_icmp_ne E 35 dX5_fares_19 (by decide) (fun c2 => ?_) (fun c2 => ?_)
      · have h := (if_pos c2).symm.trans h
        refine s_aload_n E 0 rfl dX5_fares_22 rfl ?_
        refine s_get E (v := .ref (q 4)) 0 4 in_X5 gM_0 rfl (by decide) m_f_X5_19 rfl dX5_fares_23 ?_
        refine s_iconst E (v := 3) dX5_fares_26 ki_3 ?_
        refine s_iload_n E 3 rfl dX5_fares_27 rfl ?_
        refine s_imul E dX5_fares_28 ?_
        refine s_iconst E (v := 1) dX5_fares_29 ki_1 ?_
        refine s_iadd E dX5_fares_30 ?_
        obtain ⟨b3, h⟩ := chk_some h
        refine s_iald E (v := (σ 4 (((3 * y3) + 1).toNatClampNeg))) 4 gM_4 b3 rfl dX5_fares_31 ?_
        refine s_goto E 36 dX5_fares_32 (by decide) ?_
        refine s_iadd E dX5_fares_36 ?_
        refine s_istore_n E (lv' := [(0, .ref (q 0)), (1, .int x1), (2, .int (y2 + (σ 4 (((3 * y3) + 1).toNatClampNeg)))), (3, .int y3)]) dX5_fares_37 rfl rfl rfl rfl (by decide) ?_
        refine s_iinc E (v := (y3 + 1)) (lv' := [(0, .ref (q 0)), (1, .int x1), (2, .int (y2 + (σ 4 (((3 * y3) + 1).toNatClampNeg)))), (3, .int (y3 + 1))]) 3 rfl dX5_fares_38 ki_1 rfl rfl rfl rfl (by decide) ?_
        refine s_goto E 4 dX5_fares_41 (by decide) ?_
        exact ih (y2 + (σ 4 (((3 * y3) + 1).toNatClampNeg))) (y3 + 1) z h hK
      · have h := (if_neg c2).symm.trans h
        refine s_iconst E (v := 0) dX5_fares_35 ki_0 ?_
        refine s_iadd E dX5_fares_36 ?_
        refine s_istore_n E (lv' := [(0, .ref (q 0)), (1, .int x1), (2, .int (y2 + 0)), (3, .int y3)]) dX5_fares_37 rfl rfl rfl rfl (by decide) ?_
        refine s_iinc E (v := (y3 + 1)) (lv' := [(0, .ref (q 0)), (1, .int x1), (2, .int (y2 + 0)), (3, .int (y3 + 1))]) 3 rfl dX5_fares_38 ki_1 rfl rfl rfl rfl (by decide) ?_
        refine s_goto E 4 dX5_fares_41 (by decide) ?_
        exact ih (y2 + 0) (y3 + 1) z h hK
noncomputable def f_X5_fares (σ : Nat → Nat → Int32) (x1 : Int32) : Option Int32 :=
  ((f_X5_fares_L4 σ x1 fuel 0 0).bind fun u4 => (some u4))
set_option maxRecDepth 100000 in
set_option maxHeartbeats 4000000 in
theorem c_X5_fares (q : Nat → Nat) (σ : Nat → Nat → Int32) (x1 : Int32) (z : Int32) (h : f_X5_fares σ x1 = some z) : CT l dC dI cI cZ A yX5_fares cX5_fares 4 (some .int) rm_X5_fares [.ref (q 0), .int x1] (wM cI cZ q σ) (wM cI cZ q σ) (some (.int z)) := by
  refine b_met (by decide) (Nat.le_of_ble_eq_true rfl) ?_
  intro p e s m below meth c E
  have E : EV p s m _ meth c dC dI cI cZ cX5_fares 4 RX5 (some .int) := E
  show GG p l e rm_X5_fares s m _ below meth c _ A dC dI 4 (wM cI cZ q σ) 0 [(0, .ref (q 0)), (1, .int x1)] []
  unfold f_X5_fares at h
  refine s_iconst E (v := 0) dX5_fares_0 ki_0 ?_
  refine s_istore_n E (lv' := [(0, .ref (q 0)), (1, .int x1), (2, .int 0)]) dX5_fares_1 rfl rfl rfl rfl (by decide) ?_
  refine s_iconst E (v := 0) dX5_fares_2 ki_0 ?_
  refine s_istore_n E (lv' := [(0, .ref (q 0)), (1, .int x1), (2, .int 0), (3, .int 0)]) dX5_fares_3 rfl rfl rfl rfl (by decide) ?_
  obtain ⟨u4, e4, h⟩ := bnd_some h
  refine w_X5_fares_L4 E q σ x1 fuel 0 0 u4 e4 ?_
  refine s_iload_n E 2 rfl dX5_fares_44 rfl ?_
  obtain rfl := Option.some.inj h
  exact s_iret E rfl rfl dX5_fares_45
end
abbrev rm_X5_leave : Room := { frames := 4, cells := 0, slots := 0, locals := 99 }
section
noncomputable def f_X5_leave_L104 : Nat → (Nat → Nat → Int32) → Int32 → Option (Nat → Nat → Int32)
  | 0, _, _ => none
  | n + 1, σ, y4 =>
    (if (σ 0 5) ≤ y4 then (some σ) else (chk y4 8 (if 10 ≤ (σ 7 (y4.toNatClampNeg)) then (chk y4 8 (chk y4 8 (f_X5_leave_L104 n (up2 σ 7 (y4.toNatClampNeg) (σ 7 (y4.toNatClampNeg))) (y4 + 1)))) else (chk y4 8 (f_X5_leave_L104 n (up2 σ 7 (y4.toNatClampNeg) 20) (y4 + 1))))))
set_option maxRecDepth 100000 in
set_option maxHeartbeats 4000000 in
theorem w_X5_leave_L104 (E : EV p s m args meth c dC dI cI cZ cX5_leave 5 RX5 (some .int)) (q : Nat → Nat) (x1 : Int32) (x2 : Int32) (x3 : Int32) : ∀ (n : Nat) (σ : Nat → Nat → Int32) (y4 : Int32) (z : (Nat → Nat → Int32)), f_X5_leave_L104 n σ y4 = some z → GG p l e rm_X5_leave s m args below meth c Q A dC dI 5 (wM cI cZ q z) 150 [(0, .ref (q 0)), (1, .int x1), (2, .int x2), (3, .int x3)] [] → GG p l e rm_X5_leave s m args below meth c Q A dC dI 5 (wM cI cZ q σ) 104 [(0, .ref (q 0)), (1, .int x1), (2, .int x2), (3, .int x3), (4, .int y4)] [] := by
  intro n
  induction n with
  | zero =>
    intro σ y4 z h
    rw [f_X5_leave_L104] at h
    cases h
  | succ n ih =>
    intro σ y4 z h hK
    rw [f_X5_leave_L104] at h
    refine s_iload E 4 rfl dX5_leave_104 ?_
    refine s_aload_n E 0 rfl dX5_leave_106 rfl ?_
    refine s_geti E (y := (σ 0 5)) 0 5 in_X5 gM_0 rfl (by decide) m_f_X5_99 rfl rfl dX5_leave_107 ?_
    refine s_icmp_ge E 150 dX5_leave_110 (by decide) (fun c12 => ?_) (fun c12 => ?_)
    · have h := (if_pos c12).symm.trans h
      refine s_sub E (lv' := [(0, .ref (q 0)), (1, .int x1), (2, .int x2), (3, .int x3)]) [0, 1, 2, 3] rfl ?_
      obtain rfl := Option.some.inj h
      exact hK
    · have h := (if_neg c12).symm.trans h
      refine s_aload_n E 0 rfl dX5_leave_113 rfl ?_
      refine s_get E (v := .ref (q 7)) 0 8 in_X5 gM_0 rfl (by decide) m_f_X5_28 rfl dX5_leave_114 ?_
      refine s_iload E 4 rfl dX5_leave_117 ?_
      refine s_aload_n E 0 rfl dX5_leave_119 rfl ?_
      refine s_get E (v := .ref (q 7)) 0 8 in_X5 gM_0 rfl (by decide) m_f_X5_28 rfl dX5_leave_120 ?_
      refine s_iload E 4 rfl dX5_leave_123 ?_
      obtain ⟨b13, h⟩ := chk_some h
      refine s_iald E (v := (σ 7 (y4.toNatClampNeg))) 7 gM_7 b13 rfl dX5_leave_125 ?_
      refine s_bipush E (v := 10) dX5_leave_126 kb_10 ?_
      refine s_icmp_ge E 136 dX5_leave_128 (by decide) (fun c14 => ?_) (fun c14 => ?_)
      · have h := (if_pos c14).symm.trans h
        refine s_aload_n E 0 rfl dX5_leave_136 rfl ?_
        refine s_get E (v := .ref (q 7)) 0 8 in_X5 gM_0 rfl (by decide) m_f_X5_28 rfl dX5_leave_137 ?_
        refine s_iload E 4 rfl dX5_leave_140 ?_
        obtain ⟨b15, h⟩ := chk_some h
        refine s_iald E (v := (σ 7 (y4.toNatClampNeg))) 7 gM_7 b15 rfl dX5_leave_142 ?_
        obtain ⟨b16, h⟩ := chk_some h
        refine s_iast E (w' := (wM cI cZ q (up2 σ 7 (y4.toNatClampNeg) (σ 7 (y4.toNatClampNeg))))) 7 gM_7 b16 aM_7 dX5_leave_143 ?_
        refine s_iinc E (v := (y4 + 1)) (lv' := [(0, .ref (q 0)), (1, .int x1), (2, .int x2), (3, .int x3), (4, .int (y4 + 1))]) 4 rfl dX5_leave_144 ki_1 rfl rfl rfl rfl (by decide) ?_
        refine s_goto E 104 dX5_leave_147 (by decide) ?_
        exact ih (up2 σ 7 (y4.toNatClampNeg) (σ 7 (y4.toNatClampNeg))) (y4 + 1) z h hK
      · have h := (if_neg c14).symm.trans h
        refine s_bipush E (v := 20) dX5_leave_131 kb_20 ?_
        refine s_goto E 143 dX5_leave_133 (by decide) ?_
        obtain ⟨b17, h⟩ := chk_some h
        refine s_iast E (w' := (wM cI cZ q (up2 σ 7 (y4.toNatClampNeg) 20))) 7 gM_7 b17 aM_7 dX5_leave_143 ?_
        refine s_iinc E (v := (y4 + 1)) (lv' := [(0, .ref (q 0)), (1, .int x1), (2, .int x2), (3, .int x3), (4, .int (y4 + 1))]) 4 rfl dX5_leave_144 ki_1 rfl rfl rfl rfl (by decide) ?_
        refine s_goto E 104 dX5_leave_147 (by decide) ?_
        exact ih (up2 σ 7 (y4.toNatClampNeg) 20) (y4 + 1) z h hK
noncomputable def f_X5_leave (σ : Nat → Nat → Int32) : Option (Int32 × (Nat → Nat → Int32)) :=
  ((f_X5_whoAt σ 0).bind fun u1 => ((f_X5_whoAt σ 1).bind fun u2 => ((f_X5_whoAt σ 2).bind fun u3 => ((f_X5_laid σ).bind fun u4 => (if u4 = 0 then (some ((-3), σ)) else ((f_X5_isLevel σ u1 u2 u3 0).bind fun u6 => (if u6 = 0 then (some ((-3), σ)) else (if (σ 0 14) = 8 then (some ((-4), σ)) else (chk (3 * (σ 0 14)) 24 (chk ((3 * (σ 0 14)) + 1) 24 (chk ((3 * (σ 0 14)) + 2) 24 ((f_X5_leave_L104 fuel (up2 (up2 (up2 (up2 σ 9 ((3 * (σ 0 14)).toNatClampNeg) u1) 9 (((3 * (σ 0 14)) + 1).toNatClampNeg) u2) 9 (((3 * (σ 0 14)) + 2).toNatClampNeg) u3) 0 14 ((σ 0 14) + 1)) 0).bind fun u18 => ((f_X5_fares u18 ((u1 ||| u2) ||| u3)).bind fun u19 => (some (u19, u18)))))))))))))))
set_option maxRecDepth 100000 in
set_option maxHeartbeats 4000000 in
theorem c_X5_leave (q : Nat → Nat) (σ : Nat → Nat → Int32) (z : (Int32 × (Nat → Nat → Int32))) (h : f_X5_leave σ = some z) : CT l dC dI cI cZ A yX5_leave cX5_leave 5 (some .int) rm_X5_leave [.ref (q 0)] (wM cI cZ q σ) (wM cI cZ q z.2) (some (.int z.1)) := by
  refine b_met (by decide) (Nat.le_of_ble_eq_true rfl) ?_
  intro p e s m below meth c E
  have E : EV p s m _ meth c dC dI cI cZ cX5_leave 5 RX5 (some .int) := E
  show GG p l e rm_X5_leave s m _ below meth c _ A dC dI 5 (wM cI cZ q σ) 0 [(0, .ref (q 0))] []
  unfold f_X5_leave at h
  refine s_aload_n E 0 rfl dX5_leave_0 rfl ?_
  refine s_iconst E (v := 0) dX5_leave_1 ki_0 ?_
  obtain ⟨u1, e1, h⟩ := bnd_some h
  refine s_callVi E kf_X5_whoAt m_l_X5_125 (c_X5_whoAt q σ 0 u1 e1) ⟨rfl, rfl, by decide, by decide⟩ (q0 := 0) rfl rfl rfl rfl rfl (Nat.le_of_ble_eq_true rfl) dX5_leave_2 ?_
  refine s_istore_n E (lv' := [(0, .ref (q 0)), (1, .int u1)]) dX5_leave_5 rfl rfl rfl rfl (by decide) ?_
  refine s_aload_n E 0 rfl dX5_leave_6 rfl ?_
  refine s_iconst E (v := 1) dX5_leave_7 ki_1 ?_
  obtain ⟨u2, e2, h⟩ := bnd_some h
  refine s_callVi E kf_X5_whoAt m_l_X5_125 (c_X5_whoAt q σ 1 u2 e2) ⟨rfl, rfl, by decide, by decide⟩ (q0 := 0) rfl rfl rfl rfl rfl (Nat.le_of_ble_eq_true rfl) dX5_leave_8 ?_
  refine s_istore_n E (lv' := [(0, .ref (q 0)), (1, .int u1), (2, .int u2)]) dX5_leave_11 rfl rfl rfl rfl (by decide) ?_
  refine s_aload_n E 0 rfl dX5_leave_12 rfl ?_
  refine s_iconst E (v := 2) dX5_leave_13 ki_2 ?_
  obtain ⟨u3, e3, h⟩ := bnd_some h
  refine s_callVi E kf_X5_whoAt m_l_X5_125 (c_X5_whoAt q σ 2 u3 e3) ⟨rfl, rfl, by decide, by decide⟩ (q0 := 0) rfl rfl rfl rfl rfl (Nat.le_of_ble_eq_true rfl) dX5_leave_14 ?_
  refine s_istore_n E (lv' := [(0, .ref (q 0)), (1, .int u1), (2, .int u2), (3, .int u3)]) dX5_leave_17 rfl rfl rfl rfl (by decide) ?_
  refine s_aload_n E 0 rfl dX5_leave_18 rfl ?_
  obtain ⟨u4, e4, h⟩ := bnd_some h
  refine s_callVi E kf_X5_laid m_l_X5_131 (c_X5_laid q σ u4 e4) ⟨rfl, rfl, by decide, by decide⟩ (q0 := 0) rfl rfl rfl rfl rfl (Nat.le_of_ble_eq_true rfl) dX5_leave_19 ?_
  refine s_if_eq E 36 dX5_leave_22 (by decide) (fun c5 => ?_) (fun c5 => ?_)
  · have h := (if_pos c5).symm.trans h
    refine s_bipush E (v := (-3)) dX5_leave_36 kb_m3 ?_
    obtain rfl := Option.some.inj h
    exact s_iret E rfl rfl dX5_leave_38
  · have h := (if_neg c5).symm.trans h
    refine s_aload_n E 0 rfl dX5_leave_25 rfl ?_
    refine s_iload_n E 1 rfl dX5_leave_26 rfl ?_
    refine s_iload_n E 2 rfl dX5_leave_27 rfl ?_
    refine s_iload_n E 3 rfl dX5_leave_28 rfl ?_
    refine s_iconst E (v := 0) dX5_leave_29 ki_0 ?_
    obtain ⟨u6, e6, h⟩ := bnd_some h
    refine s_callVi E kf_X5_isLevel m_l_X5_150 (c_X5_isLevel q σ u1 u2 u3 0 u6 e6) ⟨rfl, rfl, by decide, by decide⟩ (q0 := 0) rfl rfl rfl rfl rfl (Nat.le_of_ble_eq_true rfl) dX5_leave_30 ?_
    refine s_if_ne E 39 dX5_leave_33 (by decide) (fun c7 => ?_) (fun c7 => ?_)
    · have h := (if_pos c7).symm.trans h
      refine s_bipush E (v := (-3)) dX5_leave_36 kb_m3 ?_
      obtain rfl := Option.some.inj h
      exact s_iret E rfl rfl dX5_leave_38
    · have h := (if_neg c7).symm.trans h
      refine s_aload_n E 0 rfl dX5_leave_39 rfl ?_
      refine s_geti E (y := (σ 0 14)) 0 14 in_X5 gM_0 rfl (by decide) m_f_X5_105 rfl rfl dX5_leave_40 ?_
      refine s_bipush E (v := 8) dX5_leave_43 kb_8 ?_
      refine s_icmp_ne E 51 dX5_leave_45 (by decide) (fun c8 => ?_) (fun c8 => ?_)
      · have h := (if_pos c8).symm.trans h
        refine s_bipush E (v := (-4)) dX5_leave_48 kb_m4 ?_
        obtain rfl := Option.some.inj h
        exact s_iret E rfl rfl dX5_leave_50
      · have h := (if_neg c8).symm.trans h
        refine s_aload_n E 0 rfl dX5_leave_51 rfl ?_
        refine s_get E (v := .ref (q 9)) 0 15 in_X5 gM_0 rfl (by decide) m_f_X5_34 rfl dX5_leave_52 ?_
        refine s_iconst E (v := 3) dX5_leave_55 ki_3 ?_
        refine s_aload_n E 0 rfl dX5_leave_56 rfl ?_
        refine s_geti E (y := (σ 0 14)) 0 14 in_X5 gM_0 rfl (by decide) m_f_X5_105 rfl rfl dX5_leave_57 ?_
        refine s_imul E dX5_leave_60 ?_
        refine s_iload_n E 1 rfl dX5_leave_61 rfl ?_
        obtain ⟨b9, h⟩ := chk_some h
        refine s_iast E (w' := (wM cI cZ q (up2 σ 9 ((3 * (σ 0 14)).toNatClampNeg) u1))) 9 gM_9 b9 aM_9 dX5_leave_62 ?_
        refine s_aload_n E 0 rfl dX5_leave_63 rfl ?_
        refine s_get E (v := .ref (q 9)) 0 15 in_X5 gM_0 rfl (by decide) m_f_X5_34 rfl dX5_leave_64 ?_
        refine s_iconst E (v := 3) dX5_leave_67 ki_3 ?_
        refine s_aload_n E 0 rfl dX5_leave_68 rfl ?_
        refine s_geti E (y := (σ 0 14)) 0 14 in_X5 gM_0 rfl (by decide) m_f_X5_105 rfl (up2_n rfl) dX5_leave_69 ?_
        refine s_imul E dX5_leave_72 ?_
        refine s_iconst E (v := 1) dX5_leave_73 ki_1 ?_
        refine s_iadd E dX5_leave_74 ?_
        refine s_iload_n E 2 rfl dX5_leave_75 rfl ?_
        obtain ⟨b10, h⟩ := chk_some h
        refine s_iast E (w' := (wM cI cZ q (up2 (up2 σ 9 ((3 * (σ 0 14)).toNatClampNeg) u1) 9 (((3 * (σ 0 14)) + 1).toNatClampNeg) u2))) 9 gM_9 b10 aM_9 dX5_leave_76 ?_
        refine s_aload_n E 0 rfl dX5_leave_77 rfl ?_
        refine s_get E (v := .ref (q 9)) 0 15 in_X5 gM_0 rfl (by decide) m_f_X5_34 rfl dX5_leave_78 ?_
        refine s_iconst E (v := 3) dX5_leave_81 ki_3 ?_
        refine s_aload_n E 0 rfl dX5_leave_82 rfl ?_
        refine s_geti E (y := (σ 0 14)) 0 14 in_X5 gM_0 rfl (by decide) m_f_X5_105 rfl ((up2_n rfl).trans (up2_n rfl)) dX5_leave_83 ?_
        refine s_imul E dX5_leave_86 ?_
        refine s_iconst E (v := 2) dX5_leave_87 ki_2 ?_
        refine s_iadd E dX5_leave_88 ?_
        refine s_iload_n E 3 rfl dX5_leave_89 rfl ?_
        obtain ⟨b11, h⟩ := chk_some h
        refine s_iast E (w' := (wM cI cZ q (up2 (up2 (up2 σ 9 ((3 * (σ 0 14)).toNatClampNeg) u1) 9 (((3 * (σ 0 14)) + 1).toNatClampNeg) u2) 9 (((3 * (σ 0 14)) + 2).toNatClampNeg) u3))) 9 gM_9 b11 aM_9 dX5_leave_90 ?_
        refine s_aload_n E 0 rfl dX5_leave_91 rfl ?_
        refine s_dup E dX5_leave_92 rfl ?_
        refine s_geti E (y := (σ 0 14)) 0 14 in_X5 gM_0 rfl (by decide) m_f_X5_105 rfl ((up2_n rfl).trans ((up2_n rfl).trans (up2_n rfl))) dX5_leave_93 ?_
        refine s_iconst E (v := 1) dX5_leave_96 ki_1 ?_
        refine s_iadd E dX5_leave_97 ?_
        refine s_put E (w' := (wM cI cZ q (up2 (up2 (up2 (up2 σ 9 ((3 * (σ 0 14)).toNatClampNeg) u1) 9 (((3 * (σ 0 14)) + 1).toNatClampNeg) u2) 9 (((3 * (σ 0 14)) + 2).toNatClampNeg) u3) 0 14 ((σ 0 14) + 1)))) (v := .int ((σ 0 14) + 1)) 0 14 tyX5 tyX5_ok nmX5 in_X5 gM_0 rfl (by decide) m_f_X5_105 rfl (tyX5_ok 14 (by decide)) rfl rfl (Nat.le_of_ble_eq_true rfl) fM_0_14 dX5_leave_98 ?_
        refine s_iconst E (v := 0) dX5_leave_101 ki_0 ?_
        refine s_istore E (lv' := [(0, .ref (q 0)), (1, .int u1), (2, .int u2), (3, .int u3), (4, .int 0)]) dX5_leave_102 rfl rfl rfl (by decide) ?_
        obtain ⟨u18, e18, h⟩ := bnd_some h
        refine w_X5_leave_L104 E q u1 u2 u3 fuel (up2 (up2 (up2 (up2 σ 9 ((3 * (σ 0 14)).toNatClampNeg) u1) 9 (((3 * (σ 0 14)) + 1).toNatClampNeg) u2) 9 (((3 * (σ 0 14)) + 2).toNatClampNeg) u3) 0 14 ((σ 0 14) + 1)) 0 u18 e18 ?_
        refine s_aload_n E 0 rfl dX5_leave_150 rfl ?_
        refine s_iload_n E 1 rfl dX5_leave_151 rfl ?_
        refine s_iload_n E 2 rfl dX5_leave_152 rfl ?_
        refine s_ior E dX5_leave_153 ?_
        refine s_iload_n E 3 rfl dX5_leave_154 rfl ?_
        refine s_ior E dX5_leave_155 ?_
        obtain ⟨u19, e19, h⟩ := bnd_some h
        refine s_callVi E kf_X5_fares m_l_X5_154 (c_X5_fares q u18 ((u1 ||| u2) ||| u3) u19 e19) ⟨rfl, rfl, by decide, by decide⟩ (q0 := 0) rfl rfl rfl rfl rfl (Nat.le_of_ble_eq_true rfl) dX5_leave_156 ?_
        obtain rfl := Option.some.inj h
        exact s_iret E rfl rfl dX5_leave_159
end
abbrev rm_X5_back : Room := { frames := 0, cells := 0, slots := 0, locals := 0 }
section
noncomputable def f_X5_back_L60 (x1 : Int32) : Nat → (Nat → Nat → Int32) → Int32 → Option (Nat → Nat → Int32)
  | 0, _, _ => none
  | n + 1, σ, y2 =>
    (if 3 ≤ y2 then (some σ) else (chk ((3 * (σ 0 14)) + y2) 24 (if ((shr (σ 9 (((3 * (σ 0 14)) + y2).toNatClampNeg)) x1) &&& 1) = 1 then (chk x1 8 (f_X5_back_L60 x1 n (up2 σ 7 (x1.toNatClampNeg) y2) (y2 + 1))) else (chk x1 8 (chk x1 8 (f_X5_back_L60 x1 n (up2 σ 7 (x1.toNatClampNeg) (σ 7 (x1.toNatClampNeg))) (y2 + 1)))))))
set_option maxRecDepth 100000 in
set_option maxHeartbeats 4000000 in
theorem w_X5_back_L60 (E : EV p s m args meth c dC dI cI cZ cX5_back 3 RX5 (some .int)) (q : Nat → Nat) (x1 : Int32) : ∀ (n : Nat) (σ : Nat → Nat → Int32) (y2 : Int32) (z : (Nat → Nat → Int32)), f_X5_back_L60 x1 n σ y2 = some z → GG p l e rm_X5_back s m args below meth c Q A dC dI 3 (wM cI cZ q z) 108 [(0, .ref (q 0)), (1, .int x1)] [] → GG p l e rm_X5_back s m args below meth c Q A dC dI 3 (wM cI cZ q σ) 60 [(0, .ref (q 0)), (1, .int x1), (2, .int y2)] [] := by
  intro n
  induction n with
  | zero =>
    intro σ y2 z h
    rw [f_X5_back_L60] at h
    cases h
  | succ n ih =>
    intro σ y2 z h hK
    rw [f_X5_back_L60] at h
    refine s_iload_n E 2 rfl dX5_back_60 rfl ?_
    refine s_iconst E (v := 3) dX5_back_61 ki_3 ?_
    refine s_icmp_ge E 108 dX5_back_62 (by decide) (fun c7 => ?_) (fun c7 => ?_)
    · have h := (if_pos c7).symm.trans h
      refine s_sub E (lv' := [(0, .ref (q 0)), (1, .int x1)]) [0, 1] rfl ?_
      obtain rfl := Option.some.inj h
      exact hK
    · have h := (if_neg c7).symm.trans h
      refine s_aload_n E 0 rfl dX5_back_65 rfl ?_
      refine s_get E (v := .ref (q 7)) 0 8 in_X5 gM_0 rfl (by decide) m_f_X5_28 rfl dX5_back_66 ?_
      refine s_iload_n E 1 rfl dX5_back_69 rfl ?_
      refine s_aload_n E 0 rfl dX5_back_70 rfl ?_
      refine s_get E (v := .ref (q 9)) 0 15 in_X5 gM_0 rfl (by decide) m_f_X5_34 rfl dX5_back_71 ?_
      refine s_iconst E (v := 3) dX5_back_74 ki_3 ?_
      refine s_aload_n E 0 rfl dX5_back_75 rfl ?_
      refine s_geti E (y := (σ 0 14)) 0 14 in_X5 gM_0 rfl (by decide) m_f_X5_105 rfl rfl dX5_back_76 ?_
      refine s_imul E dX5_back_79 ?_
      refine s_iload_n E 2 rfl dX5_back_80 rfl ?_
      refine s_iadd E dX5_back_81 ?_
      obtain ⟨b8, h⟩ := chk_some h
      refine s_iald E (v := (σ 9 (((3 * (σ 0 14)) + y2).toNatClampNeg))) 9 gM_9 b8 rfl dX5_back_82 ?_
      refine s_iload_n E 1 rfl dX5_back_83 rfl ?_
      refine s_ishr E dX5_back_84 ?_
      refine s_iconst E (v := 1) dX5_back_85 ki_1 ?_
      refine s_iand E dX5_back_86 ?_
      refine s_iconst E (v := 1) dX5_back_87 ki_1 ?_
      refine s_icmp_ne E 95 dX5_back_88 (by decide) (fun c9 => ?_) (fun c9 => ?_)
      · have h := (if_pos c9).symm.trans h
        refine s_iload_n E 2 rfl dX5_back_91 rfl ?_
        refine s_goto E 101 dX5_back_92 (by decide) ?_
        obtain ⟨b10, h⟩ := chk_some h
        refine s_iast E (w' := (wM cI cZ q (up2 σ 7 (x1.toNatClampNeg) y2))) 7 gM_7 b10 aM_7 dX5_back_101 ?_
        refine s_iinc E (v := (y2 + 1)) (lv' := [(0, .ref (q 0)), (1, .int x1), (2, .int (y2 + 1))]) 2 rfl dX5_back_102 ki_1 rfl rfl rfl rfl (by decide) ?_
        refine s_goto E 60 dX5_back_105 (by decide) ?_
        exact ih (up2 σ 7 (x1.toNatClampNeg) y2) (y2 + 1) z h hK
      · have h := (if_neg c9).symm.trans h
        refine s_aload_n E 0 rfl dX5_back_95 rfl ?_
        refine s_get E (v := .ref (q 7)) 0 8 in_X5 gM_0 rfl (by decide) m_f_X5_28 rfl dX5_back_96 ?_
        refine s_iload_n E 1 rfl dX5_back_99 rfl ?_
        obtain ⟨b11, h⟩ := chk_some h
        refine s_iald E (v := (σ 7 (x1.toNatClampNeg))) 7 gM_7 b11 rfl dX5_back_100 ?_
        obtain ⟨b12, h⟩ := chk_some h
        refine s_iast E (w' := (wM cI cZ q (up2 σ 7 (x1.toNatClampNeg) (σ 7 (x1.toNatClampNeg))))) 7 gM_7 b12 aM_7 dX5_back_101 ?_
        refine s_iinc E (v := (y2 + 1)) (lv' := [(0, .ref (q 0)), (1, .int x1), (2, .int (y2 + 1))]) 2 rfl dX5_back_102 ki_1 rfl rfl rfl rfl (by decide) ?_
        refine s_goto E 60 dX5_back_105 (by decide) ?_
        exact ih (up2 σ 7 (x1.toNatClampNeg) (σ 7 (x1.toNatClampNeg))) (y2 + 1) z h hK
noncomputable def f_X5_back_J57_22 (σ : Nat → Nat → Int32) (t1 : Int32) (s1 : Int32) (s2 : Int32) (rec : (Nat → Nat → Int32) → Int32 → Option (Nat → Nat → Int32)) : Option (Nat → Nat → Int32) :=
  (chk s1 8 ((f_X5_back_L60 t1 fuel (up2 σ 7 (s1.toNatClampNeg) s2) 0).bind fun u13 => (rec u13 (t1 + 1))))
set_option maxRecDepth 100000 in
set_option maxHeartbeats 4000000 in
theorem w_X5_back_J57_22 (E : EV p s m args meth c dC dI cI cZ cX5_back 3 RX5 (some .int)) (q : Nat → Nat) (σ : Nat → Nat → Int32) (t1 : Int32) (s1 : Int32) (s2 : Int32) (z : (Nat → Nat → Int32)) (rec : (Nat → Nat → Int32) → Int32 → Option (Nat → Nat → Int32)) (hrec : ∀ (σ : Nat → Nat → Int32) (y1 : Int32), rec σ y1 = some z → GG p l e rm_X5_back s m args below meth c Q A dC dI 3 (wM cI cZ q σ) 22 [(0, .ref (q 0)), (1, .int y1)] []) (hK : GG p l e rm_X5_back s m args below meth c Q A dC dI 3 (wM cI cZ q z) 114 [(0, .ref (q 0))] []) (h : f_X5_back_J57_22 σ t1 s1 s2 rec = some z) : GG p l e rm_X5_back s m args below meth c Q A dC dI 3 (wM cI cZ q σ) 57 [(0, .ref (q 0)), (1, .int t1)] [.int s2, .int s1, .ref (q 7)] := by
  unfold f_X5_back_J57_22 at h
  obtain ⟨b6, h⟩ := chk_some h
  refine s_iast E (w' := (wM cI cZ q (up2 σ 7 (s1.toNatClampNeg) s2))) 7 gM_7 b6 aM_7 dX5_back_57 ?_
  refine s_iconst E (v := 0) dX5_back_58 ki_0 ?_
  refine s_istore_n E (lv' := [(0, .ref (q 0)), (1, .int t1), (2, .int 0)]) dX5_back_59 rfl rfl rfl rfl (by decide) ?_
  obtain ⟨u13, e13, h⟩ := bnd_some h
  refine w_X5_back_L60 E q t1 fuel (up2 σ 7 (s1.toNatClampNeg) s2) 0 u13 e13 ?_
  refine s_iinc E (v := (t1 + 1)) (lv' := [(0, .ref (q 0)), (1, .int (t1 + 1))]) 1 rfl dX5_back_108 ki_1 rfl rfl rfl rfl (by decide) ?_
  refine s_goto E 22 dX5_back_111 (by decide) ?_
  exact hrec u13 (t1 + 1) h
noncomputable def f_X5_back_L22 : Nat → (Nat → Nat → Int32) → Int32 → Option (Nat → Nat → Int32)
  | 0, _, _ => none
  | n + 1, σ, y1 =>
    (if (σ 0 5) ≤ y1 then (some σ) else (chk y1 8 (if 10 ≤ (σ 7 (y1.toNatClampNeg)) then (chk y1 8 (f_X5_back_J57_22 σ y1 y1 (σ 7 (y1.toNatClampNeg)) (f_X5_back_L22 n))) else (f_X5_back_J57_22 σ y1 y1 10 (f_X5_back_L22 n)))))
set_option maxRecDepth 100000 in
set_option maxHeartbeats 4000000 in
theorem w_X5_back_L22 (E : EV p s m args meth c dC dI cI cZ cX5_back 3 RX5 (some .int)) (q : Nat → Nat) : ∀ (n : Nat) (σ : Nat → Nat → Int32) (y1 : Int32) (z : (Nat → Nat → Int32)), f_X5_back_L22 n σ y1 = some z → GG p l e rm_X5_back s m args below meth c Q A dC dI 3 (wM cI cZ q z) 114 [(0, .ref (q 0))] [] → GG p l e rm_X5_back s m args below meth c Q A dC dI 3 (wM cI cZ q σ) 22 [(0, .ref (q 0)), (1, .int y1)] [] := by
  intro n
  induction n with
  | zero =>
    intro σ y1 z h
    rw [f_X5_back_L22] at h
    cases h
  | succ n ih =>
    intro σ y1 z h hK
    rw [f_X5_back_L22] at h
    refine s_iload_n E 1 rfl dX5_back_22 rfl ?_
    refine s_aload_n E 0 rfl dX5_back_23 rfl ?_
    refine s_geti E (y := (σ 0 5)) 0 5 in_X5 gM_0 rfl (by decide) m_f_X5_99 rfl rfl dX5_back_24 ?_
    refine s_icmp_ge E 114 dX5_back_27 (by decide) (fun c2 => ?_) (fun c2 => ?_)
    · have h := (if_pos c2).symm.trans h
      refine s_sub E (lv' := [(0, .ref (q 0))]) [0] rfl ?_
      obtain rfl := Option.some.inj h
      exact hK
    · have h := (if_neg c2).symm.trans h
      refine s_aload_n E 0 rfl dX5_back_30 rfl ?_
      refine s_get E (v := .ref (q 7)) 0 8 in_X5 gM_0 rfl (by decide) m_f_X5_28 rfl dX5_back_31 ?_
      refine s_iload_n E 1 rfl dX5_back_34 rfl ?_
      refine s_aload_n E 0 rfl dX5_back_35 rfl ?_
      refine s_get E (v := .ref (q 7)) 0 8 in_X5 gM_0 rfl (by decide) m_f_X5_28 rfl dX5_back_36 ?_
      refine s_iload_n E 1 rfl dX5_back_39 rfl ?_
      obtain ⟨b3, h⟩ := chk_some h
      refine s_iald E (v := (σ 7 (y1.toNatClampNeg))) 7 gM_7 b3 rfl dX5_back_40 ?_
      refine s_bipush E (v := 10) dX5_back_41 kb_10 ?_
      refine s_icmp_ge E 51 dX5_back_43 (by decide) (fun c4 => ?_) (fun c4 => ?_)
      · have h := (if_pos c4).symm.trans h
        refine s_aload_n E 0 rfl dX5_back_51 rfl ?_
        refine s_get E (v := .ref (q 7)) 0 8 in_X5 gM_0 rfl (by decide) m_f_X5_28 rfl dX5_back_52 ?_
        refine s_iload_n E 1 rfl dX5_back_55 rfl ?_
        obtain ⟨b5, h⟩ := chk_some h
        refine s_iald E (v := (σ 7 (y1.toNatClampNeg))) 7 gM_7 b5 rfl dX5_back_56 ?_
        exact w_X5_back_J57_22 E q σ y1 y1 (σ 7 (y1.toNatClampNeg)) z _ (fun σ y1 h => ih σ y1 z h hK) hK h
      · have h := (if_neg c4).symm.trans h
        refine s_bipush E (v := 10) dX5_back_46 kb_10 ?_
        refine s_goto E 57 dX5_back_48 (by decide) ?_
        exact w_X5_back_J57_22 E q σ y1 y1 10 z _ (fun σ y1 h => ih σ y1 z h hK) hK h
noncomputable def f_X5_back (σ : Nat → Nat → Int32) : Option (Int32 × (Nat → Nat → Int32)) :=
  (if (σ 0 14) = 0 then (some ((-3), σ)) else ((f_X5_back_L22 fuel (up2 σ 0 14 ((σ 0 14) - 1)) 0).bind fun u14 => (some ((u14 0 14), u14))))
set_option maxRecDepth 100000 in
set_option maxHeartbeats 4000000 in
theorem c_X5_back (q : Nat → Nat) (σ : Nat → Nat → Int32) (z : (Int32 × (Nat → Nat → Int32))) (h : f_X5_back σ = some z) : CT l dC dI cI cZ A yX5_back cX5_back 3 (some .int) rm_X5_back [.ref (q 0)] (wM cI cZ q σ) (wM cI cZ q z.2) (some (.int z.1)) := by
  refine b_met (by decide) (Nat.le_of_ble_eq_true rfl) ?_
  intro p e s m below meth c E
  have E : EV p s m _ meth c dC dI cI cZ cX5_back 3 RX5 (some .int) := E
  show GG p l e rm_X5_back s m _ below meth c _ A dC dI 3 (wM cI cZ q σ) 0 [(0, .ref (q 0))] []
  unfold f_X5_back at h
  refine s_aload_n E 0 rfl dX5_back_0 rfl ?_
  refine s_geti E (y := (σ 0 14)) 0 14 in_X5 gM_0 rfl (by decide) m_f_X5_105 rfl rfl dX5_back_1 ?_
  refine s_if_ne E 10 dX5_back_4 (by decide) (fun c1 => ?_) (fun c1 => ?_)
  · have h := (if_pos c1).symm.trans h
    refine s_bipush E (v := (-3)) dX5_back_7 kb_m3 ?_
    obtain rfl := Option.some.inj h
    exact s_iret E rfl rfl dX5_back_9
  · have h := (if_neg c1).symm.trans h
    refine s_aload_n E 0 rfl dX5_back_10 rfl ?_
    refine s_dup E dX5_back_11 rfl ?_
    refine s_geti E (y := (σ 0 14)) 0 14 in_X5 gM_0 rfl (by decide) m_f_X5_105 rfl rfl dX5_back_12 ?_
    refine s_iconst E (v := 1) dX5_back_15 ki_1 ?_
    refine s_isub E dX5_back_16 ?_
    refine s_put E (w' := (wM cI cZ q (up2 σ 0 14 ((σ 0 14) - 1)))) (v := .int ((σ 0 14) - 1)) 0 14 tyX5 tyX5_ok nmX5 in_X5 gM_0 rfl (by decide) m_f_X5_105 rfl (tyX5_ok 14 (by decide)) rfl rfl (Nat.le_of_ble_eq_true rfl) fM_0_14 dX5_back_17 ?_
    refine s_iconst E (v := 0) dX5_back_20 ki_0 ?_
    refine s_istore_n E (lv' := [(0, .ref (q 0)), (1, .int 0)]) dX5_back_21 rfl rfl rfl rfl (by decide) ?_
    obtain ⟨u14, e14, h⟩ := bnd_some h
    refine w_X5_back_L22 E q fuel (up2 σ 0 14 ((σ 0 14) - 1)) 0 u14 e14 ?_
    refine s_aload_n E 0 rfl dX5_back_114 rfl ?_
    refine s_geti E (y := (u14 0 14)) 0 14 in_X5 gM_0 rfl (by decide) m_f_X5_105 rfl rfl dX5_back_115 ?_
    obtain rfl := Option.some.inj h
    exact s_iret E rfl rfl dX5_back_118
end
abbrev rm_X5_left : Room := { frames := 2, cells := 0, slots := 0, locals := 46 }
section
noncomputable def f_X5_left (σ : Nat → Nat → Int32) (x1 : Int32) (x2 : Int32) : Option Int32 :=
  (if (f_X5_in x1.toInt64 (0 : Int64) ((σ 0 14) - 1).toInt64) = 0 then (some (-1)) else ((f_X5_isEnd σ x2).bind fun u2 => (if u2 = 0 then (some (-1)) else (chk ((3 * x1) + x2) 24 (some (σ 9 (((3 * x1) + x2).toNatClampNeg)))))))
set_option maxRecDepth 100000 in
set_option maxHeartbeats 4000000 in
theorem c_X5_left (q : Nat → Nat) (σ : Nat → Nat → Int32) (x1 : Int32) (x2 : Int32) (z : Int32) (h : f_X5_left σ x1 x2 = some z) : CT l dC dI cI cZ A yX5_left cX5_left 3 (some .int) rm_X5_left [.ref (q 0), .int x1, .int x2] (wM cI cZ q σ) (wM cI cZ q σ) (some (.int z)) := by
  refine b_met (by decide) (Nat.le_of_ble_eq_true rfl) ?_
  intro p e s m below meth c E
  have E : EV p s m _ meth c dC dI cI cZ cX5_left 3 RX5 (some .int) := E
  show GG p l e rm_X5_left s m _ below meth c _ A dC dI 3 (wM cI cZ q σ) 0 [(0, .ref (q 0)), (1, .int x1), (2, .int x2)] []
  unfold f_X5_left at h
  refine s_iload_n E 1 rfl dX5_left_0 rfl ?_
  refine s_i2l E dX5_left_1 ?_
  refine s_lconst E (v := 0) dX5_left_2 (by decide) ?_
  refine s_aload_n E 0 rfl dX5_left_3 rfl ?_
  refine s_geti E (y := (σ 0 14)) 0 14 in_X5 gM_0 rfl (by decide) m_f_X5_105 rfl rfl dX5_left_4 ?_
  refine s_iconst E (v := 1) dX5_left_7 ki_1 ?_
  refine s_isub E dX5_left_8 ?_
  refine s_i2l E dX5_left_9 ?_
  refine s_callSi E kf_X5_in m_l_X5_70 (c_X5_in (wM cI cZ q σ) x1.toInt64 (0 : Int64) ((σ 0 14) - 1).toInt64) ⟨rfl, rfl, by decide, by decide⟩ rfl rfl (Nat.le_of_ble_eq_true rfl) dX5_left_10 ?_
  refine s_if_eq E 37 dX5_left_13 (by decide) (fun c1 => ?_) (fun c1 => ?_)
  · have h := (if_pos c1).symm.trans h
    refine s_iconst E (v := (-1)) dX5_left_37 ki_m1 ?_
    obtain rfl := Option.some.inj h
    exact s_iret E rfl rfl dX5_left_38
  · have h := (if_neg c1).symm.trans h
    refine s_aload_n E 0 rfl dX5_left_16 rfl ?_
    refine s_iload_n E 2 rfl dX5_left_17 rfl ?_
    obtain ⟨u2, e2, h⟩ := bnd_some h
    refine s_callVi E kf_X5_isEnd m_l_X5_118 (c_X5_isEnd q σ x2 u2 e2) ⟨rfl, rfl, by decide, by decide⟩ (q0 := 0) rfl rfl rfl rfl rfl (Nat.le_of_ble_eq_true rfl) dX5_left_18 ?_
    refine s_if_eq E 37 dX5_left_21 (by decide) (fun c3 => ?_) (fun c3 => ?_)
    · have h := (if_pos c3).symm.trans h
      refine s_iconst E (v := (-1)) dX5_left_37 ki_m1 ?_
      obtain rfl := Option.some.inj h
      exact s_iret E rfl rfl dX5_left_38
    · have h := (if_neg c3).symm.trans h
      refine s_aload_n E 0 rfl dX5_left_24 rfl ?_
      refine s_get E (v := .ref (q 9)) 0 15 in_X5 gM_0 rfl (by decide) m_f_X5_34 rfl dX5_left_25 ?_
      refine s_iconst E (v := 3) dX5_left_28 ki_3 ?_
      refine s_iload_n E 1 rfl dX5_left_29 rfl ?_
      refine s_imul E dX5_left_30 ?_
      refine s_iload_n E 2 rfl dX5_left_31 rfl ?_
      refine s_iadd E dX5_left_32 ?_
      obtain ⟨b4, h⟩ := chk_some h
      refine s_iald E (v := (σ 9 (((3 * x1) + x2).toNatClampNeg))) 9 gM_9 b4 rfl dX5_left_33 ?_
      refine s_goto E 38 dX5_left_34 (by decide) ?_
      obtain rfl := Option.some.inj h
      exact s_iret E rfl rfl dX5_left_38
end
abbrev rm_X5_waiting : Room := { frames := 1, cells := 0, slots := 0, locals := 23 }
section
noncomputable def f_X5_waiting (σ : Nat → Nat → Int32) : Option Int32 :=
  ((f_X5_whoAt σ 20).bind fun u1 => (some (((shl 1 (σ 0 5)) - 1) &&& (u1 ^^^ (-1)))))
set_option maxRecDepth 100000 in
set_option maxHeartbeats 4000000 in
theorem c_X5_waiting (q : Nat → Nat) (σ : Nat → Nat → Int32) (z : Int32) (h : f_X5_waiting σ = some z) : CT l dC dI cI cZ A yX5_waiting cX5_waiting 1 (some .int) rm_X5_waiting [.ref (q 0)] (wM cI cZ q σ) (wM cI cZ q σ) (some (.int z)) := by
  refine b_met (by decide) (Nat.le_of_ble_eq_true rfl) ?_
  intro p e s m below meth c E
  have E : EV p s m _ meth c dC dI cI cZ cX5_waiting 1 RX5 (some .int) := E
  show GG p l e rm_X5_waiting s m _ below meth c _ A dC dI 1 (wM cI cZ q σ) 0 [(0, .ref (q 0))] []
  unfold f_X5_waiting at h
  refine s_iconst E (v := 1) dX5_waiting_0 ki_1 ?_
  refine s_aload_n E 0 rfl dX5_waiting_1 rfl ?_
  refine s_geti E (y := (σ 0 5)) 0 5 in_X5 gM_0 rfl (by decide) m_f_X5_99 rfl rfl dX5_waiting_2 ?_
  refine s_ishl E dX5_waiting_5 ?_
  refine s_iconst E (v := 1) dX5_waiting_6 ki_1 ?_
  refine s_isub E dX5_waiting_7 ?_
  refine s_aload_n E 0 rfl dX5_waiting_8 rfl ?_
  refine s_bipush E (v := 20) dX5_waiting_9 kb_20 ?_
  obtain ⟨u1, e1, h⟩ := bnd_some h
  refine s_callVi E kf_X5_whoAt m_l_X5_125 (c_X5_whoAt q σ 20 u1 e1) ⟨rfl, rfl, by decide, by decide⟩ (q0 := 0) rfl rfl rfl rfl rfl (Nat.le_of_ble_eq_true rfl) dX5_waiting_11 ?_
  refine s_iconst E (v := (-1)) dX5_waiting_14 ki_m1 ?_
  refine s_ixor E dX5_waiting_15 ?_
  refine s_iand E dX5_waiting_16 ?_
  obtain rfl := Option.some.inj h
  exact s_iret E rfl rfl dX5_waiting_17
end
abbrev rm_X5_laySets : Room := { frames := 2, cells := 0, slots := 0, locals := 46 }
section
noncomputable def f_X5_laySets_L23 (x1 : Int32) (x2 : Int32) : Nat → (Nat → Nat → Int32) → Int32 → Option (Int32 × (Nat → Nat → Int32))
  | 0, _, _ => none
  | n + 1, σ, y3 =>
    (if (σ 0 5) ≤ y3 then (if x1 ≤ 0 then (some (0, σ)) else ((f_X5_ones (σ 10 0)).bind fun u3 => (if (σ 3 3) < u3 then (some (0, σ)) else ((f_X5_ones (σ 10 1)).bind fun u5 => (if (σ 3 3) < u5 then (some (0, σ)) else ((f_X5_ones (σ 10 2)).bind fun u7 => (if (σ 3 3) < u7 then (some (0, σ)) else (some (1, σ))))))))) else (if (((shr x1 (2 * (((σ 0 5) - 1) - y3))) &&& 3) - 1) < 0 then (f_X5_laySets_L23 x1 x2 n σ (y3 + 1)) else (if ((shr x2 y3) &&& 1) = 0 then (some (0, σ)) else ((f_X5_isEnd σ (((shr x1 (2 * (((σ 0 5) - 1) - y3))) &&& 3) - 1)).bind fun u11 => (if u11 = 0 then (some (0, σ)) else ((f_X5_willSit σ y3 (((shr x1 (2 * (((σ 0 5) - 1) - y3))) &&& 3) - 1)).bind fun u13 => (if u13 = 0 then (some (0, σ)) else (chk (((shr x1 (2 * (((σ 0 5) - 1) - y3))) &&& 3) - 1) 3 (chk (((shr x1 (2 * (((σ 0 5) - 1) - y3))) &&& 3) - 1) 3 (f_X5_laySets_L23 x1 x2 n (up2 σ 10 ((((shr x1 (2 * (((σ 0 5) - 1) - y3))) &&& 3) - 1).toNatClampNeg) ((σ 10 ((((shr x1 (2 * (((σ 0 5) - 1) - y3))) &&& 3) - 1).toNatClampNeg)) ||| (shl 1 y3))) (y3 + 1)))))))))))
set_option maxRecDepth 100000 in
set_option maxHeartbeats 4000000 in
theorem w_X5_laySets_L23 (E : EV p s m args meth c dC dI cI cZ cX5_laySets 5 RX5 (some .boolean)) (q : Nat → Nat) (x1 : Int32) (x2 : Int32) : ∀ (n : Nat) (σ : Nat → Nat → Int32) (y3 : Int32) (z : (Int32 × (Nat → Nat → Int32))), f_X5_laySets_L23 x1 x2 n σ y3 = some z → GG p l e rm_X5_laySets s m args below meth c (MQ below (CQ dC dI (some (.int z.1)) (wM cI cZ q z.2) A) args s 0 0 A) A dC dI 5 (wM cI cZ q σ) 23 [(0, .ref (q 0)), (1, .int x1), (2, .int x2), (3, .int y3)] [] := by
  intro n
  induction n with
  | zero =>
    intro σ y3 z h
    rw [f_X5_laySets_L23] at h
    cases h
  | succ n ih =>
    intro σ y3 z h
    rw [f_X5_laySets_L23] at h
    refine s_iload_n E 3 rfl dX5_laySets_23 rfl ?_
    refine s_aload_n E 0 rfl dX5_laySets_24 rfl ?_
    refine s_geti E (y := (σ 0 5)) 0 5 in_X5 gM_0 rfl (by decide) m_f_X5_99 rfl rfl dX5_laySets_25 ?_
    refine s_icmp_ge E 102 dX5_laySets_28 (by decide) (fun c1 => ?_) (fun c1 => ?_)
    · have h := (if_pos c1).symm.trans h
      refine s_iload_n E 1 rfl dX5_laySets_102 rfl ?_
      refine s_if_le E 164 dX5_laySets_103 (by decide) (fun c2 => ?_) (fun c2 => ?_)
      · have h := (if_pos c2).symm.trans h
        refine s_iconst E (v := 0) dX5_laySets_164 ki_0 ?_
        obtain rfl := Option.some.inj h
        exact s_zret E rfl rfl rfl dX5_laySets_165
      · have h := (if_neg c2).symm.trans h
        refine s_aload_n E 0 rfl dX5_laySets_106 rfl ?_
        refine s_get E (v := .ref (q 10)) 0 16 in_X5 gM_0 rfl (by decide) m_f_X5_37 rfl dX5_laySets_107 ?_
        refine s_iconst E (v := 0) dX5_laySets_110 ki_0 ?_
        refine s_iald E (i := 0) (v := (σ 10 0)) 10 gM_10 vin_0_3 rfl dX5_laySets_111 ?_
        obtain ⟨u3, e3, h⟩ := bnd_some h
        refine s_callSi E kf_X5_ones m_l_X5_128 (c_X5_ones (wM cI cZ q σ) (σ 10 0) u3 e3) ⟨rfl, rfl, by decide, by decide⟩ rfl rfl (Nat.le_of_ble_eq_true rfl) dX5_laySets_112 ?_
        refine s_aload_n E 0 rfl dX5_laySets_115 rfl ?_
        refine s_get E (v := .ref (q 3)) 0 3 in_X5 gM_0 rfl (by decide) m_f_X5_16 rfl dX5_laySets_116 ?_
        refine s_iconst E (v := 3) dX5_laySets_119 ki_3 ?_
        refine s_iald E (i := 3) (v := (σ 3 3)) 3 gM_3 vin_3_5 rfl dX5_laySets_120 ?_
        refine s_icmp_gt E 164 dX5_laySets_121 (by decide) (fun c4 => ?_) (fun c4 => ?_)
        · have h := (if_pos c4).symm.trans h
          refine s_iconst E (v := 0) dX5_laySets_164 ki_0 ?_
          obtain rfl := Option.some.inj h
          exact s_zret E rfl rfl rfl dX5_laySets_165
        · have h := (if_neg c4).symm.trans h
          refine s_aload_n E 0 rfl dX5_laySets_124 rfl ?_
          refine s_get E (v := .ref (q 10)) 0 16 in_X5 gM_0 rfl (by decide) m_f_X5_37 rfl dX5_laySets_125 ?_
          refine s_iconst E (v := 1) dX5_laySets_128 ki_1 ?_
          refine s_iald E (i := 1) (v := (σ 10 1)) 10 gM_10 vin_1_3 rfl dX5_laySets_129 ?_
          obtain ⟨u5, e5, h⟩ := bnd_some h
          refine s_callSi E kf_X5_ones m_l_X5_128 (c_X5_ones (wM cI cZ q σ) (σ 10 1) u5 e5) ⟨rfl, rfl, by decide, by decide⟩ rfl rfl (Nat.le_of_ble_eq_true rfl) dX5_laySets_130 ?_
          refine s_aload_n E 0 rfl dX5_laySets_133 rfl ?_
          refine s_get E (v := .ref (q 3)) 0 3 in_X5 gM_0 rfl (by decide) m_f_X5_16 rfl dX5_laySets_134 ?_
          refine s_iconst E (v := 3) dX5_laySets_137 ki_3 ?_
          refine s_iald E (i := 3) (v := (σ 3 3)) 3 gM_3 vin_3_5 rfl dX5_laySets_138 ?_
          refine s_icmp_gt E 164 dX5_laySets_139 (by decide) (fun c6 => ?_) (fun c6 => ?_)
          · have h := (if_pos c6).symm.trans h
            refine s_iconst E (v := 0) dX5_laySets_164 ki_0 ?_
            obtain rfl := Option.some.inj h
            exact s_zret E rfl rfl rfl dX5_laySets_165
          · have h := (if_neg c6).symm.trans h
            refine s_aload_n E 0 rfl dX5_laySets_142 rfl ?_
            refine s_get E (v := .ref (q 10)) 0 16 in_X5 gM_0 rfl (by decide) m_f_X5_37 rfl dX5_laySets_143 ?_
            refine s_iconst E (v := 2) dX5_laySets_146 ki_2 ?_
            refine s_iald E (i := 2) (v := (σ 10 2)) 10 gM_10 vin_2_3 rfl dX5_laySets_147 ?_
            obtain ⟨u7, e7, h⟩ := bnd_some h
            refine s_callSi E kf_X5_ones m_l_X5_128 (c_X5_ones (wM cI cZ q σ) (σ 10 2) u7 e7) ⟨rfl, rfl, by decide, by decide⟩ rfl rfl (Nat.le_of_ble_eq_true rfl) dX5_laySets_148 ?_
            refine s_aload_n E 0 rfl dX5_laySets_151 rfl ?_
            refine s_get E (v := .ref (q 3)) 0 3 in_X5 gM_0 rfl (by decide) m_f_X5_16 rfl dX5_laySets_152 ?_
            refine s_iconst E (v := 3) dX5_laySets_155 ki_3 ?_
            refine s_iald E (i := 3) (v := (σ 3 3)) 3 gM_3 vin_3_5 rfl dX5_laySets_156 ?_
            refine s_icmp_gt E 164 dX5_laySets_157 (by decide) (fun c8 => ?_) (fun c8 => ?_)
            · have h := (if_pos c8).symm.trans h
              refine s_iconst E (v := 0) dX5_laySets_164 ki_0 ?_
              obtain rfl := Option.some.inj h
              exact s_zret E rfl rfl rfl dX5_laySets_165
            · have h := (if_neg c8).symm.trans h
              refine s_iconst E (v := 1) dX5_laySets_160 ki_1 ?_
              refine s_goto E 165 dX5_laySets_161 (by decide) ?_
              obtain rfl := Option.some.inj h
              exact s_zret E rfl rfl rfl dX5_laySets_165
    · have h := (if_neg c1).symm.trans h
      refine s_iload_n E 1 rfl dX5_laySets_31 rfl ?_
      refine s_iconst E (v := 2) dX5_laySets_32 ki_2 ?_
      refine s_aload_n E 0 rfl dX5_laySets_33 rfl ?_
      refine s_geti E (y := (σ 0 5)) 0 5 in_X5 gM_0 rfl (by decide) m_f_X5_99 rfl rfl dX5_laySets_34 ?_
      refine s_iconst E (v := 1) dX5_laySets_37 ki_1 ?_
      refine s_isub E dX5_laySets_38 ?_
      refine s_iload_n E 3 rfl dX5_laySets_39 rfl ?_
      refine s_isub E dX5_laySets_40 ?_
      refine s_imul E dX5_laySets_41 ?_
      refine s_ishr E dX5_laySets_42 ?_
      refine s_iconst E (v := 3) dX5_laySets_43 ki_3 ?_
      refine s_iand E dX5_laySets_44 ?_
      refine s_iconst E (v := 1) dX5_laySets_45 ki_1 ?_
      refine s_isub E dX5_laySets_46 ?_
      refine s_istore E (lv' := [(0, .ref (q 0)), (1, .int x1), (2, .int x2), (3, .int y3), (4, .int (((shr x1 (2 * (((σ 0 5) - 1) - y3))) &&& 3) - 1))]) dX5_laySets_47 rfl rfl rfl (by decide) ?_
      refine s_iload E 4 rfl dX5_laySets_49 ?_
      refine s_if_lt E 96 dX5_laySets_51 (by decide) (fun c9 => ?_) (fun c9 => ?_)
      · have h := (if_pos c9).symm.trans h
        refine s_iinc E (v := (y3 + 1)) (lv' := [(0, .ref (q 0)), (1, .int x1), (2, .int x2), (3, .int (y3 + 1)), (4, .int (((shr x1 (2 * (((σ 0 5) - 1) - y3))) &&& 3) - 1))]) 3 rfl dX5_laySets_96 ki_1 rfl rfl rfl rfl (by decide) ?_
        refine s_goto E 23 dX5_laySets_99 (by decide) ?_
        refine s_sub E (lv' := [(0, .ref (q 0)), (1, .int x1), (2, .int x2), (3, .int (y3 + 1))]) [0, 1, 2, 3] rfl ?_
        exact ih σ (y3 + 1) z h
      · have h := (if_neg c9).symm.trans h
        refine s_iload_n E 2 rfl dX5_laySets_54 rfl ?_
        refine s_iload_n E 3 rfl dX5_laySets_55 rfl ?_
        refine s_ishr E dX5_laySets_56 ?_
        refine s_iconst E (v := 1) dX5_laySets_57 ki_1 ?_
        refine s_iand E dX5_laySets_58 ?_
        refine s_if_eq E 81 dX5_laySets_59 (by decide) (fun c10 => ?_) (fun c10 => ?_)
        · have h := (if_pos c10).symm.trans h
          refine s_iconst E (v := 0) dX5_laySets_81 ki_0 ?_
          obtain rfl := Option.some.inj h
          exact s_zret E rfl rfl rfl dX5_laySets_82
        · have h := (if_neg c10).symm.trans h
          refine s_aload_n E 0 rfl dX5_laySets_62 rfl ?_
          refine s_iload E 4 rfl dX5_laySets_63 ?_
          obtain ⟨u11, e11, h⟩ := bnd_some h
          refine s_callVi E kf_X5_isEnd m_l_X5_118 (c_X5_isEnd q σ (((shr x1 (2 * (((σ 0 5) - 1) - y3))) &&& 3) - 1) u11 e11) ⟨rfl, rfl, by decide, by decide⟩ (q0 := 0) rfl rfl rfl rfl rfl (Nat.le_of_ble_eq_true rfl) dX5_laySets_65 ?_
          refine s_if_eq E 81 dX5_laySets_68 (by decide) (fun c12 => ?_) (fun c12 => ?_)
          · have h := (if_pos c12).symm.trans h
            refine s_iconst E (v := 0) dX5_laySets_81 ki_0 ?_
            obtain rfl := Option.some.inj h
            exact s_zret E rfl rfl rfl dX5_laySets_82
          · have h := (if_neg c12).symm.trans h
            refine s_aload_n E 0 rfl dX5_laySets_71 rfl ?_
            refine s_iload_n E 3 rfl dX5_laySets_72 rfl ?_
            refine s_iload E 4 rfl dX5_laySets_73 ?_
            obtain ⟨u13, e13, h⟩ := bnd_some h
            refine s_callVi E kf_X5_willSit m_l_X5_121 (c_X5_willSit q σ y3 (((shr x1 (2 * (((σ 0 5) - 1) - y3))) &&& 3) - 1) u13 e13) ⟨rfl, rfl, by decide, by decide⟩ (q0 := 0) rfl rfl rfl rfl rfl (Nat.le_of_ble_eq_true rfl) dX5_laySets_75 ?_
            refine s_if_ne E 83 dX5_laySets_78 (by decide) (fun c14 => ?_) (fun c14 => ?_)
            · have h := (if_pos c14).symm.trans h
              refine s_iconst E (v := 0) dX5_laySets_81 ki_0 ?_
              obtain rfl := Option.some.inj h
              exact s_zret E rfl rfl rfl dX5_laySets_82
            · have h := (if_neg c14).symm.trans h
              refine s_aload_n E 0 rfl dX5_laySets_83 rfl ?_
              refine s_get E (v := .ref (q 10)) 0 16 in_X5 gM_0 rfl (by decide) m_f_X5_37 rfl dX5_laySets_84 ?_
              refine s_iload E 4 rfl dX5_laySets_87 ?_
              refine s_dup2 E dX5_laySets_89 rfl rfl ?_
              obtain ⟨b15, h⟩ := chk_some h
              refine s_iald E (v := (σ 10 ((((shr x1 (2 * (((σ 0 5) - 1) - y3))) &&& 3) - 1).toNatClampNeg))) 10 gM_10 b15 rfl dX5_laySets_90 ?_
              refine s_iconst E (v := 1) dX5_laySets_91 ki_1 ?_
              refine s_iload_n E 3 rfl dX5_laySets_92 rfl ?_
              refine s_ishl E dX5_laySets_93 ?_
              refine s_ior E dX5_laySets_94 ?_
              obtain ⟨b16, h⟩ := chk_some h
              refine s_iast E (w' := (wM cI cZ q (up2 σ 10 ((((shr x1 (2 * (((σ 0 5) - 1) - y3))) &&& 3) - 1).toNatClampNeg) ((σ 10 ((((shr x1 (2 * (((σ 0 5) - 1) - y3))) &&& 3) - 1).toNatClampNeg)) ||| (shl 1 y3))))) 10 gM_10 b16 aM_10 dX5_laySets_95 ?_
              refine s_iinc E (v := (y3 + 1)) (lv' := [(0, .ref (q 0)), (1, .int x1), (2, .int x2), (3, .int (y3 + 1)), (4, .int (((shr x1 (2 * (((σ 0 5) - 1) - y3))) &&& 3) - 1))]) 3 rfl dX5_laySets_96 ki_1 rfl rfl rfl rfl (by decide) ?_
              refine s_goto E 23 dX5_laySets_99 (by decide) ?_
              refine s_sub E (lv' := [(0, .ref (q 0)), (1, .int x1), (2, .int x2), (3, .int (y3 + 1))]) [0, 1, 2, 3] rfl ?_
              exact ih (up2 σ 10 ((((shr x1 (2 * (((σ 0 5) - 1) - y3))) &&& 3) - 1).toNatClampNeg) ((σ 10 ((((shr x1 (2 * (((σ 0 5) - 1) - y3))) &&& 3) - 1).toNatClampNeg)) ||| (shl 1 y3))) (y3 + 1) z h
noncomputable def f_X5_laySets (σ : Nat → Nat → Int32) (x1 : Int32) (x2 : Int32) : Option (Int32 × (Nat → Nat → Int32)) :=
  (f_X5_laySets_L23 x1 x2 fuel (up2 (up2 (up2 σ 10 0 0) 10 1 0) 10 2 0) 0)
set_option maxRecDepth 100000 in
set_option maxHeartbeats 4000000 in
theorem c_X5_laySets (q : Nat → Nat) (σ : Nat → Nat → Int32) (x1 : Int32) (x2 : Int32) (z : (Int32 × (Nat → Nat → Int32))) (h : f_X5_laySets σ x1 x2 = some z) : CT l dC dI cI cZ A yX5_laySets cX5_laySets 5 (some .boolean) rm_X5_laySets [.ref (q 0), .int x1, .int x2] (wM cI cZ q σ) (wM cI cZ q z.2) (some (.int z.1)) := by
  refine b_met (by decide) (Nat.le_of_ble_eq_true rfl) ?_
  intro p e s m below meth c E
  have E : EV p s m _ meth c dC dI cI cZ cX5_laySets 5 RX5 (some .boolean) := E
  show GG p l e rm_X5_laySets s m _ below meth c _ A dC dI 5 (wM cI cZ q σ) 0 [(0, .ref (q 0)), (1, .int x1), (2, .int x2)] []
  unfold f_X5_laySets at h
  refine s_aload_n E 0 rfl dX5_laySets_0 rfl ?_
  refine s_get E (v := .ref (q 10)) 0 16 in_X5 gM_0 rfl (by decide) m_f_X5_37 rfl dX5_laySets_1 ?_
  refine s_iconst E (v := 0) dX5_laySets_4 ki_0 ?_
  refine s_iconst E (v := 0) dX5_laySets_5 ki_0 ?_
  refine s_iast E (i := 0) (w' := (wM cI cZ q (up2 σ 10 0 0))) 10 gM_10 vin_0_3 aM_10 dX5_laySets_6 ?_
  refine s_aload_n E 0 rfl dX5_laySets_7 rfl ?_
  refine s_get E (v := .ref (q 10)) 0 16 in_X5 gM_0 rfl (by decide) m_f_X5_37 rfl dX5_laySets_8 ?_
  refine s_iconst E (v := 1) dX5_laySets_11 ki_1 ?_
  refine s_iconst E (v := 0) dX5_laySets_12 ki_0 ?_
  refine s_iast E (i := 1) (w' := (wM cI cZ q (up2 (up2 σ 10 0 0) 10 1 0))) 10 gM_10 vin_1_3 aM_10 dX5_laySets_13 ?_
  refine s_aload_n E 0 rfl dX5_laySets_14 rfl ?_
  refine s_get E (v := .ref (q 10)) 0 16 in_X5 gM_0 rfl (by decide) m_f_X5_37 rfl dX5_laySets_15 ?_
  refine s_iconst E (v := 2) dX5_laySets_18 ki_2 ?_
  refine s_iconst E (v := 0) dX5_laySets_19 ki_0 ?_
  refine s_iast E (i := 2) (w' := (wM cI cZ q (up2 (up2 (up2 σ 10 0 0) 10 1 0) 10 2 0))) 10 gM_10 vin_2_3 aM_10 dX5_laySets_20 ?_
  refine s_iconst E (v := 0) dX5_laySets_21 ki_0 ?_
  refine s_istore_n E (lv' := [(0, .ref (q 0)), (1, .int x1), (2, .int x2), (3, .int 0)]) dX5_laySets_22 rfl rfl rfl rfl (by decide) ?_
  exact w_X5_laySets_L23 E q x1 x2 fuel (up2 (up2 (up2 σ 10 0 0) 10 1 0) 10 2 0) 0 z h
end
abbrev rm_X5_lacks : Room := { frames := 2, cells := 0, slots := 0, locals := 50 }
section
noncomputable def f_X5_lacks_J107 (t6 : Int32) (s0 : Int32) : Option Int32 :=
  (if s0 ≤ 0 then (some 0) else (chz t6 (if (rem s0 t6) = 0 then (chz t6 (some (s0 / t6))) else (some 0))))
set_option maxRecDepth 100000 in
set_option maxHeartbeats 4000000 in
theorem w_X5_lacks_J107 (E : EV p s m args meth c dC dI cI cZ cX5_lacks 9 RX5 (some .int)) (q : Nat → Nat) (σ : Nat → Nat → Int32) (t6 : Int32) (s0 : Int32) (z : Int32) (h : f_X5_lacks_J107 t6 s0 = some z) : GG p l e rm_X5_lacks s m args below meth c (MQ below (CQ dC dI (some (.int z)) (wM cI cZ q σ) A) args s 0 0 A) A dC dI 9 (wM cI cZ q σ) 107 [(6, .int t6)] [.int s0] := by
  unfold f_X5_lacks_J107 at h
  refine s_istore E (lv' := [(6, .int t6), (7, .int s0)]) dX5_lacks_107 rfl rfl rfl (by decide) ?_
  refine s_iload E 1 rfl dX5_lacks_109 ?_
  refine s_if_le E 130 dX5_lacks_111 (by decide) (fun c7 => ?_) (fun c7 => ?_)
  · have h := (if_pos c7).symm.trans h
    refine s_iconst E (v := 0) dX5_lacks_130 ki_0 ?_
    obtain rfl := Option.some.inj h
    exact s_iret E rfl rfl dX5_lacks_131
  · have h := (if_neg c7).symm.trans h
    refine s_iload E 1 rfl dX5_lacks_114 ?_
    refine s_iload E 0 rfl dX5_lacks_116 ?_
    obtain ⟨b8, h⟩ := chz_some h
    refine s_irem E dX5_lacks_118 b8 ?_
    refine s_if_ne E 130 dX5_lacks_119 (by decide) (fun c9 => ?_) (fun c9 => ?_)
    · have h := (if_pos c9).symm.trans h
      refine s_iload E 1 rfl dX5_lacks_122 ?_
      refine s_iload E 0 rfl dX5_lacks_124 ?_
      obtain ⟨b10, h⟩ := chz_some h
      refine s_idiv E dX5_lacks_126 b10 ?_
      refine s_goto E 131 dX5_lacks_127 (by decide) ?_
      obtain rfl := Option.some.inj h
      exact s_iret E rfl rfl dX5_lacks_131
    · have h := (if_neg c9).symm.trans h
      refine s_iconst E (v := 0) dX5_lacks_130 ki_0 ?_
      obtain rfl := Option.some.inj h
      exact s_iret E rfl rfl dX5_lacks_131
noncomputable def f_X5_lacks_J178 (t6 : Int32) (t7 : Int32) (s0 : Int32) : Option Int32 :=
  (if t7 = s0 then (if t7 ≤ t6 then (some 0) else (some (t7 - t6))) else (some 0))
set_option maxRecDepth 100000 in
set_option maxHeartbeats 4000000 in
theorem w_X5_lacks_J178 (E : EV p s m args meth c dC dI cI cZ cX5_lacks 9 RX5 (some .int)) (q : Nat → Nat) (σ : Nat → Nat → Int32) (t6 : Int32) (t7 : Int32) (s0 : Int32) (z : Int32) (h : f_X5_lacks_J178 t6 t7 s0 = some z) : GG p l e rm_X5_lacks s m args below meth c (MQ below (CQ dC dI (some (.int z)) (wM cI cZ q σ) A) args s 0 0 A) A dC dI 9 (wM cI cZ q σ) 178 [(6, .int t6), (7, .int t7)] [.int s0] := by
  unfold f_X5_lacks_J178 at h
  refine s_istore E (lv' := [(6, .int t6), (7, .int t7), (8, .int s0)]) dX5_lacks_178 rfl rfl rfl (by decide) ?_
  refine s_iload E 1 rfl dX5_lacks_180 ?_
  refine s_iload E 2 rfl dX5_lacks_182 ?_
  refine s_icmp_ne E 202 dX5_lacks_184 (by decide) (fun c14 => ?_) (fun c14 => ?_)
  · have h := (if_pos c14).symm.trans h
    refine s_iload E 1 rfl dX5_lacks_187 ?_
    refine s_iload E 0 rfl dX5_lacks_189 ?_
    refine s_icmp_le E 202 dX5_lacks_191 (by decide) (fun c15 => ?_) (fun c15 => ?_)
    · have h := (if_pos c15).symm.trans h
      refine s_iconst E (v := 0) dX5_lacks_202 ki_0 ?_
      obtain rfl := Option.some.inj h
      exact s_iret E rfl rfl dX5_lacks_203
    · have h := (if_neg c15).symm.trans h
      refine s_iload E 1 rfl dX5_lacks_194 ?_
      refine s_iload E 0 rfl dX5_lacks_196 ?_
      refine s_isub E dX5_lacks_198 ?_
      refine s_goto E 203 dX5_lacks_199 (by decide) ?_
      obtain rfl := Option.some.inj h
      exact s_iret E rfl rfl dX5_lacks_203
  · have h := (if_neg c14).symm.trans h
    refine s_iconst E (v := 0) dX5_lacks_202 ki_0 ?_
    obtain rfl := Option.some.inj h
    exact s_iret E rfl rfl dX5_lacks_203
noncomputable def f_X5_lacks_J164 (t1 : Int32) (t4 : Int32) (t5 : Int32) (t6 : Int32) (s0 : Int32) : Option Int32 :=
  (if t1 = 2 then (f_X5_lacks_J178 t6 s0 t4) else (f_X5_lacks_J178 t6 s0 t5))
set_option maxRecDepth 100000 in
set_option maxHeartbeats 4000000 in
theorem w_X5_lacks_J164 (E : EV p s m args meth c dC dI cI cZ cX5_lacks 9 RX5 (some .int)) (q : Nat → Nat) (σ : Nat → Nat → Int32) (t1 : Int32) (t4 : Int32) (t5 : Int32) (t6 : Int32) (s0 : Int32) (z : Int32) (h : f_X5_lacks_J164 t1 t4 t5 t6 s0 = some z) : GG p l e rm_X5_lacks s m args below meth c (MQ below (CQ dC dI (some (.int z)) (wM cI cZ q σ) A) args s 0 0 A) A dC dI 9 (wM cI cZ q σ) 164 [(1, .int t1), (4, .int t4), (5, .int t5), (6, .int t6)] [.int s0] := by
  unfold f_X5_lacks_J164 at h
  refine s_istore E (lv' := [(1, .int t1), (4, .int t4), (5, .int t5), (6, .int t6), (7, .int s0)]) dX5_lacks_164 rfl rfl rfl (by decide) ?_
  refine s_iload_n E 0 rfl dX5_lacks_166 rfl ?_
  refine s_iconst E (v := 2) dX5_lacks_167 ki_2 ?_
  refine s_icmp_ne E 176 dX5_lacks_168 (by decide) (fun c13 => ?_) (fun c13 => ?_)
  · have h := (if_pos c13).symm.trans h
    refine s_iload E 1 rfl dX5_lacks_171 ?_
    refine s_goto E 178 dX5_lacks_173 (by decide) ?_
    refine s_sub E (lv' := [(6, .int t6), (7, .int s0)]) [3, 4] rfl ?_
    exact w_X5_lacks_J178 E q σ t6 s0 t4 z h
  · have h := (if_neg c13).symm.trans h
    refine s_iload E 2 rfl dX5_lacks_176 ?_
    refine s_sub E (lv' := [(6, .int t6), (7, .int s0)]) [3, 4] rfl ?_
    exact w_X5_lacks_J178 E q σ t6 s0 t5 z h
noncomputable def f_X5_lacks_J152 (t1 : Int32) (t3 : Int32) (t4 : Int32) (t5 : Int32) (s0 : Int32) : Option Int32 :=
  (if t1 = 0 then (f_X5_lacks_J164 t1 t4 t5 s0 t4) else (f_X5_lacks_J164 t1 t4 t5 s0 t3))
set_option maxRecDepth 100000 in
set_option maxHeartbeats 4000000 in
theorem w_X5_lacks_J152 (E : EV p s m args meth c dC dI cI cZ cX5_lacks 9 RX5 (some .int)) (q : Nat → Nat) (σ : Nat → Nat → Int32) (t1 : Int32) (t3 : Int32) (t4 : Int32) (t5 : Int32) (s0 : Int32) (z : Int32) (h : f_X5_lacks_J152 t1 t3 t4 t5 s0 = some z) : GG p l e rm_X5_lacks s m args below meth c (MQ below (CQ dC dI (some (.int z)) (wM cI cZ q σ) A) args s 0 0 A) A dC dI 9 (wM cI cZ q σ) 152 [(1, .int t1), (3, .int t3), (4, .int t4), (5, .int t5)] [.int s0] := by
  unfold f_X5_lacks_J152 at h
  refine s_istore E (lv' := [(1, .int t1), (3, .int t3), (4, .int t4), (5, .int t5), (6, .int s0)]) dX5_lacks_152 rfl rfl rfl (by decide) ?_
  refine s_iload_n E 0 rfl dX5_lacks_154 rfl ?_
  refine s_if_ne E 163 dX5_lacks_155 (by decide) (fun c12 => ?_) (fun c12 => ?_)
  · have h := (if_pos c12).symm.trans h
    refine s_iload E 2 rfl dX5_lacks_158 ?_
    refine s_goto E 164 dX5_lacks_160 (by decide) ?_
    refine s_sub E (lv' := [(1, .int t1), (4, .int t4), (5, .int t5), (6, .int s0)]) [0, 2, 3, 4] rfl ?_
    exact w_X5_lacks_J164 E q σ t1 t4 t5 s0 t4 z h
  · have h := (if_neg c12).symm.trans h
    refine s_iload_n E 1 rfl dX5_lacks_163 rfl ?_
    refine s_sub E (lv' := [(1, .int t1), (4, .int t4), (5, .int t5), (6, .int s0)]) [0, 2, 3, 4] rfl ?_
    exact w_X5_lacks_J164 E q σ t1 t4 t5 s0 t3 z h
noncomputable def f_X5_lacks (σ : Nat → Nat → Int32) (x1 : Int32) (x2 : Int32) : Option Int32 :=
  ((f_X5_heavy σ (σ 10 0) 0 x2 0).bind fun u1 => ((f_X5_heavy σ (σ 10 1) 1 x2 0).bind fun u2 => ((f_X5_heavy σ (σ 10 2) 2 x2 0).bind fun u3 => (if (σ 3 0) = 2 then (chk (1 + x1) 5 (if x1 = 0 then (f_X5_lacks_J107 (σ 3 ((1 + x1).toNatClampNeg)) (((σ 3 2) * u2) - ((σ 3 1) * u1))) else (f_X5_lacks_J107 (σ 3 ((1 + x1).toNatClampNeg)) (((σ 3 1) * u1) - ((σ 3 2) * u2))))) else (if x1 = 0 then (f_X5_lacks_J152 x1 u1 u2 u3 u1) else (if x1 = 1 then (f_X5_lacks_J152 x1 u1 u2 u3 u2) else (f_X5_lacks_J152 x1 u1 u2 u3 u3)))))))
set_option maxRecDepth 100000 in
set_option maxHeartbeats 4000000 in
theorem c_X5_lacks (q : Nat → Nat) (σ : Nat → Nat → Int32) (x1 : Int32) (x2 : Int32) (z : Int32) (h : f_X5_lacks σ x1 x2 = some z) : CT l dC dI cI cZ A yX5_lacks cX5_lacks 9 (some .int) rm_X5_lacks [.ref (q 0), .int x1, .int x2] (wM cI cZ q σ) (wM cI cZ q σ) (some (.int z)) := by
  refine b_met (by decide) (Nat.le_of_ble_eq_true rfl) ?_
  intro p e s m below meth c E
  have E : EV p s m _ meth c dC dI cI cZ cX5_lacks 9 RX5 (some .int) := E
  show GG p l e rm_X5_lacks s m _ below meth c _ A dC dI 9 (wM cI cZ q σ) 0 [(0, .ref (q 0)), (1, .int x1), (2, .int x2)] []
  unfold f_X5_lacks at h
  refine s_aload_n E 0 rfl dX5_lacks_0 rfl ?_
  refine s_aload_n E 0 rfl dX5_lacks_1 rfl ?_
  refine s_get E (v := .ref (q 10)) 0 16 in_X5 gM_0 rfl (by decide) m_f_X5_37 rfl dX5_lacks_2 ?_
  refine s_iconst E (v := 0) dX5_lacks_5 ki_0 ?_
  refine s_iald E (i := 0) (v := (σ 10 0)) 10 gM_10 vin_0_3 rfl dX5_lacks_6 ?_
  refine s_iconst E (v := 0) dX5_lacks_7 ki_0 ?_
  refine s_iload_n E 2 rfl dX5_lacks_8 rfl ?_
  refine s_iconst E (v := 0) dX5_lacks_9 ki_0 ?_
  obtain ⟨u1, e1, h⟩ := bnd_some h
  refine s_callVi E kf_X5_heavy m_l_X5_138 (c_X5_heavy q σ (σ 10 0) 0 x2 0 u1 e1) ⟨rfl, rfl, by decide, by decide⟩ (q0 := 0) rfl rfl rfl rfl rfl (Nat.le_of_ble_eq_true rfl) dX5_lacks_10 ?_
  refine s_istore_n E (lv' := [(0, .ref (q 0)), (1, .int x1), (2, .int x2), (3, .int u1)]) dX5_lacks_13 rfl rfl rfl rfl (by decide) ?_
  refine s_aload_n E 0 rfl dX5_lacks_14 rfl ?_
  refine s_aload_n E 0 rfl dX5_lacks_15 rfl ?_
  refine s_get E (v := .ref (q 10)) 0 16 in_X5 gM_0 rfl (by decide) m_f_X5_37 rfl dX5_lacks_16 ?_
  refine s_iconst E (v := 1) dX5_lacks_19 ki_1 ?_
  refine s_iald E (i := 1) (v := (σ 10 1)) 10 gM_10 vin_1_3 rfl dX5_lacks_20 ?_
  refine s_iconst E (v := 1) dX5_lacks_21 ki_1 ?_
  refine s_iload_n E 2 rfl dX5_lacks_22 rfl ?_
  refine s_iconst E (v := 0) dX5_lacks_23 ki_0 ?_
  obtain ⟨u2, e2, h⟩ := bnd_some h
  refine s_callVi E kf_X5_heavy m_l_X5_138 (c_X5_heavy q σ (σ 10 1) 1 x2 0 u2 e2) ⟨rfl, rfl, by decide, by decide⟩ (q0 := 0) rfl rfl rfl rfl rfl (Nat.le_of_ble_eq_true rfl) dX5_lacks_24 ?_
  refine s_istore E (lv' := [(0, .ref (q 0)), (1, .int x1), (2, .int x2), (3, .int u1), (4, .int u2)]) dX5_lacks_27 rfl rfl rfl (by decide) ?_
  refine s_aload_n E 0 rfl dX5_lacks_29 rfl ?_
  refine s_aload_n E 0 rfl dX5_lacks_30 rfl ?_
  refine s_get E (v := .ref (q 10)) 0 16 in_X5 gM_0 rfl (by decide) m_f_X5_37 rfl dX5_lacks_31 ?_
  refine s_iconst E (v := 2) dX5_lacks_34 ki_2 ?_
  refine s_iald E (i := 2) (v := (σ 10 2)) 10 gM_10 vin_2_3 rfl dX5_lacks_35 ?_
  refine s_iconst E (v := 2) dX5_lacks_36 ki_2 ?_
  refine s_iload_n E 2 rfl dX5_lacks_37 rfl ?_
  refine s_iconst E (v := 0) dX5_lacks_38 ki_0 ?_
  obtain ⟨u3, e3, h⟩ := bnd_some h
  refine s_callVi E kf_X5_heavy m_l_X5_138 (c_X5_heavy q σ (σ 10 2) 2 x2 0 u3 e3) ⟨rfl, rfl, by decide, by decide⟩ (q0 := 0) rfl rfl rfl rfl rfl (Nat.le_of_ble_eq_true rfl) dX5_lacks_39 ?_
  refine s_istore E (lv' := [(0, .ref (q 0)), (1, .int x1), (2, .int x2), (3, .int u1), (4, .int u2), (5, .int u3)]) dX5_lacks_42 rfl rfl rfl (by decide) ?_
  refine s_aload_n E 0 rfl dX5_lacks_44 rfl ?_
  refine s_get E (v := .ref (q 3)) 0 3 in_X5 gM_0 rfl (by decide) m_f_X5_16 rfl dX5_lacks_45 ?_
  refine s_iconst E (v := 0) dX5_lacks_48 ki_0 ?_
  refine s_iald E (i := 0) (v := (σ 3 0)) 3 gM_3 vin_0_5 rfl dX5_lacks_49 ?_
  refine s_iconst E (v := 2) dX5_lacks_50 ki_2 ?_
  refine s_icmp_ne E 132 dX5_lacks_51 (by decide) (fun c4 => ?_) (fun c4 => ?_)
  · have h := (if_pos c4).symm.trans h
    refine s_aload_n E 0 rfl dX5_lacks_54 rfl ?_
    refine s_get E (v := .ref (q 3)) 0 3 in_X5 gM_0 rfl (by decide) m_f_X5_16 rfl dX5_lacks_55 ?_
    refine s_iconst E (v := 1) dX5_lacks_58 ki_1 ?_
    refine s_iload_n E 1 rfl dX5_lacks_59 rfl ?_
    refine s_iadd E dX5_lacks_60 ?_
    obtain ⟨b5, h⟩ := chk_some h
    refine s_iald E (v := (σ 3 ((1 + x1).toNatClampNeg))) 3 gM_3 b5 rfl dX5_lacks_61 ?_
    refine s_istore E (lv' := [(0, .ref (q 0)), (1, .int x1), (2, .int x2), (3, .int u1), (4, .int u2), (5, .int u3), (6, .int (σ 3 ((1 + x1).toNatClampNeg)))]) dX5_lacks_62 rfl rfl rfl (by decide) ?_
    refine s_iload_n E 1 rfl dX5_lacks_64 rfl ?_
    refine s_if_ne E 89 dX5_lacks_65 (by decide) (fun c6 => ?_) (fun c6 => ?_)
    · have h := (if_pos c6).symm.trans h
      refine s_aload_n E 0 rfl dX5_lacks_68 rfl ?_
      refine s_get E (v := .ref (q 3)) 0 3 in_X5 gM_0 rfl (by decide) m_f_X5_16 rfl dX5_lacks_69 ?_
      refine s_iconst E (v := 2) dX5_lacks_72 ki_2 ?_
      refine s_iald E (i := 2) (v := (σ 3 2)) 3 gM_3 vin_2_5 rfl dX5_lacks_73 ?_
      refine s_iload E 4 rfl dX5_lacks_74 ?_
      refine s_imul E dX5_lacks_76 ?_
      refine s_aload_n E 0 rfl dX5_lacks_77 rfl ?_
      refine s_get E (v := .ref (q 3)) 0 3 in_X5 gM_0 rfl (by decide) m_f_X5_16 rfl dX5_lacks_78 ?_
      refine s_iconst E (v := 1) dX5_lacks_81 ki_1 ?_
      refine s_iald E (i := 1) (v := (σ 3 1)) 3 gM_3 vin_1_5 rfl dX5_lacks_82 ?_
      refine s_iload_n E 3 rfl dX5_lacks_83 rfl ?_
      refine s_imul E dX5_lacks_84 ?_
      refine s_isub E dX5_lacks_85 ?_
      refine s_goto E 107 dX5_lacks_86 (by decide) ?_
      refine s_sub E (lv' := [(6, .int (σ 3 ((1 + x1).toNatClampNeg)))]) [6] rfl ?_
      exact w_X5_lacks_J107 E q σ (σ 3 ((1 + x1).toNatClampNeg)) (((σ 3 2) * u2) - ((σ 3 1) * u1)) z h
    · have h := (if_neg c6).symm.trans h
      refine s_aload_n E 0 rfl dX5_lacks_89 rfl ?_
      refine s_get E (v := .ref (q 3)) 0 3 in_X5 gM_0 rfl (by decide) m_f_X5_16 rfl dX5_lacks_90 ?_
      refine s_iconst E (v := 1) dX5_lacks_93 ki_1 ?_
      refine s_iald E (i := 1) (v := (σ 3 1)) 3 gM_3 vin_1_5 rfl dX5_lacks_94 ?_
      refine s_iload_n E 3 rfl dX5_lacks_95 rfl ?_
      refine s_imul E dX5_lacks_96 ?_
      refine s_aload_n E 0 rfl dX5_lacks_97 rfl ?_
      refine s_get E (v := .ref (q 3)) 0 3 in_X5 gM_0 rfl (by decide) m_f_X5_16 rfl dX5_lacks_98 ?_
      refine s_iconst E (v := 2) dX5_lacks_101 ki_2 ?_
      refine s_iald E (i := 2) (v := (σ 3 2)) 3 gM_3 vin_2_5 rfl dX5_lacks_102 ?_
      refine s_iload E 4 rfl dX5_lacks_103 ?_
      refine s_imul E dX5_lacks_105 ?_
      refine s_isub E dX5_lacks_106 ?_
      refine s_sub E (lv' := [(6, .int (σ 3 ((1 + x1).toNatClampNeg)))]) [6] rfl ?_
      exact w_X5_lacks_J107 E q σ (σ 3 ((1 + x1).toNatClampNeg)) (((σ 3 1) * u1) - ((σ 3 2) * u2)) z h
  · have h := (if_neg c4).symm.trans h
    refine s_iload_n E 1 rfl dX5_lacks_132 rfl ?_
    refine s_if_ne E 140 dX5_lacks_133 (by decide) (fun c11 => ?_) (fun c11 => ?_)
    · have h := (if_pos c11).symm.trans h
      refine s_iload_n E 3 rfl dX5_lacks_136 rfl ?_
      refine s_goto E 152 dX5_lacks_137 (by decide) ?_
      refine s_sub E (lv' := [(1, .int x1), (3, .int u1), (4, .int u2), (5, .int u3)]) [1, 3, 4, 5] rfl ?_
      exact w_X5_lacks_J152 E q σ x1 u1 u2 u3 u1 z h
    · have h := (if_neg c11).symm.trans h
      refine s_iload_n E 1 rfl dX5_lacks_140 rfl ?_
      refine s_iconst E (v := 1) dX5_lacks_141 ki_1 ?_
      refine s_icmp_ne E 150 dX5_lacks_142 (by decide) (fun c16 => ?_) (fun c16 => ?_)
      · have h := (if_pos c16).symm.trans h
        refine s_iload E 4 rfl dX5_lacks_145 ?_
        refine s_goto E 152 dX5_lacks_147 (by decide) ?_
        refine s_sub E (lv' := [(1, .int x1), (3, .int u1), (4, .int u2), (5, .int u3)]) [1, 3, 4, 5] rfl ?_
        exact w_X5_lacks_J152 E q σ x1 u1 u2 u3 u2 z h
      · have h := (if_neg c16).symm.trans h
        refine s_iload E 5 rfl dX5_lacks_150 ?_
        refine s_sub E (lv' := [(1, .int x1), (3, .int u1), (4, .int u2), (5, .int u3)]) [1, 3, 4, 5] rfl ?_
        exact w_X5_lacks_J152 E q σ x1 u1 u2 u3 u3 z h
end
abbrev rm_X5_layMakes : Room := { frames := 3, cells := 0, slots := 0, locals := 78 }
section
noncomputable def f_X5_layMakes_J40_2 (σ : Nat → Nat → Int32) (x1 : Int32) (t2 : Int32) (s0 : Int32) (rec : (Nat → Nat → Int32) → Int32 → Option (Nat → Nat → Int32)) : Option (Nat → Nat → Int32) :=
  (if (f_X5_in s0.toInt64 (1 : Int64) (99 : Int64)) = 0 then (rec σ (t2 + 1)) else ((f_X5_lacks σ t2 (σ 0 9)).bind fun u6 => (if s0 = u6 then (chk s0 100 (if x1 ≤ (σ 12 (s0.toNatClampNeg)) then (chk s0 100 (chk s0 100 (rec (up2 σ 12 (s0.toNatClampNeg) (σ 12 (s0.toNatClampNeg))) (t2 + 1)))) else (chk s0 100 (rec (up2 σ 12 (s0.toNatClampNeg) x1) (t2 + 1))))) else (rec σ (t2 + 1)))))
set_option maxRecDepth 100000 in
set_option maxHeartbeats 4000000 in
theorem w_X5_layMakes_J40_2 (E : EV p s m args meth c dC dI cI cZ cX5_layMakes 4 RX5 none) (q : Nat → Nat) (σ : Nat → Nat → Int32) (x1 : Int32) (t2 : Int32) (s0 : Int32) (z : (Nat → Nat → Int32)) (rec : (Nat → Nat → Int32) → Int32 → Option (Nat → Nat → Int32)) (hrec : ∀ (σ : Nat → Nat → Int32) (y2 : Int32), rec σ y2 = some z → GG p l e rm_X5_layMakes s m args below meth c Q A dC dI 4 (wM cI cZ q σ) 2 [(0, .ref (q 0)), (1, .int x1), (2, .int y2)] []) (hK : GG p l e rm_X5_layMakes s m args below meth c Q A dC dI 4 (wM cI cZ q z) 98 [(0, .ref (q 0)), (1, .int x1)] []) (h : f_X5_layMakes_J40_2 σ x1 t2 s0 rec = some z) : GG p l e rm_X5_layMakes s m args below meth c Q A dC dI 4 (wM cI cZ q σ) 40 [(0, .ref (q 0)), (1, .int x1), (2, .int t2)] [.int s0] := by
  unfold f_X5_layMakes_J40_2 at h
  refine s_istore_n E (lv' := [(0, .ref (q 0)), (1, .int x1), (2, .int t2), (3, .int s0)]) dX5_layMakes_40 rfl rfl rfl rfl (by decide) ?_
  refine s_iload_n E 3 rfl dX5_layMakes_41 rfl ?_
  refine s_i2l E dX5_layMakes_42 ?_
  refine s_lconst E (v := 1) dX5_layMakes_43 (by decide) ?_
  refine s_ldc2 E (v := (99)) m_c_X5_181 dX5_layMakes_44 ?_
  refine s_callSi E kf_X5_in m_l_X5_70 (c_X5_in (wM cI cZ q σ) s0.toInt64 (1 : Int64) (99 : Int64)) ⟨rfl, rfl, by decide, by decide⟩ rfl rfl (Nat.le_of_ble_eq_true rfl) dX5_layMakes_47 ?_
  refine s_if_eq E 92 dX5_layMakes_50 (by decide) (fun c5 => ?_) (fun c5 => ?_)
  · have h := (if_pos c5).symm.trans h
    refine s_iinc E (v := (t2 + 1)) (lv' := [(0, .ref (q 0)), (1, .int x1), (2, .int (t2 + 1)), (3, .int s0)]) 2 rfl dX5_layMakes_92 ki_1 rfl rfl rfl rfl (by decide) ?_
    refine s_goto E 2 dX5_layMakes_95 (by decide) ?_
    refine s_sub E (lv' := [(0, .ref (q 0)), (1, .int x1), (2, .int (t2 + 1))]) [0, 1, 2] rfl ?_
    exact hrec σ (t2 + 1) h
  · have h := (if_neg c5).symm.trans h
    refine s_iload_n E 3 rfl dX5_layMakes_53 rfl ?_
    refine s_aload_n E 0 rfl dX5_layMakes_54 rfl ?_
    refine s_iload_n E 2 rfl dX5_layMakes_55 rfl ?_
    refine s_aload_n E 0 rfl dX5_layMakes_56 rfl ?_
    refine s_geti E (y := (σ 0 9)) 0 9 in_X5 gM_0 rfl (by decide) m_f_X5_102 rfl rfl dX5_layMakes_57 ?_
    obtain ⟨u6, e6, h⟩ := bnd_some h
    refine s_callVi E kf_X5_lacks m_l_X5_177 (c_X5_lacks q σ t2 (σ 0 9) u6 e6) ⟨rfl, rfl, by decide, by decide⟩ (q0 := 0) rfl rfl rfl rfl rfl (Nat.le_of_ble_eq_true rfl) dX5_layMakes_60 ?_
    refine s_icmp_ne E 92 dX5_layMakes_63 (by decide) (fun c7 => ?_) (fun c7 => ?_)
    · have h := (if_pos c7).symm.trans h
      refine s_aload_n E 0 rfl dX5_layMakes_66 rfl ?_
      refine s_get E (v := .ref (q 12)) 0 21 in_X5 gM_0 rfl (by decide) m_f_X5_44 rfl dX5_layMakes_67 ?_
      refine s_iload_n E 3 rfl dX5_layMakes_70 rfl ?_
      refine s_iload_n E 1 rfl dX5_layMakes_71 rfl ?_
      refine s_aload_n E 0 rfl dX5_layMakes_72 rfl ?_
      refine s_get E (v := .ref (q 12)) 0 21 in_X5 gM_0 rfl (by decide) m_f_X5_44 rfl dX5_layMakes_73 ?_
      refine s_iload_n E 3 rfl dX5_layMakes_76 rfl ?_
      obtain ⟨b8, h⟩ := chk_some h
      refine s_iald E (v := (σ 12 (s0.toNatClampNeg))) 12 gM_12 b8 rfl dX5_layMakes_77 ?_
      refine s_icmp_le E 85 dX5_layMakes_78 (by decide) (fun c9 => ?_) (fun c9 => ?_)
      · have h := (if_pos c9).symm.trans h
        refine s_aload_n E 0 rfl dX5_layMakes_85 rfl ?_
        refine s_get E (v := .ref (q 12)) 0 21 in_X5 gM_0 rfl (by decide) m_f_X5_44 rfl dX5_layMakes_86 ?_
        refine s_iload_n E 3 rfl dX5_layMakes_89 rfl ?_
        obtain ⟨b10, h⟩ := chk_some h
        refine s_iald E (v := (σ 12 (s0.toNatClampNeg))) 12 gM_12 b10 rfl dX5_layMakes_90 ?_
        obtain ⟨b11, h⟩ := chk_some h
        refine s_iast E (w' := (wM cI cZ q (up2 σ 12 (s0.toNatClampNeg) (σ 12 (s0.toNatClampNeg))))) 12 gM_12 b11 aM_12 dX5_layMakes_91 ?_
        refine s_iinc E (v := (t2 + 1)) (lv' := [(0, .ref (q 0)), (1, .int x1), (2, .int (t2 + 1)), (3, .int s0)]) 2 rfl dX5_layMakes_92 ki_1 rfl rfl rfl rfl (by decide) ?_
        refine s_goto E 2 dX5_layMakes_95 (by decide) ?_
        refine s_sub E (lv' := [(0, .ref (q 0)), (1, .int x1), (2, .int (t2 + 1))]) [0, 1, 2] rfl ?_
        exact hrec (up2 σ 12 (s0.toNatClampNeg) (σ 12 (s0.toNatClampNeg))) (t2 + 1) h
      · have h := (if_neg c9).symm.trans h
        refine s_iload_n E 1 rfl dX5_layMakes_81 rfl ?_
        refine s_goto E 91 dX5_layMakes_82 (by decide) ?_
        obtain ⟨b12, h⟩ := chk_some h
        refine s_iast E (w' := (wM cI cZ q (up2 σ 12 (s0.toNatClampNeg) x1))) 12 gM_12 b12 aM_12 dX5_layMakes_91 ?_
        refine s_iinc E (v := (t2 + 1)) (lv' := [(0, .ref (q 0)), (1, .int x1), (2, .int (t2 + 1)), (3, .int s0)]) 2 rfl dX5_layMakes_92 ki_1 rfl rfl rfl rfl (by decide) ?_
        refine s_goto E 2 dX5_layMakes_95 (by decide) ?_
        refine s_sub E (lv' := [(0, .ref (q 0)), (1, .int x1), (2, .int (t2 + 1))]) [0, 1, 2] rfl ?_
        exact hrec (up2 σ 12 (s0.toNatClampNeg) x1) (t2 + 1) h
    · have h := (if_neg c7).symm.trans h
      refine s_iinc E (v := (t2 + 1)) (lv' := [(0, .ref (q 0)), (1, .int x1), (2, .int (t2 + 1)), (3, .int s0)]) 2 rfl dX5_layMakes_92 ki_1 rfl rfl rfl rfl (by decide) ?_
      refine s_goto E 2 dX5_layMakes_95 (by decide) ?_
      refine s_sub E (lv' := [(0, .ref (q 0)), (1, .int x1), (2, .int (t2 + 1))]) [0, 1, 2] rfl ?_
      exact hrec σ (t2 + 1) h
noncomputable def f_X5_layMakes_L2 (x1 : Int32) : Nat → (Nat → Nat → Int32) → Int32 → Option (Nat → Nat → Int32)
  | 0, _, _ => none
  | n + 1, σ, y2 =>
    (if (σ 3 0) ≤ y2 then (some σ) else (chk y2 3 ((f_X5_ones (σ 10 (y2.toNatClampNeg))).bind fun u3 => (if (σ 3 3) ≤ u3 then (f_X5_layMakes_J40_2 σ x1 y2 0 (f_X5_layMakes_L2 x1 n)) else ((f_X5_lacks σ y2 0).bind fun u13 => (f_X5_layMakes_J40_2 σ x1 y2 u13 (f_X5_layMakes_L2 x1 n)))))))
set_option maxRecDepth 100000 in
set_option maxHeartbeats 4000000 in
theorem w_X5_layMakes_L2 (E : EV p s m args meth c dC dI cI cZ cX5_layMakes 4 RX5 none) (q : Nat → Nat) (x1 : Int32) : ∀ (n : Nat) (σ : Nat → Nat → Int32) (y2 : Int32) (z : (Nat → Nat → Int32)), f_X5_layMakes_L2 x1 n σ y2 = some z → GG p l e rm_X5_layMakes s m args below meth c Q A dC dI 4 (wM cI cZ q z) 98 [(0, .ref (q 0)), (1, .int x1)] [] → GG p l e rm_X5_layMakes s m args below meth c Q A dC dI 4 (wM cI cZ q σ) 2 [(0, .ref (q 0)), (1, .int x1), (2, .int y2)] [] := by
  intro n
  induction n with
  | zero =>
    intro σ y2 z h
    rw [f_X5_layMakes_L2] at h
    cases h
  | succ n ih =>
    intro σ y2 z h hK
    rw [f_X5_layMakes_L2] at h
    refine s_iload_n E 2 rfl dX5_layMakes_2 rfl ?_
    refine s_aload_n E 0 rfl dX5_layMakes_3 rfl ?_
    refine s_get E (v := .ref (q 3)) 0 3 in_X5 gM_0 rfl (by decide) m_f_X5_16 rfl dX5_layMakes_4 ?_
    refine s_iconst E (v := 0) dX5_layMakes_7 ki_0 ?_
    refine s_iald E (i := 0) (v := (σ 3 0)) 3 gM_3 vin_0_5 rfl dX5_layMakes_8 ?_
    refine s_icmp_ge E 98 dX5_layMakes_9 (by decide) (fun c1 => ?_) (fun c1 => ?_)
    · have h := (if_pos c1).symm.trans h
      refine s_sub E (lv' := [(0, .ref (q 0)), (1, .int x1)]) [0, 1] rfl ?_
      obtain rfl := Option.some.inj h
      exact hK
    · have h := (if_neg c1).symm.trans h
      refine s_aload_n E 0 rfl dX5_layMakes_12 rfl ?_
      refine s_get E (v := .ref (q 10)) 0 16 in_X5 gM_0 rfl (by decide) m_f_X5_37 rfl dX5_layMakes_13 ?_
      refine s_iload_n E 2 rfl dX5_layMakes_16 rfl ?_
      obtain ⟨b2, h⟩ := chk_some h
      refine s_iald E (v := (σ 10 (y2.toNatClampNeg))) 10 gM_10 b2 rfl dX5_layMakes_17 ?_
      obtain ⟨u3, e3, h⟩ := bnd_some h
      refine s_callSi E kf_X5_ones m_l_X5_128 (c_X5_ones (wM cI cZ q σ) (σ 10 (y2.toNatClampNeg)) u3 e3) ⟨rfl, rfl, by decide, by decide⟩ rfl rfl (Nat.le_of_ble_eq_true rfl) dX5_layMakes_18 ?_
      refine s_aload_n E 0 rfl dX5_layMakes_21 rfl ?_
      refine s_get E (v := .ref (q 3)) 0 3 in_X5 gM_0 rfl (by decide) m_f_X5_16 rfl dX5_layMakes_22 ?_
      refine s_iconst E (v := 3) dX5_layMakes_25 ki_3 ?_
      refine s_iald E (i := 3) (v := (σ 3 3)) 3 gM_3 vin_3_5 rfl dX5_layMakes_26 ?_
      refine s_icmp_ge E 39 dX5_layMakes_27 (by decide) (fun c4 => ?_) (fun c4 => ?_)
      · have h := (if_pos c4).symm.trans h
        refine s_iconst E (v := 0) dX5_layMakes_39 ki_0 ?_
        exact w_X5_layMakes_J40_2 E q σ x1 y2 0 z _ (fun σ y2 h => ih σ y2 z h hK) hK h
      · have h := (if_neg c4).symm.trans h
        refine s_aload_n E 0 rfl dX5_layMakes_30 rfl ?_
        refine s_iload_n E 2 rfl dX5_layMakes_31 rfl ?_
        refine s_iconst E (v := 0) dX5_layMakes_32 ki_0 ?_
        obtain ⟨u13, e13, h⟩ := bnd_some h
        refine s_callVi E kf_X5_lacks m_l_X5_177 (c_X5_lacks q σ y2 0 u13 e13) ⟨rfl, rfl, by decide, by decide⟩ (q0 := 0) rfl rfl rfl rfl rfl (Nat.le_of_ble_eq_true rfl) dX5_layMakes_33 ?_
        refine s_goto E 40 dX5_layMakes_36 (by decide) ?_
        exact w_X5_layMakes_J40_2 E q σ x1 y2 u13 z _ (fun σ y2 h => ih σ y2 z h hK) hK h
noncomputable def f_X5_layMakes (σ : Nat → Nat → Int32) (x1 : Int32) : Option (Nat → Nat → Int32) :=
  ((f_X5_layMakes_L2 x1 fuel σ 0).bind fun u14 => (some u14))
set_option maxRecDepth 100000 in
set_option maxHeartbeats 4000000 in
theorem c_X5_layMakes (q : Nat → Nat) (σ : Nat → Nat → Int32) (x1 : Int32) (z : (Nat → Nat → Int32)) (h : f_X5_layMakes σ x1 = some z) : CT l dC dI cI cZ A yX5_layMakes cX5_layMakes 4 none rm_X5_layMakes [.ref (q 0), .int x1] (wM cI cZ q σ) (wM cI cZ q z) none := by
  refine b_met (by decide) (Nat.le_of_ble_eq_true rfl) ?_
  intro p e s m below meth c E
  have E : EV p s m _ meth c dC dI cI cZ cX5_layMakes 4 RX5 none := E
  show GG p l e rm_X5_layMakes s m _ below meth c _ A dC dI 4 (wM cI cZ q σ) 0 [(0, .ref (q 0)), (1, .int x1)] []
  unfold f_X5_layMakes at h
  refine s_iconst E (v := 0) dX5_layMakes_0 ki_0 ?_
  refine s_istore_n E (lv' := [(0, .ref (q 0)), (1, .int x1), (2, .int 0)]) dX5_layMakes_1 rfl rfl rfl rfl (by decide) ?_
  obtain ⟨u14, e14, h⟩ := bnd_some h
  refine w_X5_layMakes_L2 E q x1 fuel σ 0 u14 e14 ?_
  obtain rfl := Option.some.inj h
  exact s_vret E rfl dX5_layMakes_98
end
abbrev rm_X5_better : Room := { frames := 1, cells := 0, slots := 0, locals := 23 }
section
noncomputable def f_X5_better_J37 (σ : Nat → Nat → Int32) (t2 : Int32) (t3 : Int32) (t4 : Int32) : Option (Nat → Nat → Int32) :=
  (some (up2 (up2 (up2 σ 0 17 t3) 0 18 t4) 0 19 t2))
set_option maxRecDepth 100000 in
set_option maxHeartbeats 4000000 in
theorem w_X5_better_J37 (E : EV p s m args meth c dC dI cI cZ cX5_better 5 RX5 none) (q : Nat → Nat) (σ : Nat → Nat → Int32) (t2 : Int32) (t3 : Int32) (t4 : Int32) (z : (Nat → Nat → Int32)) (h : f_X5_better_J37 σ t2 t3 t4 = some z) : GG p l e rm_X5_better s m args below meth c (MQ below (CQ dC dI none (wM cI cZ q z) A) args s 0 0 A) A dC dI 5 (wM cI cZ q σ) 37 [(0, .ref (q 0)), (2, .int t2), (3, .int t3), (4, .int t4)] [] := by
  unfold f_X5_better_J37 at h
  refine s_aload_n E 0 rfl dX5_better_37 rfl ?_
  refine s_iload_n E 2 rfl dX5_better_38 rfl ?_
  refine s_put E (w' := (wM cI cZ q (up2 σ 0 17 t3))) (v := .int t3) 0 17 tyX5 tyX5_ok nmX5 in_X5 gM_0 rfl (by decide) m_f_X5_157 rfl (tyX5_ok 17 (by decide)) rfl rfl (Nat.le_of_ble_eq_true rfl) fM_0_17 dX5_better_39 ?_
  refine s_aload_n E 0 rfl dX5_better_42 rfl ?_
  refine s_iload E 3 rfl dX5_better_43 ?_
  refine s_put E (w' := (wM cI cZ q (up2 (up2 σ 0 17 t3) 0 18 t4))) (v := .int t4) 0 18 tyX5 tyX5_ok nmX5 in_X5 gM_0 rfl (by decide) m_f_X5_160 rfl (tyX5_ok 18 (by decide)) rfl rfl (Nat.le_of_ble_eq_true rfl) fM_0_18 dX5_better_45 ?_
  refine s_aload_n E 0 rfl dX5_better_48 rfl ?_
  refine s_iload_n E 1 rfl dX5_better_49 rfl ?_
  refine s_put E (w' := (wM cI cZ q (up2 (up2 (up2 σ 0 17 t3) 0 18 t4) 0 19 t2))) (v := .int t2) 0 19 tyX5 tyX5_ok nmX5 in_X5 gM_0 rfl (by decide) m_f_X5_163 rfl (tyX5_ok 19 (by decide)) rfl rfl (Nat.le_of_ble_eq_true rfl) fM_0_19 dX5_better_50 ?_
  obtain rfl := Option.some.inj h
  exact s_vret E rfl dX5_better_53
noncomputable def f_X5_better (σ : Nat → Nat → Int32) (x1 : Int32) (x2 : Int32) : Option (Nat → Nat → Int32) :=
  ((f_X5_fares σ x1).bind fun u1 => ((f_X5_ones x1).bind fun u2 => (if (σ 0 17) < u1 then (f_X5_better_J37 σ x2 u1 u2) else (if u1 = (σ 0 17) then (if u2 ≤ (σ 0 18) then (some σ) else (f_X5_better_J37 σ x2 u1 u2)) else (some σ)))))
set_option maxRecDepth 100000 in
set_option maxHeartbeats 4000000 in
theorem c_X5_better (q : Nat → Nat) (σ : Nat → Nat → Int32) (x1 : Int32) (x2 : Int32) (z : (Nat → Nat → Int32)) (h : f_X5_better σ x1 x2 = some z) : CT l dC dI cI cZ A yX5_better cX5_better 5 none rm_X5_better [.ref (q 0), .int x1, .int x2] (wM cI cZ q σ) (wM cI cZ q z) none := by
  refine b_met (by decide) (Nat.le_of_ble_eq_true rfl) ?_
  intro p e s m below meth c E
  have E : EV p s m _ meth c dC dI cI cZ cX5_better 5 RX5 none := E
  show GG p l e rm_X5_better s m _ below meth c _ A dC dI 5 (wM cI cZ q σ) 0 [(0, .ref (q 0)), (1, .int x1), (2, .int x2)] []
  unfold f_X5_better at h
  refine s_aload_n E 0 rfl dX5_better_0 rfl ?_
  refine s_iload_n E 1 rfl dX5_better_1 rfl ?_
  obtain ⟨u1, e1, h⟩ := bnd_some h
  refine s_callVi E kf_X5_fares m_l_X5_154 (c_X5_fares q σ x1 u1 e1) ⟨rfl, rfl, by decide, by decide⟩ (q0 := 0) rfl rfl rfl rfl rfl (Nat.le_of_ble_eq_true rfl) dX5_better_2 ?_
  refine s_istore_n E (lv' := [(0, .ref (q 0)), (1, .int x1), (2, .int x2), (3, .int u1)]) dX5_better_5 rfl rfl rfl rfl (by decide) ?_
  refine s_iload_n E 1 rfl dX5_better_6 rfl ?_
  obtain ⟨u2, e2, h⟩ := bnd_some h
  refine s_callSi E kf_X5_ones m_l_X5_128 (c_X5_ones (wM cI cZ q σ) x1 u2 e2) ⟨rfl, rfl, by decide, by decide⟩ rfl rfl (Nat.le_of_ble_eq_true rfl) dX5_better_7 ?_
  refine s_istore E (lv' := [(0, .ref (q 0)), (1, .int x1), (2, .int x2), (3, .int u1), (4, .int u2)]) dX5_better_10 rfl rfl rfl (by decide) ?_
  refine s_iload_n E 3 rfl dX5_better_12 rfl ?_
  refine s_aload_n E 0 rfl dX5_better_13 rfl ?_
  refine s_geti E (y := (σ 0 17)) 0 17 in_X5 gM_0 rfl (by decide) m_f_X5_157 rfl rfl dX5_better_14 ?_
  refine s_icmp_gt E 37 dX5_better_17 (by decide) (fun c3 => ?_) (fun c3 => ?_)
  · have h := (if_pos c3).symm.trans h
    refine s_sub E (lv' := [(0, .ref (q 0)), (2, .int x2), (3, .int u1), (4, .int u2)]) [0, 2, 3, 4] rfl ?_
    exact w_X5_better_J37 E q σ x2 u1 u2 z h
  · have h := (if_neg c3).symm.trans h
    refine s_iload_n E 3 rfl dX5_better_20 rfl ?_
    refine s_aload_n E 0 rfl dX5_better_21 rfl ?_
    refine s_geti E (y := (σ 0 17)) 0 17 in_X5 gM_0 rfl (by decide) m_f_X5_157 rfl rfl dX5_better_22 ?_
    refine s_icmp_ne E 53 dX5_better_25 (by decide) (fun c4 => ?_) (fun c4 => ?_)
    · have h := (if_pos c4).symm.trans h
      refine s_iload E 4 rfl dX5_better_28 ?_
      refine s_aload_n E 0 rfl dX5_better_30 rfl ?_
      refine s_geti E (y := (σ 0 18)) 0 18 in_X5 gM_0 rfl (by decide) m_f_X5_160 rfl rfl dX5_better_31 ?_
      refine s_icmp_le E 53 dX5_better_34 (by decide) (fun c5 => ?_) (fun c5 => ?_)
      · have h := (if_pos c5).symm.trans h
        obtain rfl := Option.some.inj h
        exact s_vret E rfl dX5_better_53
      · have h := (if_neg c5).symm.trans h
        refine s_sub E (lv' := [(0, .ref (q 0)), (2, .int x2), (3, .int u1), (4, .int u2)]) [0, 2, 3, 4] rfl ?_
        exact w_X5_better_J37 E q σ x2 u1 u2 z h
    · have h := (if_neg c4).symm.trans h
      obtain rfl := Option.some.inj h
      exact s_vret E rfl dX5_better_53
end
abbrev rm_X5_layChoices : Room := { frames := 4, cells := 0, slots := 0, locals := 101 }
section
noncomputable def f_X5_layChoices_L18 : Nat → (Nat → Nat → Int32) → Int32 → Option (Nat → Nat → Int32)
  | 0, _, _ => none
  | n + 1, σ, y2 =>
    (if 256 ≤ y2 then (some σ) else (chk y2 256 (f_X5_layChoices_L18 n (up2 σ 11 (y2.toNatClampNeg) 0) (y2 + 1))))
set_option maxRecDepth 100000 in
set_option maxHeartbeats 4000000 in
theorem w_X5_layChoices_L18 (E : EV p s m args meth c dC dI cI cZ cX5_layChoices 4 RX5 none) (q : Nat → Nat) (x1 : Int32) : ∀ (n : Nat) (σ : Nat → Nat → Int32) (y2 : Int32) (z : (Nat → Nat → Int32)), f_X5_layChoices_L18 n σ y2 = some z → GG p l e rm_X5_layChoices s m args below meth c Q A dC dI 4 (wM cI cZ q z) 38 [(0, .ref (q 0)), (1, .int x1)] [] → GG p l e rm_X5_layChoices s m args below meth c Q A dC dI 4 (wM cI cZ q σ) 18 [(0, .ref (q 0)), (1, .int x1), (2, .int y2)] [] := by
  intro n
  induction n with
  | zero =>
    intro σ y2 z h
    rw [f_X5_layChoices_L18] at h
    cases h
  | succ n ih =>
    intro σ y2 z h hK
    rw [f_X5_layChoices_L18] at h
    refine s_iload_n E 2 rfl dX5_layChoices_18 rfl ?_
    refine s_sipush E (v := 256) dX5_layChoices_19 ks_256 ?_
    refine s_icmp_ge E 38 dX5_layChoices_22 (by decide) (fun c1 => ?_) (fun c1 => ?_)
    · have h := (if_pos c1).symm.trans h
      refine s_sub E (lv' := [(0, .ref (q 0)), (1, .int x1)]) [0, 1] rfl ?_
      obtain rfl := Option.some.inj h
      exact hK
    · have h := (if_neg c1).symm.trans h
      refine s_aload_n E 0 rfl dX5_layChoices_25 rfl ?_
      refine s_get E (v := .ref (q 11)) 0 20 in_X5 gM_0 rfl (by decide) m_f_X5_40 rfl dX5_layChoices_26 ?_
      refine s_iload_n E 2 rfl dX5_layChoices_29 rfl ?_
      refine s_iconst E (v := 0) dX5_layChoices_30 ki_0 ?_
      obtain ⟨b2, h⟩ := chk_some h
      refine s_zast E (w' := (wM cI cZ q (up2 σ 11 (y2.toNatClampNeg) 0))) 11 gM_11 b2 aM_11_0 dX5_layChoices_31 ?_
      refine s_iinc E (v := (y2 + 1)) (lv' := [(0, .ref (q 0)), (1, .int x1), (2, .int (y2 + 1))]) 2 rfl dX5_layChoices_32 ki_1 rfl rfl rfl rfl (by decide) ?_
      refine s_goto E 18 dX5_layChoices_35 (by decide) ?_
      exact ih (up2 σ 11 (y2.toNatClampNeg) 0) (y2 + 1) z h hK
noncomputable def f_X5_layChoices_L40 : Nat → (Nat → Nat → Int32) → Int32 → Option (Nat → Nat → Int32)
  | 0, _, _ => none
  | n + 1, σ, y2 =>
    (if 100 ≤ y2 then (some σ) else (chk y2 100 (f_X5_layChoices_L40 n (up2 σ 12 (y2.toNatClampNeg) 0) (y2 + 1))))
set_option maxRecDepth 100000 in
set_option maxHeartbeats 4000000 in
theorem w_X5_layChoices_L40 (E : EV p s m args meth c dC dI cI cZ cX5_layChoices 4 RX5 none) (q : Nat → Nat) (x1 : Int32) : ∀ (n : Nat) (σ : Nat → Nat → Int32) (y2 : Int32) (z : (Nat → Nat → Int32)), f_X5_layChoices_L40 n σ y2 = some z → GG p l e rm_X5_layChoices s m args below meth c Q A dC dI 4 (wM cI cZ q z) 59 [(0, .ref (q 0)), (1, .int x1)] [] → GG p l e rm_X5_layChoices s m args below meth c Q A dC dI 4 (wM cI cZ q σ) 40 [(0, .ref (q 0)), (1, .int x1), (2, .int y2)] [] := by
  intro n
  induction n with
  | zero =>
    intro σ y2 z h
    rw [f_X5_layChoices_L40] at h
    cases h
  | succ n ih =>
    intro σ y2 z h hK
    rw [f_X5_layChoices_L40] at h
    refine s_iload_n E 2 rfl dX5_layChoices_40 rfl ?_
    refine s_bipush E (v := 100) dX5_layChoices_41 kb_100 ?_
    refine s_icmp_ge E 59 dX5_layChoices_43 (by decide) (fun c4 => ?_) (fun c4 => ?_)
    · have h := (if_pos c4).symm.trans h
      refine s_sub E (lv' := [(0, .ref (q 0)), (1, .int x1)]) [0, 1] rfl ?_
      obtain rfl := Option.some.inj h
      exact hK
    · have h := (if_neg c4).symm.trans h
      refine s_aload_n E 0 rfl dX5_layChoices_46 rfl ?_
      refine s_get E (v := .ref (q 12)) 0 21 in_X5 gM_0 rfl (by decide) m_f_X5_44 rfl dX5_layChoices_47 ?_
      refine s_iload_n E 2 rfl dX5_layChoices_50 rfl ?_
      refine s_iconst E (v := 0) dX5_layChoices_51 ki_0 ?_
      obtain ⟨b5, h⟩ := chk_some h
      refine s_iast E (w' := (wM cI cZ q (up2 σ 12 (y2.toNatClampNeg) 0))) 12 gM_12 b5 aM_12 dX5_layChoices_52 ?_
      refine s_iinc E (v := (y2 + 1)) (lv' := [(0, .ref (q 0)), (1, .int x1), (2, .int (y2 + 1))]) 2 rfl dX5_layChoices_53 ki_1 rfl rfl rfl rfl (by decide) ?_
      refine s_goto E 40 dX5_layChoices_56 (by decide) ?_
      exact ih (up2 σ 12 (y2.toNatClampNeg) 0) (y2 + 1) z h hK
noncomputable def f_X5_layChoices_L61 (x1 : Int32) : Nat → (Nat → Nat → Int32) → Int32 → Option (Nat → Nat → Int32)
  | 0, _, _ => none
  | n + 1, σ, y2 =>
    (if (shl 1 (2 * (σ 0 5))) ≤ y2 then (some σ) else ((f_X5_laySets σ y2 x1).bind fun u8 => (if u8.1 = 0 then (f_X5_layChoices_L61 x1 n u8.2 (y2 + 1)) else ((f_X5_isLevel u8.2 (u8.2 10 0) (u8.2 10 1) (u8.2 10 2) 0).bind fun u10 => (if u10 = 0 then ((f_X5_fares u8.2 (((u8.2 10 0) ||| (u8.2 10 1)) ||| (u8.2 10 2))).bind fun u12 => ((f_X5_layMakes u8.2 u12).bind fun u13 => (f_X5_layChoices_L61 x1 n u13 (y2 + 1)))) else (chk (((u8.2 10 0) ||| (u8.2 10 1)) ||| (u8.2 10 2)) 256 ((f_X5_better (up2 u8.2 11 ((((u8.2 10 0) ||| (u8.2 10 1)) ||| (u8.2 10 2)).toNatClampNeg) 1) (((u8.2 10 0) ||| (u8.2 10 1)) ||| (u8.2 10 2)) y2).bind fun u15 => ((f_X5_fares u15 (((u8.2 10 0) ||| (u8.2 10 1)) ||| (u8.2 10 2))).bind fun u16 => ((f_X5_layMakes u15 u16).bind fun u17 => (f_X5_layChoices_L61 x1 n u17 (y2 + 1)))))))))))
set_option maxRecDepth 100000 in
set_option maxHeartbeats 4000000 in
theorem w_X5_layChoices_L61 (E : EV p s m args meth c dC dI cI cZ cX5_layChoices 4 RX5 none) (q : Nat → Nat) (x1 : Int32) : ∀ (n : Nat) (σ : Nat → Nat → Int32) (y2 : Int32) (z : (Nat → Nat → Int32)), f_X5_layChoices_L61 x1 n σ y2 = some z → GG p l e rm_X5_layChoices s m args below meth c Q A dC dI 4 (wM cI cZ q z) 157 [(0, .ref (q 0)), (1, .int x1)] [] → GG p l e rm_X5_layChoices s m args below meth c Q A dC dI 4 (wM cI cZ q σ) 61 [(0, .ref (q 0)), (1, .int x1), (2, .int y2)] [] := by
  intro n
  induction n with
  | zero =>
    intro σ y2 z h
    rw [f_X5_layChoices_L61] at h
    cases h
  | succ n ih =>
    intro σ y2 z h hK
    rw [f_X5_layChoices_L61] at h
    refine s_iload_n E 2 rfl dX5_layChoices_61 rfl ?_
    refine s_iconst E (v := 1) dX5_layChoices_62 ki_1 ?_
    refine s_iconst E (v := 2) dX5_layChoices_63 ki_2 ?_
    refine s_aload_n E 0 rfl dX5_layChoices_64 rfl ?_
    refine s_geti E (y := (σ 0 5)) 0 5 in_X5 gM_0 rfl (by decide) m_f_X5_99 rfl rfl dX5_layChoices_65 ?_
    refine s_imul E dX5_layChoices_68 ?_
    refine s_ishl E dX5_layChoices_69 ?_
    refine s_icmp_ge E 157 dX5_layChoices_70 (by decide) (fun c7 => ?_) (fun c7 => ?_)
    · have h := (if_pos c7).symm.trans h
      refine s_sub E (lv' := [(0, .ref (q 0)), (1, .int x1)]) [0, 1] rfl ?_
      obtain rfl := Option.some.inj h
      exact hK
    · have h := (if_neg c7).symm.trans h
      refine s_aload_n E 0 rfl dX5_layChoices_73 rfl ?_
      refine s_iload_n E 2 rfl dX5_layChoices_74 rfl ?_
      refine s_iload_n E 1 rfl dX5_layChoices_75 rfl ?_
      obtain ⟨u8, e8, h⟩ := bnd_some h
      refine s_callVi E kf_X5_laySets m_l_X5_166 (c_X5_laySets q σ y2 x1 u8 e8) ⟨rfl, rfl, by decide, by decide⟩ (q0 := 0) rfl rfl rfl rfl rfl (Nat.le_of_ble_eq_true rfl) dX5_layChoices_76 ?_
      refine s_if_eq E 151 dX5_layChoices_79 (by decide) (fun c9 => ?_) (fun c9 => ?_)
      · have h := (if_pos c9).symm.trans h
        refine s_iinc E (v := (y2 + 1)) (lv' := [(0, .ref (q 0)), (1, .int x1), (2, .int (y2 + 1))]) 2 rfl dX5_layChoices_151 ki_1 rfl rfl rfl rfl (by decide) ?_
        refine s_goto E 61 dX5_layChoices_154 (by decide) ?_
        exact ih u8.2 (y2 + 1) z h hK
      · have h := (if_neg c9).symm.trans h
        refine s_aload_n E 0 rfl dX5_layChoices_82 rfl ?_
        refine s_get E (v := .ref (q 10)) 0 16 in_X5 gM_0 rfl (by decide) m_f_X5_37 rfl dX5_layChoices_83 ?_
        refine s_iconst E (v := 0) dX5_layChoices_86 ki_0 ?_
        refine s_iald E (i := 0) (v := (u8.2 10 0)) 10 gM_10 vin_0_3 rfl dX5_layChoices_87 ?_
        refine s_aload_n E 0 rfl dX5_layChoices_88 rfl ?_
        refine s_get E (v := .ref (q 10)) 0 16 in_X5 gM_0 rfl (by decide) m_f_X5_37 rfl dX5_layChoices_89 ?_
        refine s_iconst E (v := 1) dX5_layChoices_92 ki_1 ?_
        refine s_iald E (i := 1) (v := (u8.2 10 1)) 10 gM_10 vin_1_3 rfl dX5_layChoices_93 ?_
        refine s_ior E dX5_layChoices_94 ?_
        refine s_aload_n E 0 rfl dX5_layChoices_95 rfl ?_
        refine s_get E (v := .ref (q 10)) 0 16 in_X5 gM_0 rfl (by decide) m_f_X5_37 rfl dX5_layChoices_96 ?_
        refine s_iconst E (v := 2) dX5_layChoices_99 ki_2 ?_
        refine s_iald E (i := 2) (v := (u8.2 10 2)) 10 gM_10 vin_2_3 rfl dX5_layChoices_100 ?_
        refine s_ior E dX5_layChoices_101 ?_
        refine s_istore_n E (lv' := [(0, .ref (q 0)), (1, .int x1), (2, .int y2), (3, .int (((u8.2 10 0) ||| (u8.2 10 1)) ||| (u8.2 10 2)))]) dX5_layChoices_102 rfl rfl rfl rfl (by decide) ?_
        refine s_aload_n E 0 rfl dX5_layChoices_103 rfl ?_
        refine s_aload_n E 0 rfl dX5_layChoices_104 rfl ?_
        refine s_get E (v := .ref (q 10)) 0 16 in_X5 gM_0 rfl (by decide) m_f_X5_37 rfl dX5_layChoices_105 ?_
        refine s_iconst E (v := 0) dX5_layChoices_108 ki_0 ?_
        refine s_iald E (i := 0) (v := (u8.2 10 0)) 10 gM_10 vin_0_3 rfl dX5_layChoices_109 ?_
        refine s_aload_n E 0 rfl dX5_layChoices_110 rfl ?_
        refine s_get E (v := .ref (q 10)) 0 16 in_X5 gM_0 rfl (by decide) m_f_X5_37 rfl dX5_layChoices_111 ?_
        refine s_iconst E (v := 1) dX5_layChoices_114 ki_1 ?_
        refine s_iald E (i := 1) (v := (u8.2 10 1)) 10 gM_10 vin_1_3 rfl dX5_layChoices_115 ?_
        refine s_aload_n E 0 rfl dX5_layChoices_116 rfl ?_
        refine s_get E (v := .ref (q 10)) 0 16 in_X5 gM_0 rfl (by decide) m_f_X5_37 rfl dX5_layChoices_117 ?_
        refine s_iconst E (v := 2) dX5_layChoices_120 ki_2 ?_
        refine s_iald E (i := 2) (v := (u8.2 10 2)) 10 gM_10 vin_2_3 rfl dX5_layChoices_121 ?_
        refine s_iconst E (v := 0) dX5_layChoices_122 ki_0 ?_
        obtain ⟨u10, e10, h⟩ := bnd_some h
        refine s_callVi E kf_X5_isLevel m_l_X5_150 (c_X5_isLevel q u8.2 (u8.2 10 0) (u8.2 10 1) (u8.2 10 2) 0 u10 e10) ⟨rfl, rfl, by decide, by decide⟩ (q0 := 0) rfl rfl rfl rfl rfl (Nat.le_of_ble_eq_true rfl) dX5_layChoices_123 ?_
        refine s_if_eq E 142 dX5_layChoices_126 (by decide) (fun c11 => ?_) (fun c11 => ?_)
        · have h := (if_pos c11).symm.trans h
          refine s_aload_n E 0 rfl dX5_layChoices_142 rfl ?_
          refine s_aload_n E 0 rfl dX5_layChoices_143 rfl ?_
          refine s_iload_n E 3 rfl dX5_layChoices_144 rfl ?_
          obtain ⟨u12, e12, h⟩ := bnd_some h
          refine s_callVi E kf_X5_fares m_l_X5_154 (c_X5_fares q u8.2 (((u8.2 10 0) ||| (u8.2 10 1)) ||| (u8.2 10 2)) u12 e12) ⟨rfl, rfl, by decide, by decide⟩ (q0 := 0) rfl rfl rfl rfl rfl (Nat.le_of_ble_eq_true rfl) dX5_layChoices_145 ?_
          obtain ⟨u13, e13, h⟩ := bnd_some h
          refine s_callVv E kf_X5_layMakes m_l_X5_173 (c_X5_layMakes q u8.2 u12 u13 e13) ⟨rfl, rfl, by decide, by decide⟩ (q0 := 0) rfl rfl rfl rfl rfl (Nat.le_of_ble_eq_true rfl) dX5_layChoices_148 ?_
          refine s_iinc E (v := (y2 + 1)) (lv' := [(0, .ref (q 0)), (1, .int x1), (2, .int (y2 + 1)), (3, .int (((u8.2 10 0) ||| (u8.2 10 1)) ||| (u8.2 10 2)))]) 2 rfl dX5_layChoices_151 ki_1 rfl rfl rfl rfl (by decide) ?_
          refine s_goto E 61 dX5_layChoices_154 (by decide) ?_
          refine s_sub E (lv' := [(0, .ref (q 0)), (1, .int x1), (2, .int (y2 + 1))]) [0, 1, 2] rfl ?_
          exact ih u13 (y2 + 1) z h hK
        · have h := (if_neg c11).symm.trans h
          refine s_aload_n E 0 rfl dX5_layChoices_129 rfl ?_
          refine s_get E (v := .ref (q 11)) 0 20 in_X5 gM_0 rfl (by decide) m_f_X5_40 rfl dX5_layChoices_130 ?_
          refine s_iload_n E 3 rfl dX5_layChoices_133 rfl ?_
          refine s_iconst E (v := 1) dX5_layChoices_134 ki_1 ?_
          obtain ⟨b14, h⟩ := chk_some h
          refine s_zast E (w' := (wM cI cZ q (up2 u8.2 11 ((((u8.2 10 0) ||| (u8.2 10 1)) ||| (u8.2 10 2)).toNatClampNeg) 1))) 11 gM_11 b14 aM_11_1 dX5_layChoices_135 ?_
          refine s_aload_n E 0 rfl dX5_layChoices_136 rfl ?_
          refine s_iload_n E 3 rfl dX5_layChoices_137 rfl ?_
          refine s_iload_n E 2 rfl dX5_layChoices_138 rfl ?_
          obtain ⟨u15, e15, h⟩ := bnd_some h
          refine s_callVv E kf_X5_better m_l_X5_169 (c_X5_better q (up2 u8.2 11 ((((u8.2 10 0) ||| (u8.2 10 1)) ||| (u8.2 10 2)).toNatClampNeg) 1) (((u8.2 10 0) ||| (u8.2 10 1)) ||| (u8.2 10 2)) y2 u15 e15) ⟨rfl, rfl, by decide, by decide⟩ (q0 := 0) rfl rfl rfl rfl rfl (Nat.le_of_ble_eq_true rfl) dX5_layChoices_139 ?_
          refine s_aload_n E 0 rfl dX5_layChoices_142 rfl ?_
          refine s_aload_n E 0 rfl dX5_layChoices_143 rfl ?_
          refine s_iload_n E 3 rfl dX5_layChoices_144 rfl ?_
          obtain ⟨u16, e16, h⟩ := bnd_some h
          refine s_callVi E kf_X5_fares m_l_X5_154 (c_X5_fares q u15 (((u8.2 10 0) ||| (u8.2 10 1)) ||| (u8.2 10 2)) u16 e16) ⟨rfl, rfl, by decide, by decide⟩ (q0 := 0) rfl rfl rfl rfl rfl (Nat.le_of_ble_eq_true rfl) dX5_layChoices_145 ?_
          obtain ⟨u17, e17, h⟩ := bnd_some h
          refine s_callVv E kf_X5_layMakes m_l_X5_173 (c_X5_layMakes q u15 u16 u17 e17) ⟨rfl, rfl, by decide, by decide⟩ (q0 := 0) rfl rfl rfl rfl rfl (Nat.le_of_ble_eq_true rfl) dX5_layChoices_148 ?_
          refine s_iinc E (v := (y2 + 1)) (lv' := [(0, .ref (q 0)), (1, .int x1), (2, .int (y2 + 1)), (3, .int (((u8.2 10 0) ||| (u8.2 10 1)) ||| (u8.2 10 2)))]) 2 rfl dX5_layChoices_151 ki_1 rfl rfl rfl rfl (by decide) ?_
          refine s_goto E 61 dX5_layChoices_154 (by decide) ?_
          refine s_sub E (lv' := [(0, .ref (q 0)), (1, .int x1), (2, .int (y2 + 1))]) [0, 1, 2] rfl ?_
          exact ih u17 (y2 + 1) z h hK
noncomputable def f_X5_layChoices (σ : Nat → Nat → Int32) (x1 : Int32) : Option (Nat → Nat → Int32) :=
  ((f_X5_layChoices_L18 fuel (up2 (up2 (up2 σ 0 17 (-9)) 0 18 0) 0 19 0) 0).bind fun u3 => ((f_X5_layChoices_L40 fuel u3 0).bind fun u6 => ((f_X5_layChoices_L61 x1 fuel u6 1).bind fun u18 => (some u18))))
set_option maxRecDepth 100000 in
set_option maxHeartbeats 4000000 in
theorem c_X5_layChoices (q : Nat → Nat) (σ : Nat → Nat → Int32) (x1 : Int32) (z : (Nat → Nat → Int32)) (h : f_X5_layChoices σ x1 = some z) : CT l dC dI cI cZ A yX5_layChoices cX5_layChoices 4 none rm_X5_layChoices [.ref (q 0), .int x1] (wM cI cZ q σ) (wM cI cZ q z) none := by
  refine b_met (by decide) (Nat.le_of_ble_eq_true rfl) ?_
  intro p e s m below meth c E
  have E : EV p s m _ meth c dC dI cI cZ cX5_layChoices 4 RX5 none := E
  show GG p l e rm_X5_layChoices s m _ below meth c _ A dC dI 4 (wM cI cZ q σ) 0 [(0, .ref (q 0)), (1, .int x1)] []
  unfold f_X5_layChoices at h
  refine s_aload_n E 0 rfl dX5_layChoices_0 rfl ?_
  refine s_bipush E (v := (-9)) dX5_layChoices_1 kb_m9 ?_
  refine s_put E (w' := (wM cI cZ q (up2 σ 0 17 (-9)))) (v := .int (-9)) 0 17 tyX5 tyX5_ok nmX5 in_X5 gM_0 rfl (by decide) m_f_X5_157 rfl (tyX5_ok 17 (by decide)) rfl rfl (Nat.le_of_ble_eq_true rfl) fM_0_17 dX5_layChoices_3 ?_
  refine s_aload_n E 0 rfl dX5_layChoices_6 rfl ?_
  refine s_iconst E (v := 0) dX5_layChoices_7 ki_0 ?_
  refine s_put E (w' := (wM cI cZ q (up2 (up2 σ 0 17 (-9)) 0 18 0))) (v := .int 0) 0 18 tyX5 tyX5_ok nmX5 in_X5 gM_0 rfl (by decide) m_f_X5_160 rfl (tyX5_ok 18 (by decide)) rfl rfl (Nat.le_of_ble_eq_true rfl) fM_0_18 dX5_layChoices_8 ?_
  refine s_aload_n E 0 rfl dX5_layChoices_11 rfl ?_
  refine s_iconst E (v := 0) dX5_layChoices_12 ki_0 ?_
  refine s_put E (w' := (wM cI cZ q (up2 (up2 (up2 σ 0 17 (-9)) 0 18 0) 0 19 0))) (v := .int 0) 0 19 tyX5 tyX5_ok nmX5 in_X5 gM_0 rfl (by decide) m_f_X5_163 rfl (tyX5_ok 19 (by decide)) rfl rfl (Nat.le_of_ble_eq_true rfl) fM_0_19 dX5_layChoices_13 ?_
  refine s_iconst E (v := 0) dX5_layChoices_16 ki_0 ?_
  refine s_istore_n E (lv' := [(0, .ref (q 0)), (1, .int x1), (2, .int 0)]) dX5_layChoices_17 rfl rfl rfl rfl (by decide) ?_
  obtain ⟨u3, e3, h⟩ := bnd_some h
  refine w_X5_layChoices_L18 E q x1 fuel (up2 (up2 (up2 σ 0 17 (-9)) 0 18 0) 0 19 0) 0 u3 e3 ?_
  refine s_iconst E (v := 0) dX5_layChoices_38 ki_0 ?_
  refine s_istore_n E (lv' := [(0, .ref (q 0)), (1, .int x1), (2, .int 0)]) dX5_layChoices_39 rfl rfl rfl rfl (by decide) ?_
  obtain ⟨u6, e6, h⟩ := bnd_some h
  refine w_X5_layChoices_L40 E q x1 fuel u3 0 u6 e6 ?_
  refine s_iconst E (v := 1) dX5_layChoices_59 ki_1 ?_
  refine s_istore_n E (lv' := [(0, .ref (q 0)), (1, .int x1), (2, .int 1)]) dX5_layChoices_60 rfl rfl rfl rfl (by decide) ?_
  obtain ⟨u18, e18, h⟩ := bnd_some h
  refine w_X5_layChoices_L61 E q x1 fuel u6 1 u18 e18 ?_
  obtain rfl := Option.some.inj h
  exact s_vret E rfl dX5_layChoices_157
end
abbrev rm_X5_best : Room := { frames := 5, cells := 0, slots := 0, locals := 124 }
section
noncomputable def f_X5_best (σ : Nat → Nat → Int32) : Option (Int32 × (Nat → Nat → Int32)) :=
  ((f_X5_waiting σ).bind fun u1 => ((f_X5_layChoices σ u1).bind fun u2 => (some ((u2 0 17), u2))))
set_option maxRecDepth 100000 in
set_option maxHeartbeats 4000000 in
theorem c_X5_best (q : Nat → Nat) (σ : Nat → Nat → Int32) (z : (Int32 × (Nat → Nat → Int32))) (h : f_X5_best σ = some z) : CT l dC dI cI cZ A yX5_best cX5_best 1 (some .int) rm_X5_best [.ref (q 0)] (wM cI cZ q σ) (wM cI cZ q z.2) (some (.int z.1)) := by
  refine b_met (by decide) (Nat.le_of_ble_eq_true rfl) ?_
  intro p e s m below meth c E
  have E : EV p s m _ meth c dC dI cI cZ cX5_best 1 RX5 (some .int) := E
  show GG p l e rm_X5_best s m _ below meth c _ A dC dI 1 (wM cI cZ q σ) 0 [(0, .ref (q 0))] []
  unfold f_X5_best at h
  refine s_aload_n E 0 rfl dX5_best_0 rfl ?_
  refine s_aload_n E 0 rfl dX5_best_1 rfl ?_
  obtain ⟨u1, e1, h⟩ := bnd_some h
  refine s_callVi E kf_X5_waiting m_l_X5_183 (c_X5_waiting q σ u1 e1) ⟨rfl, rfl, by decide, by decide⟩ (q0 := 0) rfl rfl rfl rfl rfl (Nat.le_of_ble_eq_true rfl) dX5_best_2 ?_
  obtain ⟨u2, e2, h⟩ := bnd_some h
  refine s_callVv E kf_X5_layChoices m_l_X5_186 (c_X5_layChoices q σ u1 u2 e2) ⟨rfl, rfl, by decide, by decide⟩ (q0 := 0) rfl rfl rfl rfl rfl (Nat.le_of_ble_eq_true rfl) dX5_best_5 ?_
  refine s_aload_n E 0 rfl dX5_best_8 rfl ?_
  refine s_geti E (y := (u2 0 17)) 0 17 in_X5 gM_0 rfl (by decide) m_f_X5_157 rfl rfl dX5_best_9 ?_
  obtain rfl := Option.some.inj h
  exact s_iret E rfl rfl dX5_best_12
end
abbrev rm_X5_bestAt : Room := { frames := 5, cells := 0, slots := 0, locals := 124 }
section
noncomputable def f_X5_bestAt (σ : Nat → Nat → Int32) (x1 : Int32) : Option (Int32 × (Nat → Nat → Int32)) :=
  ((f_X5_isPerson σ x1).bind fun u1 => (if u1 = 0 then (some ((-1), σ)) else ((f_X5_waiting σ).bind fun u3 => ((f_X5_layChoices σ u3).bind fun u4 => (if 0 ≤ (((shr (u4 0 19) (2 * (((u4 0 5) - 1) - x1))) &&& 3) - 1) then (some ((((shr (u4 0 19) (2 * (((u4 0 5) - 1) - x1))) &&& 3) - 1), u4)) else (some ((-9), u4)))))))
set_option maxRecDepth 100000 in
set_option maxHeartbeats 4000000 in
theorem c_X5_bestAt (q : Nat → Nat) (σ : Nat → Nat → Int32) (x1 : Int32) (z : (Int32 × (Nat → Nat → Int32))) (h : f_X5_bestAt σ x1 = some z) : CT l dC dI cI cZ A yX5_bestAt cX5_bestAt 3 (some .int) rm_X5_bestAt [.ref (q 0), .int x1] (wM cI cZ q σ) (wM cI cZ q z.2) (some (.int z.1)) := by
  refine b_met (by decide) (Nat.le_of_ble_eq_true rfl) ?_
  intro p e s m below meth c E
  have E : EV p s m _ meth c dC dI cI cZ cX5_bestAt 3 RX5 (some .int) := E
  show GG p l e rm_X5_bestAt s m _ below meth c _ A dC dI 3 (wM cI cZ q σ) 0 [(0, .ref (q 0)), (1, .int x1)] []
  unfold f_X5_bestAt at h
  refine s_aload_n E 0 rfl dX5_bestAt_0 rfl ?_
  refine s_iload_n E 1 rfl dX5_bestAt_1 rfl ?_
  obtain ⟨u1, e1, h⟩ := bnd_some h
  refine s_callVi E kf_X5_isPerson m_l_X5_110 (c_X5_isPerson q σ x1 u1 e1) ⟨rfl, rfl, by decide, by decide⟩ (q0 := 0) rfl rfl rfl rfl rfl (Nat.le_of_ble_eq_true rfl) dX5_bestAt_2 ?_
  refine s_if_ne E 10 dX5_bestAt_5 (by decide) (fun c2 => ?_) (fun c2 => ?_)
  · have h := (if_pos c2).symm.trans h
    refine s_iconst E (v := (-1)) dX5_bestAt_8 ki_m1 ?_
    obtain rfl := Option.some.inj h
    exact s_iret E rfl rfl dX5_bestAt_9
  · have h := (if_neg c2).symm.trans h
    refine s_aload_n E 0 rfl dX5_bestAt_10 rfl ?_
    refine s_aload_n E 0 rfl dX5_bestAt_11 rfl ?_
    obtain ⟨u3, e3, h⟩ := bnd_some h
    refine s_callVi E kf_X5_waiting m_l_X5_183 (c_X5_waiting q σ u3 e3) ⟨rfl, rfl, by decide, by decide⟩ (q0 := 0) rfl rfl rfl rfl rfl (Nat.le_of_ble_eq_true rfl) dX5_bestAt_12 ?_
    obtain ⟨u4, e4, h⟩ := bnd_some h
    refine s_callVv E kf_X5_layChoices m_l_X5_186 (c_X5_layChoices q σ u3 u4 e4) ⟨rfl, rfl, by decide, by decide⟩ (q0 := 0) rfl rfl rfl rfl rfl (Nat.le_of_ble_eq_true rfl) dX5_bestAt_15 ?_
    refine s_aload_n E 0 rfl dX5_bestAt_18 rfl ?_
    refine s_geti E (y := (u4 0 19)) 0 19 in_X5 gM_0 rfl (by decide) m_f_X5_163 rfl rfl dX5_bestAt_19 ?_
    refine s_iconst E (v := 2) dX5_bestAt_22 ki_2 ?_
    refine s_aload_n E 0 rfl dX5_bestAt_23 rfl ?_
    refine s_geti E (y := (u4 0 5)) 0 5 in_X5 gM_0 rfl (by decide) m_f_X5_99 rfl rfl dX5_bestAt_24 ?_
    refine s_iconst E (v := 1) dX5_bestAt_27 ki_1 ?_
    refine s_isub E dX5_bestAt_28 ?_
    refine s_iload_n E 1 rfl dX5_bestAt_29 rfl ?_
    refine s_isub E dX5_bestAt_30 ?_
    refine s_imul E dX5_bestAt_31 ?_
    refine s_ishr E dX5_bestAt_32 ?_
    refine s_iconst E (v := 3) dX5_bestAt_33 ki_3 ?_
    refine s_iand E dX5_bestAt_34 ?_
    refine s_iconst E (v := 1) dX5_bestAt_35 ki_1 ?_
    refine s_isub E dX5_bestAt_36 ?_
    refine s_istore_n E (lv' := [(0, .ref (q 0)), (1, .int x1), (2, .int (((shr (u4 0 19) (2 * (((u4 0 5) - 1) - x1))) &&& 3) - 1))]) dX5_bestAt_37 rfl rfl rfl rfl (by decide) ?_
    refine s_iload_n E 2 rfl dX5_bestAt_38 rfl ?_
    refine s_if_ge E 47 dX5_bestAt_39 (by decide) (fun c5 => ?_) (fun c5 => ?_)
    · have h := (if_pos c5).symm.trans h
      refine s_iload_n E 2 rfl dX5_bestAt_47 rfl ?_
      obtain rfl := Option.some.inj h
      exact s_iret E rfl rfl dX5_bestAt_48
    · have h := (if_neg c5).symm.trans h
      refine s_bipush E (v := (-9)) dX5_bestAt_42 kb_m9 ?_
      refine s_goto E 48 dX5_bestAt_44 (by decide) ?_
      obtain rfl := Option.some.inj h
      exact s_iret E rfl rfl dX5_bestAt_48
end
abbrev rm_X5_mostOf : Room := { frames := 5, cells := 0, slots := 0, locals := 124 }
section
noncomputable def f_X5_mostOf (σ : Nat → Nat → Int32) (x1 : Int32) : Option (Int32 × (Nat → Nat → Int32)) :=
  ((f_X5_layChoices σ x1).bind fun u1 => (if 0 ≤ (u1 0 17) then (some ((u1 0 17), u1)) else (some (0, u1))))
set_option maxRecDepth 100000 in
set_option maxHeartbeats 4000000 in
theorem c_X5_mostOf (q : Nat → Nat) (σ : Nat → Nat → Int32) (x1 : Int32) (z : (Int32 × (Nat → Nat → Int32))) (h : f_X5_mostOf σ x1 = some z) : CT l dC dI cI cZ A yX5_mostOf cX5_mostOf 2 (some .int) rm_X5_mostOf [.ref (q 0), .int x1] (wM cI cZ q σ) (wM cI cZ q z.2) (some (.int z.1)) := by
  refine b_met (by decide) (Nat.le_of_ble_eq_true rfl) ?_
  intro p e s m below meth c E
  have E : EV p s m _ meth c dC dI cI cZ cX5_mostOf 2 RX5 (some .int) := E
  show GG p l e rm_X5_mostOf s m _ below meth c _ A dC dI 2 (wM cI cZ q σ) 0 [(0, .ref (q 0)), (1, .int x1)] []
  unfold f_X5_mostOf at h
  refine s_aload_n E 0 rfl dX5_mostOf_0 rfl ?_
  refine s_iload_n E 1 rfl dX5_mostOf_1 rfl ?_
  obtain ⟨u1, e1, h⟩ := bnd_some h
  refine s_callVv E kf_X5_layChoices m_l_X5_186 (c_X5_layChoices q σ x1 u1 e1) ⟨rfl, rfl, by decide, by decide⟩ (q0 := 0) rfl rfl rfl rfl rfl (Nat.le_of_ble_eq_true rfl) dX5_mostOf_2 ?_
  refine s_aload_n E 0 rfl dX5_mostOf_5 rfl ?_
  refine s_geti E (y := (u1 0 17)) 0 17 in_X5 gM_0 rfl (by decide) m_f_X5_157 rfl rfl dX5_mostOf_6 ?_
  refine s_if_ge E 16 dX5_mostOf_9 (by decide) (fun c2 => ?_) (fun c2 => ?_)
  · have h := (if_pos c2).symm.trans h
    refine s_aload_n E 0 rfl dX5_mostOf_16 rfl ?_
    refine s_geti E (y := (u1 0 17)) 0 17 in_X5 gM_0 rfl (by decide) m_f_X5_157 rfl rfl dX5_mostOf_17 ?_
    obtain rfl := Option.some.inj h
    exact s_iret E rfl rfl dX5_mostOf_20
  · have h := (if_neg c2).symm.trans h
    refine s_iconst E (v := 0) dX5_mostOf_12 ki_0 ?_
    refine s_goto E 20 dX5_mostOf_13 (by decide) ?_
    obtain rfl := Option.some.inj h
    exact s_iret E rfl rfl dX5_mostOf_20
end
abbrev rm_X5_worth : Room := { frames := 6, cells := 0, slots := 0, locals := 145 }
section
noncomputable def f_X5_worth (σ : Nat → Nat → Int32) (x1 : Int32) : Option (Int32 × (Nat → Nat → Int32)) :=
  ((f_X5_isPerson σ x1).bind fun u1 => (if u1 = 0 then (some ((-1), σ)) else (chk x1 8 (if (σ 7 (x1.toNatClampNeg)) = 20 then (some ((-3), σ)) else ((f_X5_waiting σ).bind fun u5 => ((f_X5_mostOf σ u5).bind fun u6 => ((f_X5_waiting u6.2).bind fun u7 => ((f_X5_mostOf u6.2 (u7 &&& ((shl 1 x1) ^^^ (-1)))).bind fun u8 => (some ((u6.1 - u8.1), u8.2))))))))))
set_option maxRecDepth 100000 in
set_option maxHeartbeats 4000000 in
theorem c_X5_worth (q : Nat → Nat) (σ : Nat → Nat → Int32) (x1 : Int32) (z : (Int32 × (Nat → Nat → Int32))) (h : f_X5_worth σ x1 = some z) : CT l dC dI cI cZ A yX5_worth cX5_worth 2 (some .int) rm_X5_worth [.ref (q 0), .int x1] (wM cI cZ q σ) (wM cI cZ q z.2) (some (.int z.1)) := by
  refine b_met (by decide) (Nat.le_of_ble_eq_true rfl) ?_
  intro p e s m below meth c E
  have E : EV p s m _ meth c dC dI cI cZ cX5_worth 2 RX5 (some .int) := E
  show GG p l e rm_X5_worth s m _ below meth c _ A dC dI 2 (wM cI cZ q σ) 0 [(0, .ref (q 0)), (1, .int x1)] []
  unfold f_X5_worth at h
  refine s_aload_n E 0 rfl dX5_worth_0 rfl ?_
  refine s_iload_n E 1 rfl dX5_worth_1 rfl ?_
  obtain ⟨u1, e1, h⟩ := bnd_some h
  refine s_callVi E kf_X5_isPerson m_l_X5_110 (c_X5_isPerson q σ x1 u1 e1) ⟨rfl, rfl, by decide, by decide⟩ (q0 := 0) rfl rfl rfl rfl rfl (Nat.le_of_ble_eq_true rfl) dX5_worth_2 ?_
  refine s_if_ne E 10 dX5_worth_5 (by decide) (fun c2 => ?_) (fun c2 => ?_)
  · have h := (if_pos c2).symm.trans h
    refine s_iconst E (v := (-1)) dX5_worth_8 ki_m1 ?_
    obtain rfl := Option.some.inj h
    exact s_iret E rfl rfl dX5_worth_9
  · have h := (if_neg c2).symm.trans h
    refine s_aload_n E 0 rfl dX5_worth_10 rfl ?_
    refine s_get E (v := .ref (q 7)) 0 8 in_X5 gM_0 rfl (by decide) m_f_X5_28 rfl dX5_worth_11 ?_
    refine s_iload_n E 1 rfl dX5_worth_14 rfl ?_
    obtain ⟨b3, h⟩ := chk_some h
    refine s_iald E (v := (σ 7 (x1.toNatClampNeg))) 7 gM_7 b3 rfl dX5_worth_15 ?_
    refine s_bipush E (v := 20) dX5_worth_16 kb_20 ?_
    refine s_icmp_ne E 24 dX5_worth_18 (by decide) (fun c4 => ?_) (fun c4 => ?_)
    · have h := (if_pos c4).symm.trans h
      refine s_bipush E (v := (-3)) dX5_worth_21 kb_m3 ?_
      obtain rfl := Option.some.inj h
      exact s_iret E rfl rfl dX5_worth_23
    · have h := (if_neg c4).symm.trans h
      refine s_aload_n E 0 rfl dX5_worth_24 rfl ?_
      refine s_aload_n E 0 rfl dX5_worth_25 rfl ?_
      obtain ⟨u5, e5, h⟩ := bnd_some h
      refine s_callVi E kf_X5_waiting m_l_X5_183 (c_X5_waiting q σ u5 e5) ⟨rfl, rfl, by decide, by decide⟩ (q0 := 0) rfl rfl rfl rfl rfl (Nat.le_of_ble_eq_true rfl) dX5_worth_26 ?_
      obtain ⟨u6, e6, h⟩ := bnd_some h
      refine s_callVi E kf_X5_mostOf m_l_X5_189 (c_X5_mostOf q σ u5 u6 e6) ⟨rfl, rfl, by decide, by decide⟩ (q0 := 0) rfl rfl rfl rfl rfl (Nat.le_of_ble_eq_true rfl) dX5_worth_29 ?_
      refine s_aload_n E 0 rfl dX5_worth_32 rfl ?_
      refine s_aload_n E 0 rfl dX5_worth_33 rfl ?_
      obtain ⟨u7, e7, h⟩ := bnd_some h
      refine s_callVi E kf_X5_waiting m_l_X5_183 (c_X5_waiting q u6.2 u7 e7) ⟨rfl, rfl, by decide, by decide⟩ (q0 := 0) rfl rfl rfl rfl rfl (Nat.le_of_ble_eq_true rfl) dX5_worth_34 ?_
      refine s_iconst E (v := 1) dX5_worth_37 ki_1 ?_
      refine s_iload_n E 1 rfl dX5_worth_38 rfl ?_
      refine s_ishl E dX5_worth_39 ?_
      refine s_iconst E (v := (-1)) dX5_worth_40 ki_m1 ?_
      refine s_ixor E dX5_worth_41 ?_
      refine s_iand E dX5_worth_42 ?_
      obtain ⟨u8, e8, h⟩ := bnd_some h
      refine s_callVi E kf_X5_mostOf m_l_X5_189 (c_X5_mostOf q u6.2 (u7 &&& ((shl 1 x1) ^^^ (-1))) u8 e8) ⟨rfl, rfl, by decide, by decide⟩ (q0 := 0) rfl rfl rfl rfl rfl (Nat.le_of_ble_eq_true rfl) dX5_worth_43 ?_
      refine s_isub E dX5_worth_46 ?_
      obtain rfl := Option.some.inj h
      exact s_iret E rfl rfl dX5_worth_47
end
abbrev rm_X5_makes : Room := { frames := 6, cells := 0, slots := 0, locals := 145 }
section
noncomputable def f_X5_makes (σ : Nat → Nat → Int32) (x1 : Int32) : Option (Int32 × (Nat → Nat → Int32)) :=
  (if (f_X5_in x1.toInt64 (1 : Int64) (99 : Int64)) = 0 then (some ((-2), σ)) else ((f_X5_waiting σ).bind fun u2 => ((f_X5_mostOf σ u2).bind fun u3 => (chk x1 100 (if (u3.2 12 (x1.toNatClampNeg)) ≤ u3.1 then (some (0, u3.2)) else (chk x1 100 (some (((u3.2 12 (x1.toNatClampNeg)) - u3.1), u3.2))))))))
set_option maxRecDepth 100000 in
set_option maxHeartbeats 4000000 in
theorem c_X5_makes (q : Nat → Nat) (σ : Nat → Nat → Int32) (x1 : Int32) (z : (Int32 × (Nat → Nat → Int32))) (h : f_X5_makes σ x1 = some z) : CT l dC dI cI cZ A yX5_makes cX5_makes 3 (some .int) rm_X5_makes [.ref (q 0), .int x1] (wM cI cZ q σ) (wM cI cZ q z.2) (some (.int z.1)) := by
  refine b_met (by decide) (Nat.le_of_ble_eq_true rfl) ?_
  intro p e s m below meth c E
  have E : EV p s m _ meth c dC dI cI cZ cX5_makes 3 RX5 (some .int) := E
  show GG p l e rm_X5_makes s m _ below meth c _ A dC dI 3 (wM cI cZ q σ) 0 [(0, .ref (q 0)), (1, .int x1)] []
  unfold f_X5_makes at h
  refine s_iload_n E 1 rfl dX5_makes_0 rfl ?_
  refine s_i2l E dX5_makes_1 ?_
  refine s_lconst E (v := 1) dX5_makes_2 (by decide) ?_
  refine s_ldc2 E (v := (99)) m_c_X5_181 dX5_makes_3 ?_
  refine s_callSi E kf_X5_in m_l_X5_70 (c_X5_in (wM cI cZ q σ) x1.toInt64 (1 : Int64) (99 : Int64)) ⟨rfl, rfl, by decide, by decide⟩ rfl rfl (Nat.le_of_ble_eq_true rfl) dX5_makes_6 ?_
  refine s_if_ne E 15 dX5_makes_9 (by decide) (fun c1 => ?_) (fun c1 => ?_)
  · have h := (if_pos c1).symm.trans h
    refine s_bipush E (v := (-2)) dX5_makes_12 kb_m2 ?_
    obtain rfl := Option.some.inj h
    exact s_iret E rfl rfl dX5_makes_14
  · have h := (if_neg c1).symm.trans h
    refine s_aload_n E 0 rfl dX5_makes_15 rfl ?_
    refine s_aload_n E 0 rfl dX5_makes_16 rfl ?_
    obtain ⟨u2, e2, h⟩ := bnd_some h
    refine s_callVi E kf_X5_waiting m_l_X5_183 (c_X5_waiting q σ u2 e2) ⟨rfl, rfl, by decide, by decide⟩ (q0 := 0) rfl rfl rfl rfl rfl (Nat.le_of_ble_eq_true rfl) dX5_makes_17 ?_
    obtain ⟨u3, e3, h⟩ := bnd_some h
    refine s_callVi E kf_X5_mostOf m_l_X5_189 (c_X5_mostOf q σ u2 u3 e3) ⟨rfl, rfl, by decide, by decide⟩ (q0 := 0) rfl rfl rfl rfl rfl (Nat.le_of_ble_eq_true rfl) dX5_makes_20 ?_
    refine s_istore_n E (lv' := [(0, .ref (q 0)), (1, .int x1), (2, .int u3.1)]) dX5_makes_23 rfl rfl rfl rfl (by decide) ?_
    refine s_aload_n E 0 rfl dX5_makes_24 rfl ?_
    refine s_get E (v := .ref (q 12)) 0 21 in_X5 gM_0 rfl (by decide) m_f_X5_44 rfl dX5_makes_25 ?_
    refine s_iload_n E 1 rfl dX5_makes_28 rfl ?_
    obtain ⟨b4, h⟩ := chk_some h
    refine s_iald E (v := (u3.2 12 (x1.toNatClampNeg))) 12 gM_12 b4 rfl dX5_makes_29 ?_
    refine s_iload_n E 2 rfl dX5_makes_30 rfl ?_
    refine s_icmp_le E 45 dX5_makes_31 (by decide) (fun c5 => ?_) (fun c5 => ?_)
    · have h := (if_pos c5).symm.trans h
      refine s_iconst E (v := 0) dX5_makes_45 ki_0 ?_
      obtain rfl := Option.some.inj h
      exact s_iret E rfl rfl dX5_makes_46
    · have h := (if_neg c5).symm.trans h
      refine s_aload_n E 0 rfl dX5_makes_34 rfl ?_
      refine s_get E (v := .ref (q 12)) 0 21 in_X5 gM_0 rfl (by decide) m_f_X5_44 rfl dX5_makes_35 ?_
      refine s_iload_n E 1 rfl dX5_makes_38 rfl ?_
      obtain ⟨b6, h⟩ := chk_some h
      refine s_iald E (v := (u3.2 12 (x1.toNatClampNeg))) 12 gM_12 b6 rfl dX5_makes_39 ?_
      refine s_iload_n E 2 rfl dX5_makes_40 rfl ?_
      refine s_isub E dX5_makes_41 ?_
      refine s_goto E 46 dX5_makes_42 (by decide) ?_
      obtain rfl := Option.some.inj h
      exact s_iret E rfl rfl dX5_makes_46
end
abbrev rm_X5_bestMakes : Room := { frames := 6, cells := 0, slots := 0, locals := 145 }
section
noncomputable def f_X5_bestMakes_J35_14 (σ : Nat → Nat → Int32) (t1 : Int32) (t3 : Int32) (s0 : Int32) (rec : Int32 → Int32 → Int32 → Option Int32) : Option Int32 :=
  (chk t3 100 (if (σ 12 (t3.toNatClampNeg)) ≤ t1 then (rec t1 s0 (t3 + 1)) else (chk t3 100 (rec (σ 12 (t3.toNatClampNeg)) s0 (t3 + 1)))))
set_option maxRecDepth 100000 in
set_option maxHeartbeats 4000000 in
theorem w_X5_bestMakes_J35_14 (E : EV p s m args meth c dC dI cI cZ cX5_bestMakes 4 RX5 (some .int)) (q : Nat → Nat) (σ : Nat → Nat → Int32) (t1 : Int32) (t2 : Int32) (t3 : Int32) (s0 : Int32) (z : Int32) (rec : Int32 → Int32 → Int32 → Option Int32) (hrec : ∀ (y1 y2 y3 : Int32), rec y1 y2 y3 = some z → GG p l e rm_X5_bestMakes s m args below meth c Q A dC dI 4 (wM cI cZ q σ) 14 [(0, .ref (q 0)), (1, .int y1), (2, .int y2), (3, .int y3)] []) (hK : GG p l e rm_X5_bestMakes s m args below meth c Q A dC dI 4 (wM cI cZ q σ) 63 [(0, .ref (q 0)), (2, .int z)] []) (h : f_X5_bestMakes_J35_14 σ t1 t3 s0 rec = some z) : GG p l e rm_X5_bestMakes s m args below meth c Q A dC dI 4 (wM cI cZ q σ) 35 [(0, .ref (q 0)), (1, .int t1), (2, .int t2), (3, .int t3)] [.int s0] := by
  unfold f_X5_bestMakes_J35_14 at h
  refine s_istore_n E (lv' := [(0, .ref (q 0)), (1, .int t1), (2, .int s0), (3, .int t3)]) dX5_bestMakes_35 rfl rfl rfl rfl (by decide) ?_
  refine s_aload_n E 0 rfl dX5_bestMakes_36 rfl ?_
  refine s_get E (v := .ref (q 12)) 0 21 in_X5 gM_0 rfl (by decide) m_f_X5_44 rfl dX5_bestMakes_37 ?_
  refine s_iload_n E 3 rfl dX5_bestMakes_40 rfl ?_
  obtain ⟨b6, h⟩ := chk_some h
  refine s_iald E (v := (σ 12 (t3.toNatClampNeg))) 12 gM_12 b6 rfl dX5_bestMakes_41 ?_
  refine s_iload_n E 1 rfl dX5_bestMakes_42 rfl ?_
  refine s_icmp_le E 55 dX5_bestMakes_43 (by decide) (fun c7 => ?_) (fun c7 => ?_)
  · have h := (if_pos c7).symm.trans h
    refine s_iload_n E 1 rfl dX5_bestMakes_55 rfl ?_
    refine s_istore_n E (lv' := [(0, .ref (q 0)), (1, .int t1), (2, .int s0), (3, .int t3)]) dX5_bestMakes_56 rfl rfl rfl rfl (by decide) ?_
    refine s_iinc E (v := (t3 + 1)) (lv' := [(0, .ref (q 0)), (1, .int t1), (2, .int s0), (3, .int (t3 + 1))]) 3 rfl dX5_bestMakes_57 ki_1 rfl rfl rfl rfl (by decide) ?_
    refine s_goto E 14 dX5_bestMakes_60 (by decide) ?_
    exact hrec t1 s0 (t3 + 1) h
  · have h := (if_neg c7).symm.trans h
    refine s_aload_n E 0 rfl dX5_bestMakes_46 rfl ?_
    refine s_get E (v := .ref (q 12)) 0 21 in_X5 gM_0 rfl (by decide) m_f_X5_44 rfl dX5_bestMakes_47 ?_
    refine s_iload_n E 3 rfl dX5_bestMakes_50 rfl ?_
    obtain ⟨b8, h⟩ := chk_some h
    refine s_iald E (v := (σ 12 (t3.toNatClampNeg))) 12 gM_12 b8 rfl dX5_bestMakes_51 ?_
    refine s_goto E 56 dX5_bestMakes_52 (by decide) ?_
    refine s_istore_n E (lv' := [(0, .ref (q 0)), (1, .int (σ 12 (t3.toNatClampNeg))), (2, .int s0), (3, .int t3)]) dX5_bestMakes_56 rfl rfl rfl rfl (by decide) ?_
    refine s_iinc E (v := (t3 + 1)) (lv' := [(0, .ref (q 0)), (1, .int (σ 12 (t3.toNatClampNeg))), (2, .int s0), (3, .int (t3 + 1))]) 3 rfl dX5_bestMakes_57 ki_1 rfl rfl rfl rfl (by decide) ?_
    refine s_goto E 14 dX5_bestMakes_60 (by decide) ?_
    exact hrec (σ 12 (t3.toNatClampNeg)) s0 (t3 + 1) h
noncomputable def f_X5_bestMakes_L14 (σ : Nat → Nat → Int32) : Nat → Int32 → Int32 → Int32 → Option Int32
  | 0, _, _, _ => none
  | n + 1, y1, y2, y3 =>
    (if 100 ≤ y3 then (some y2) else (chk y3 100 (if (σ 12 (y3.toNatClampNeg)) ≤ y1 then (f_X5_bestMakes_J35_14 σ y1 y3 y2 (f_X5_bestMakes_L14 σ n)) else (f_X5_bestMakes_J35_14 σ y1 y3 y3 (f_X5_bestMakes_L14 σ n)))))
set_option maxRecDepth 100000 in
set_option maxHeartbeats 4000000 in
theorem w_X5_bestMakes_L14 (E : EV p s m args meth c dC dI cI cZ cX5_bestMakes 4 RX5 (some .int)) (q : Nat → Nat) (σ : Nat → Nat → Int32) : ∀ (n : Nat) (y1 y2 y3 : Int32) (z : Int32), f_X5_bestMakes_L14 σ n y1 y2 y3 = some z → GG p l e rm_X5_bestMakes s m args below meth c Q A dC dI 4 (wM cI cZ q σ) 63 [(0, .ref (q 0)), (2, .int z)] [] → GG p l e rm_X5_bestMakes s m args below meth c Q A dC dI 4 (wM cI cZ q σ) 14 [(0, .ref (q 0)), (1, .int y1), (2, .int y2), (3, .int y3)] [] := by
  intro n
  induction n with
  | zero =>
    intro y1 y2 y3 z h
    rw [f_X5_bestMakes_L14] at h
    cases h
  | succ n ih =>
    intro y1 y2 y3 z h hK
    rw [f_X5_bestMakes_L14] at h
    refine s_iload_n E 3 rfl dX5_bestMakes_14 rfl ?_
    refine s_bipush E (v := 100) dX5_bestMakes_15 kb_100 ?_
    refine s_icmp_ge E 63 dX5_bestMakes_17 (by decide) (fun c3 => ?_) (fun c3 => ?_)
    · have h := (if_pos c3).symm.trans h
      refine s_sub E (lv' := [(0, .ref (q 0)), (2, .int y2)]) [0, 2] rfl ?_
      obtain rfl := Option.some.inj h
      exact hK
    · have h := (if_neg c3).symm.trans h
      refine s_aload_n E 0 rfl dX5_bestMakes_20 rfl ?_
      refine s_get E (v := .ref (q 12)) 0 21 in_X5 gM_0 rfl (by decide) m_f_X5_44 rfl dX5_bestMakes_21 ?_
      refine s_iload_n E 3 rfl dX5_bestMakes_24 rfl ?_
      obtain ⟨b4, h⟩ := chk_some h
      refine s_iald E (v := (σ 12 (y3.toNatClampNeg))) 12 gM_12 b4 rfl dX5_bestMakes_25 ?_
      refine s_iload_n E 1 rfl dX5_bestMakes_26 rfl ?_
      refine s_icmp_le E 34 dX5_bestMakes_27 (by decide) (fun c5 => ?_) (fun c5 => ?_)
      · have h := (if_pos c5).symm.trans h
        refine s_iload_n E 2 rfl dX5_bestMakes_34 rfl ?_
        exact w_X5_bestMakes_J35_14 E q σ y1 y2 y3 y2 z _ (fun y1 y2 y3 h => ih y1 y2 y3 z h hK) hK h
      · have h := (if_neg c5).symm.trans h
        refine s_iload_n E 3 rfl dX5_bestMakes_30 rfl ?_
        refine s_goto E 35 dX5_bestMakes_31 (by decide) ?_
        exact w_X5_bestMakes_J35_14 E q σ y1 y2 y3 y3 z _ (fun y1 y2 y3 h => ih y1 y2 y3 z h hK) hK h
noncomputable def f_X5_bestMakes (σ : Nat → Nat → Int32) : Option (Int32 × (Nat → Nat → Int32)) :=
  ((f_X5_waiting σ).bind fun u1 => ((f_X5_mostOf σ u1).bind fun u2 => ((f_X5_bestMakes_L14 u2.2 fuel u2.1 (-9) 1).bind fun u9 => (some (u9, u2.2)))))
set_option maxRecDepth 100000 in
set_option maxHeartbeats 4000000 in
theorem c_X5_bestMakes (q : Nat → Nat) (σ : Nat → Nat → Int32) (z : (Int32 × (Nat → Nat → Int32))) (h : f_X5_bestMakes σ = some z) : CT l dC dI cI cZ A yX5_bestMakes cX5_bestMakes 4 (some .int) rm_X5_bestMakes [.ref (q 0)] (wM cI cZ q σ) (wM cI cZ q z.2) (some (.int z.1)) := by
  refine b_met (by decide) (Nat.le_of_ble_eq_true rfl) ?_
  intro p e s m below meth c E
  have E : EV p s m _ meth c dC dI cI cZ cX5_bestMakes 4 RX5 (some .int) := E
  show GG p l e rm_X5_bestMakes s m _ below meth c _ A dC dI 4 (wM cI cZ q σ) 0 [(0, .ref (q 0))] []
  unfold f_X5_bestMakes at h
  refine s_aload_n E 0 rfl dX5_bestMakes_0 rfl ?_
  refine s_aload_n E 0 rfl dX5_bestMakes_1 rfl ?_
  obtain ⟨u1, e1, h⟩ := bnd_some h
  refine s_callVi E kf_X5_waiting m_l_X5_183 (c_X5_waiting q σ u1 e1) ⟨rfl, rfl, by decide, by decide⟩ (q0 := 0) rfl rfl rfl rfl rfl (Nat.le_of_ble_eq_true rfl) dX5_bestMakes_2 ?_
  obtain ⟨u2, e2, h⟩ := bnd_some h
  refine s_callVi E kf_X5_mostOf m_l_X5_189 (c_X5_mostOf q σ u1 u2 e2) ⟨rfl, rfl, by decide, by decide⟩ (q0 := 0) rfl rfl rfl rfl rfl (Nat.le_of_ble_eq_true rfl) dX5_bestMakes_5 ?_
  refine s_istore_n E (lv' := [(0, .ref (q 0)), (1, .int u2.1)]) dX5_bestMakes_8 rfl rfl rfl rfl (by decide) ?_
  refine s_bipush E (v := (-9)) dX5_bestMakes_9 kb_m9 ?_
  refine s_istore_n E (lv' := [(0, .ref (q 0)), (1, .int u2.1), (2, .int (-9))]) dX5_bestMakes_11 rfl rfl rfl rfl (by decide) ?_
  refine s_iconst E (v := 1) dX5_bestMakes_12 ki_1 ?_
  refine s_istore_n E (lv' := [(0, .ref (q 0)), (1, .int u2.1), (2, .int (-9)), (3, .int 1)]) dX5_bestMakes_13 rfl rfl rfl rfl (by decide) ?_
  obtain ⟨u9, e9, h⟩ := bnd_some h
  refine w_X5_bestMakes_L14 E q u2.2 fuel u2.1 (-9) 1 u9 e9 ?_
  refine s_iload_n E 1 rfl dX5_bestMakes_63 rfl ?_
  obtain rfl := Option.some.inj h
  exact s_iret E rfl rfl dX5_bestMakes_64
end
abbrev rm_X5_sets : Room := { frames := 5, cells := 0, slots := 0, locals := 124 }
section
noncomputable def f_X5_sets_L12 (σ : Nat → Nat → Int32) : Nat → Int32 → Int32 → Option Int32
  | 0, _, _ => none
  | n + 1, y1, y2 =>
    (if 256 ≤ y2 then (some y1) else (chk y2 256 (if (σ 11 (y2.toNatClampNeg)) = 0 then (f_X5_sets_L12 σ n (y1 + 0) (y2 + 1)) else (f_X5_sets_L12 σ n (y1 + 1) (y2 + 1)))))
set_option maxRecDepth 100000 in
set_option maxHeartbeats 4000000 in
theorem w_X5_sets_L12 (E : EV p s m args meth c dC dI cI cZ cX5_sets 3 RX5 (some .int)) (q : Nat → Nat) (σ : Nat → Nat → Int32) : ∀ (n : Nat) (y1 y2 : Int32) (z : Int32), f_X5_sets_L12 σ n y1 y2 = some z → GG p l e rm_X5_sets s m args below meth c Q A dC dI 3 (wM cI cZ q σ) 42 [(0, .ref (q 0)), (1, .int z)] [] → GG p l e rm_X5_sets s m args below meth c Q A dC dI 3 (wM cI cZ q σ) 12 [(0, .ref (q 0)), (1, .int y1), (2, .int y2)] [] := by
  intro n
  induction n with
  | zero =>
    intro y1 y2 z h
    rw [f_X5_sets_L12] at h
    cases h
  | succ n ih =>
    intro y1 y2 z h hK
    rw [f_X5_sets_L12] at h
    refine s_iload_n E 2 rfl dX5_sets_12 rfl ?_
    refine s_sipush E (v := 256) dX5_sets_13 ks_256 ?_
    refine s_icmp_ge E 42 dX5_sets_16 (by decide) (fun c3 => ?_) (fun c3 => ?_)
    · have h := (if_pos c3).symm.trans h
      refine s_sub E (lv' := [(0, .ref (q 0)), (1, .int y1)]) [0, 1] rfl ?_
      obtain rfl := Option.some.inj h
      exact hK
    · have h := (if_neg c3).symm.trans h
      refine s_iload_n E 1 rfl dX5_sets_19 rfl ?_
      refine s_aload_n E 0 rfl dX5_sets_20 rfl ?_
      refine s_get E (v := .ref (q 11)) 0 20 in_X5 gM_0 rfl (by decide) m_f_X5_40 rfl dX5_sets_21 ?_
      refine s_iload_n E 2 rfl dX5_sets_24 rfl ?_
      obtain ⟨b4, h⟩ := chk_some h
      refine s_zald E (v := (σ 11 (y2.toNatClampNeg))) 11 gM_11 b4 rfl dX5_sets_25 ?_
      refine s_if_eq E 33 dX5_sets_26 (by decide) (fun c5 => ?_) (fun c5 => ?_)
      · have h := (if_pos c5).symm.trans h
        refine s_iconst E (v := 0) dX5_sets_33 ki_0 ?_
        refine s_iadd E dX5_sets_34 ?_
        refine s_istore_n E (lv' := [(0, .ref (q 0)), (1, .int (y1 + 0)), (2, .int y2)]) dX5_sets_35 rfl rfl rfl rfl (by decide) ?_
        refine s_iinc E (v := (y2 + 1)) (lv' := [(0, .ref (q 0)), (1, .int (y1 + 0)), (2, .int (y2 + 1))]) 2 rfl dX5_sets_36 ki_1 rfl rfl rfl rfl (by decide) ?_
        refine s_goto E 12 dX5_sets_39 (by decide) ?_
        exact ih (y1 + 0) (y2 + 1) z h hK
      · have h := (if_neg c5).symm.trans h
        refine s_iconst E (v := 1) dX5_sets_29 ki_1 ?_
        refine s_goto E 34 dX5_sets_30 (by decide) ?_
        refine s_iadd E dX5_sets_34 ?_
        refine s_istore_n E (lv' := [(0, .ref (q 0)), (1, .int (y1 + 1)), (2, .int y2)]) dX5_sets_35 rfl rfl rfl rfl (by decide) ?_
        refine s_iinc E (v := (y2 + 1)) (lv' := [(0, .ref (q 0)), (1, .int (y1 + 1)), (2, .int (y2 + 1))]) 2 rfl dX5_sets_36 ki_1 rfl rfl rfl rfl (by decide) ?_
        refine s_goto E 12 dX5_sets_39 (by decide) ?_
        exact ih (y1 + 1) (y2 + 1) z h hK
noncomputable def f_X5_sets (σ : Nat → Nat → Int32) : Option (Int32 × (Nat → Nat → Int32)) :=
  ((f_X5_waiting σ).bind fun u1 => ((f_X5_layChoices σ u1).bind fun u2 => ((f_X5_sets_L12 u2 fuel 0 0).bind fun u6 => (some (u6, u2)))))
set_option maxRecDepth 100000 in
set_option maxHeartbeats 4000000 in
theorem c_X5_sets (q : Nat → Nat) (σ : Nat → Nat → Int32) (z : (Int32 × (Nat → Nat → Int32))) (h : f_X5_sets σ = some z) : CT l dC dI cI cZ A yX5_sets cX5_sets 3 (some .int) rm_X5_sets [.ref (q 0)] (wM cI cZ q σ) (wM cI cZ q z.2) (some (.int z.1)) := by
  refine b_met (by decide) (Nat.le_of_ble_eq_true rfl) ?_
  intro p e s m below meth c E
  have E : EV p s m _ meth c dC dI cI cZ cX5_sets 3 RX5 (some .int) := E
  show GG p l e rm_X5_sets s m _ below meth c _ A dC dI 3 (wM cI cZ q σ) 0 [(0, .ref (q 0))] []
  unfold f_X5_sets at h
  refine s_aload_n E 0 rfl dX5_sets_0 rfl ?_
  refine s_aload_n E 0 rfl dX5_sets_1 rfl ?_
  obtain ⟨u1, e1, h⟩ := bnd_some h
  refine s_callVi E kf_X5_waiting m_l_X5_183 (c_X5_waiting q σ u1 e1) ⟨rfl, rfl, by decide, by decide⟩ (q0 := 0) rfl rfl rfl rfl rfl (Nat.le_of_ble_eq_true rfl) dX5_sets_2 ?_
  obtain ⟨u2, e2, h⟩ := bnd_some h
  refine s_callVv E kf_X5_layChoices m_l_X5_186 (c_X5_layChoices q σ u1 u2 e2) ⟨rfl, rfl, by decide, by decide⟩ (q0 := 0) rfl rfl rfl rfl rfl (Nat.le_of_ble_eq_true rfl) dX5_sets_5 ?_
  refine s_iconst E (v := 0) dX5_sets_8 ki_0 ?_
  refine s_istore_n E (lv' := [(0, .ref (q 0)), (1, .int 0)]) dX5_sets_9 rfl rfl rfl rfl (by decide) ?_
  refine s_iconst E (v := 0) dX5_sets_10 ki_0 ?_
  refine s_istore_n E (lv' := [(0, .ref (q 0)), (1, .int 0), (2, .int 0)]) dX5_sets_11 rfl rfl rfl rfl (by decide) ?_
  obtain ⟨u6, e6, h⟩ := bnd_some h
  refine w_X5_sets_L12 E q u2 fuel 0 0 u6 e6 ?_
  refine s_iload_n E 1 rfl dX5_sets_42 rfl ?_
  obtain rfl := Option.some.inj h
  exact s_iret E rfl rfl dX5_sets_43
end
abbrev rm_X5_layFewest : Room := { frames := 5, cells := 0, slots := 0, locals := 124 }
section
noncomputable def f_X5_layFewest_J65_35 (σ : Nat → Nat → Int32) (x1 : Int32) (t2 : Int32) (s0 : Int32) (rec : (Nat → Nat → Int32) → Int32 → Option (Nat → Nat → Int32)) : Option (Nat → Nat → Int32) :=
  (chk x1 256 (if (σ 13 (x1.toNatClampNeg)) ≤ s0 then (chk x1 256 (chk x1 256 (rec (up2 σ 13 (x1.toNatClampNeg) (σ 13 (x1.toNatClampNeg))) ((t2 - 1) &&& x1)))) else (chk x1 256 (rec (up2 σ 13 (x1.toNatClampNeg) s0) ((t2 - 1) &&& x1)))))
set_option maxRecDepth 100000 in
set_option maxHeartbeats 4000000 in
theorem w_X5_layFewest_J65_35 (E : EV p s m args meth c dC dI cI cZ cX5_layFewest 4 RX5 none) (q : Nat → Nat) (σ : Nat → Nat → Int32) (x1 : Int32) (t2 : Int32) (s0 : Int32) (z : (Nat → Nat → Int32)) (rec : (Nat → Nat → Int32) → Int32 → Option (Nat → Nat → Int32)) (hrec : ∀ (σ : Nat → Nat → Int32) (y2 : Int32), rec σ y2 = some z → GG p l e rm_X5_layFewest s m args below meth c Q A dC dI 4 (wM cI cZ q σ) 35 [(0, .ref (q 0)), (1, .int x1), (2, .int y2)] []) (hK : GG p l e rm_X5_layFewest s m args below meth c Q A dC dI 4 (wM cI cZ q z) 101 [(0, .ref (q 0)), (1, .int x1)] []) (h : f_X5_layFewest_J65_35 σ x1 t2 s0 rec = some z) : GG p l e rm_X5_layFewest s m args below meth c Q A dC dI 4 (wM cI cZ q σ) 65 [(0, .ref (q 0)), (1, .int x1), (2, .int t2)] [.int s0] := by
  unfold f_X5_layFewest_J65_35 at h
  refine s_istore_n E (lv' := [(0, .ref (q 0)), (1, .int x1), (2, .int t2), (3, .int s0)]) dX5_layFewest_65 rfl rfl rfl rfl (by decide) ?_
  refine s_aload_n E 0 rfl dX5_layFewest_66 rfl ?_
  refine s_get E (v := .ref (q 13)) 0 22 in_X5 gM_0 rfl (by decide) m_f_X5_47 rfl dX5_layFewest_67 ?_
  refine s_iload_n E 1 rfl dX5_layFewest_70 rfl ?_
  refine s_iload_n E 3 rfl dX5_layFewest_71 rfl ?_
  refine s_aload_n E 0 rfl dX5_layFewest_72 rfl ?_
  refine s_get E (v := .ref (q 13)) 0 22 in_X5 gM_0 rfl (by decide) m_f_X5_47 rfl dX5_layFewest_73 ?_
  refine s_iload_n E 1 rfl dX5_layFewest_76 rfl ?_
  obtain ⟨b9, h⟩ := chk_some h
  refine s_iald E (v := (σ 13 (x1.toNatClampNeg))) 13 gM_13 b9 rfl dX5_layFewest_77 ?_
  refine s_icmp_ge E 85 dX5_layFewest_78 (by decide) (fun c10 => ?_) (fun c10 => ?_)
  · have h := (if_pos c10).symm.trans h
    refine s_aload_n E 0 rfl dX5_layFewest_85 rfl ?_
    refine s_get E (v := .ref (q 13)) 0 22 in_X5 gM_0 rfl (by decide) m_f_X5_47 rfl dX5_layFewest_86 ?_
    refine s_iload_n E 1 rfl dX5_layFewest_89 rfl ?_
    obtain ⟨b11, h⟩ := chk_some h
    refine s_iald E (v := (σ 13 (x1.toNatClampNeg))) 13 gM_13 b11 rfl dX5_layFewest_90 ?_
    obtain ⟨b12, h⟩ := chk_some h
    refine s_iast E (w' := (wM cI cZ q (up2 σ 13 (x1.toNatClampNeg) (σ 13 (x1.toNatClampNeg))))) 13 gM_13 b12 aM_13 dX5_layFewest_91 ?_
    refine s_iload_n E 2 rfl dX5_layFewest_92 rfl ?_
    refine s_iconst E (v := 1) dX5_layFewest_93 ki_1 ?_
    refine s_isub E dX5_layFewest_94 ?_
    refine s_iload_n E 1 rfl dX5_layFewest_95 rfl ?_
    refine s_iand E dX5_layFewest_96 ?_
    refine s_istore_n E (lv' := [(0, .ref (q 0)), (1, .int x1), (2, .int ((t2 - 1) &&& x1)), (3, .int s0)]) dX5_layFewest_97 rfl rfl rfl rfl (by decide) ?_
    refine s_goto E 35 dX5_layFewest_98 (by decide) ?_
    refine s_sub E (lv' := [(0, .ref (q 0)), (1, .int x1), (2, .int ((t2 - 1) &&& x1))]) [0, 1, 2] rfl ?_
    exact hrec (up2 σ 13 (x1.toNatClampNeg) (σ 13 (x1.toNatClampNeg))) ((t2 - 1) &&& x1) h
  · have h := (if_neg c10).symm.trans h
    refine s_iload_n E 3 rfl dX5_layFewest_81 rfl ?_
    refine s_goto E 91 dX5_layFewest_82 (by decide) ?_
    obtain ⟨b13, h⟩ := chk_some h
    refine s_iast E (w' := (wM cI cZ q (up2 σ 13 (x1.toNatClampNeg) s0))) 13 gM_13 b13 aM_13 dX5_layFewest_91 ?_
    refine s_iload_n E 2 rfl dX5_layFewest_92 rfl ?_
    refine s_iconst E (v := 1) dX5_layFewest_93 ki_1 ?_
    refine s_isub E dX5_layFewest_94 ?_
    refine s_iload_n E 1 rfl dX5_layFewest_95 rfl ?_
    refine s_iand E dX5_layFewest_96 ?_
    refine s_istore_n E (lv' := [(0, .ref (q 0)), (1, .int x1), (2, .int ((t2 - 1) &&& x1)), (3, .int s0)]) dX5_layFewest_97 rfl rfl rfl rfl (by decide) ?_
    refine s_goto E 35 dX5_layFewest_98 (by decide) ?_
    refine s_sub E (lv' := [(0, .ref (q 0)), (1, .int x1), (2, .int ((t2 - 1) &&& x1))]) [0, 1, 2] rfl ?_
    exact hrec (up2 σ 13 (x1.toNatClampNeg) s0) ((t2 - 1) &&& x1) h
noncomputable def f_X5_layFewest_L35 (x1 : Int32) : Nat → (Nat → Nat → Int32) → Int32 → Option (Nat → Nat → Int32)
  | 0, _, _ => none
  | n + 1, σ, y2 =>
    (if y2 ≤ 0 then (some σ) else (chk y2 256 (if (σ 11 (y2.toNatClampNeg)) = 0 then (f_X5_layFewest_J65_35 σ x1 y2 99 (f_X5_layFewest_L35 x1 n)) else (chk (x1 &&& (y2 ^^^ (-1))) 256 (f_X5_layFewest_J65_35 σ x1 y2 ((σ 13 ((x1 &&& (y2 ^^^ (-1))).toNatClampNeg)) + 1) (f_X5_layFewest_L35 x1 n))))))
set_option maxRecDepth 100000 in
set_option maxHeartbeats 4000000 in
theorem w_X5_layFewest_L35 (E : EV p s m args meth c dC dI cI cZ cX5_layFewest 4 RX5 none) (q : Nat → Nat) (x1 : Int32) : ∀ (n : Nat) (σ : Nat → Nat → Int32) (y2 : Int32) (z : (Nat → Nat → Int32)), f_X5_layFewest_L35 x1 n σ y2 = some z → GG p l e rm_X5_layFewest s m args below meth c Q A dC dI 4 (wM cI cZ q z) 101 [(0, .ref (q 0)), (1, .int x1)] [] → GG p l e rm_X5_layFewest s m args below meth c Q A dC dI 4 (wM cI cZ q σ) 35 [(0, .ref (q 0)), (1, .int x1), (2, .int y2)] [] := by
  intro n
  induction n with
  | zero =>
    intro σ y2 z h
    rw [f_X5_layFewest_L35] at h
    cases h
  | succ n ih =>
    intro σ y2 z h hK
    rw [f_X5_layFewest_L35] at h
    refine s_iload_n E 2 rfl dX5_layFewest_35 rfl ?_
    refine s_if_le E 101 dX5_layFewest_36 (by decide) (fun c6 => ?_) (fun c6 => ?_)
    · have h := (if_pos c6).symm.trans h
      refine s_sub E (lv' := [(0, .ref (q 0)), (1, .int x1)]) [0, 1] rfl ?_
      obtain rfl := Option.some.inj h
      exact hK
    · have h := (if_neg c6).symm.trans h
      refine s_aload_n E 0 rfl dX5_layFewest_39 rfl ?_
      refine s_get E (v := .ref (q 11)) 0 20 in_X5 gM_0 rfl (by decide) m_f_X5_40 rfl dX5_layFewest_40 ?_
      refine s_iload_n E 2 rfl dX5_layFewest_43 rfl ?_
      obtain ⟨b7, h⟩ := chk_some h
      refine s_zald E (v := (σ 11 (y2.toNatClampNeg))) 11 gM_11 b7 rfl dX5_layFewest_44 ?_
      refine s_if_eq E 63 dX5_layFewest_45 (by decide) (fun c8 => ?_) (fun c8 => ?_)
      · have h := (if_pos c8).symm.trans h
        refine s_bipush E (v := 99) dX5_layFewest_63 kb_99 ?_
        exact w_X5_layFewest_J65_35 E q σ x1 y2 99 z _ (fun σ y2 h => ih σ y2 z h hK) hK h
      · have h := (if_neg c8).symm.trans h
        refine s_aload_n E 0 rfl dX5_layFewest_48 rfl ?_
        refine s_get E (v := .ref (q 13)) 0 22 in_X5 gM_0 rfl (by decide) m_f_X5_47 rfl dX5_layFewest_49 ?_
        refine s_iload_n E 1 rfl dX5_layFewest_52 rfl ?_
        refine s_iload_n E 2 rfl dX5_layFewest_53 rfl ?_
        refine s_iconst E (v := (-1)) dX5_layFewest_54 ki_m1 ?_
        refine s_ixor E dX5_layFewest_55 ?_
        refine s_iand E dX5_layFewest_56 ?_
        obtain ⟨b14, h⟩ := chk_some h
        refine s_iald E (v := (σ 13 ((x1 &&& (y2 ^^^ (-1))).toNatClampNeg))) 13 gM_13 b14 rfl dX5_layFewest_57 ?_
        refine s_iconst E (v := 1) dX5_layFewest_58 ki_1 ?_
        refine s_iadd E dX5_layFewest_59 ?_
        refine s_goto E 65 dX5_layFewest_60 (by decide) ?_
        exact w_X5_layFewest_J65_35 E q σ x1 y2 ((σ 13 ((x1 &&& (y2 ^^^ (-1))).toNatClampNeg)) + 1) z _ (fun σ y2 h => ih σ y2 z h hK) hK h
noncomputable def f_X5_layFewest_J32_10 (σ : Nat → Nat → Int32) (t1 : Int32) (s1 : Int32) (s2 : Int32) (rec : (Nat → Nat → Int32) → Int32 → Option (Nat → Nat → Int32)) : Option (Nat → Nat → Int32) :=
  (chk s1 256 ((f_X5_layFewest_L35 t1 fuel (up2 σ 13 (s1.toNatClampNeg) s2) t1).bind fun u15 => (rec u15 (t1 + 1))))
set_option maxRecDepth 100000 in
set_option maxHeartbeats 4000000 in
theorem w_X5_layFewest_J32_10 (E : EV p s m args meth c dC dI cI cZ cX5_layFewest 4 RX5 none) (q : Nat → Nat) (σ : Nat → Nat → Int32) (t1 : Int32) (s1 : Int32) (s2 : Int32) (z : (Nat → Nat → Int32)) (rec : (Nat → Nat → Int32) → Int32 → Option (Nat → Nat → Int32)) (hrec : ∀ (σ : Nat → Nat → Int32) (y1 : Int32), rec σ y1 = some z → GG p l e rm_X5_layFewest s m args below meth c Q A dC dI 4 (wM cI cZ q σ) 10 [(0, .ref (q 0)), (1, .int y1)] []) (hK : GG p l e rm_X5_layFewest s m args below meth c Q A dC dI 4 (wM cI cZ q z) 107 [(0, .ref (q 0))] []) (h : f_X5_layFewest_J32_10 σ t1 s1 s2 rec = some z) : GG p l e rm_X5_layFewest s m args below meth c Q A dC dI 4 (wM cI cZ q σ) 32 [(0, .ref (q 0)), (1, .int t1)] [.int s2, .int s1, .ref (q 13)] := by
  unfold f_X5_layFewest_J32_10 at h
  obtain ⟨b5, h⟩ := chk_some h
  refine s_iast E (w' := (wM cI cZ q (up2 σ 13 (s1.toNatClampNeg) s2))) 13 gM_13 b5 aM_13 dX5_layFewest_32 ?_
  refine s_iload_n E 1 rfl dX5_layFewest_33 rfl ?_
  refine s_istore_n E (lv' := [(0, .ref (q 0)), (1, .int t1), (2, .int t1)]) dX5_layFewest_34 rfl rfl rfl rfl (by decide) ?_
  obtain ⟨u15, e15, h⟩ := bnd_some h
  refine w_X5_layFewest_L35 E q t1 fuel (up2 σ 13 (s1.toNatClampNeg) s2) t1 u15 e15 ?_
  refine s_iinc E (v := (t1 + 1)) (lv' := [(0, .ref (q 0)), (1, .int (t1 + 1))]) 1 rfl dX5_layFewest_101 ki_1 rfl rfl rfl rfl (by decide) ?_
  refine s_goto E 10 dX5_layFewest_104 (by decide) ?_
  exact hrec u15 (t1 + 1) h
noncomputable def f_X5_layFewest_L10 : Nat → (Nat → Nat → Int32) → Int32 → Option (Nat → Nat → Int32)
  | 0, _, _ => none
  | n + 1, σ, y1 =>
    (if 256 ≤ y1 then (some σ) else (if y1 = 0 then (f_X5_layFewest_J32_10 σ y1 y1 0 (f_X5_layFewest_L10 n)) else (f_X5_layFewest_J32_10 σ y1 y1 99 (f_X5_layFewest_L10 n))))
set_option maxRecDepth 100000 in
set_option maxHeartbeats 4000000 in
theorem w_X5_layFewest_L10 (E : EV p s m args meth c dC dI cI cZ cX5_layFewest 4 RX5 none) (q : Nat → Nat) : ∀ (n : Nat) (σ : Nat → Nat → Int32) (y1 : Int32) (z : (Nat → Nat → Int32)), f_X5_layFewest_L10 n σ y1 = some z → GG p l e rm_X5_layFewest s m args below meth c Q A dC dI 4 (wM cI cZ q z) 107 [(0, .ref (q 0))] [] → GG p l e rm_X5_layFewest s m args below meth c Q A dC dI 4 (wM cI cZ q σ) 10 [(0, .ref (q 0)), (1, .int y1)] [] := by
  intro n
  induction n with
  | zero =>
    intro σ y1 z h
    rw [f_X5_layFewest_L10] at h
    cases h
  | succ n ih =>
    intro σ y1 z h hK
    rw [f_X5_layFewest_L10] at h
    refine s_iload_n E 1 rfl dX5_layFewest_10 rfl ?_
    refine s_sipush E (v := 256) dX5_layFewest_11 ks_256 ?_
    refine s_icmp_ge E 107 dX5_layFewest_14 (by decide) (fun c3 => ?_) (fun c3 => ?_)
    · have h := (if_pos c3).symm.trans h
      refine s_sub E (lv' := [(0, .ref (q 0))]) [0] rfl ?_
      obtain rfl := Option.some.inj h
      exact hK
    · have h := (if_neg c3).symm.trans h
      refine s_aload_n E 0 rfl dX5_layFewest_17 rfl ?_
      refine s_get E (v := .ref (q 13)) 0 22 in_X5 gM_0 rfl (by decide) m_f_X5_47 rfl dX5_layFewest_18 ?_
      refine s_iload_n E 1 rfl dX5_layFewest_21 rfl ?_
      refine s_iload_n E 1 rfl dX5_layFewest_22 rfl ?_
      refine s_if_ne E 30 dX5_layFewest_23 (by decide) (fun c4 => ?_) (fun c4 => ?_)
      · have h := (if_pos c4).symm.trans h
        refine s_iconst E (v := 0) dX5_layFewest_26 ki_0 ?_
        refine s_goto E 32 dX5_layFewest_27 (by decide) ?_
        exact w_X5_layFewest_J32_10 E q σ y1 y1 0 z _ (fun σ y1 h => ih σ y1 z h hK) hK h
      · have h := (if_neg c4).symm.trans h
        refine s_bipush E (v := 99) dX5_layFewest_30 kb_99 ?_
        exact w_X5_layFewest_J32_10 E q σ y1 y1 99 z _ (fun σ y1 h => ih σ y1 z h hK) hK h
noncomputable def f_X5_layFewest (σ : Nat → Nat → Int32) : Option (Nat → Nat → Int32) :=
  ((f_X5_waiting σ).bind fun u1 => ((f_X5_layChoices σ u1).bind fun u2 => ((f_X5_layFewest_L10 fuel u2 0).bind fun u16 => (some u16))))
set_option maxRecDepth 100000 in
set_option maxHeartbeats 4000000 in
theorem c_X5_layFewest (q : Nat → Nat) (σ : Nat → Nat → Int32) (z : (Nat → Nat → Int32)) (h : f_X5_layFewest σ = some z) : CT l dC dI cI cZ A yX5_layFewest cX5_layFewest 4 none rm_X5_layFewest [.ref (q 0)] (wM cI cZ q σ) (wM cI cZ q z) none := by
  refine b_met (by decide) (Nat.le_of_ble_eq_true rfl) ?_
  intro p e s m below meth c E
  have E : EV p s m _ meth c dC dI cI cZ cX5_layFewest 4 RX5 none := E
  show GG p l e rm_X5_layFewest s m _ below meth c _ A dC dI 4 (wM cI cZ q σ) 0 [(0, .ref (q 0))] []
  unfold f_X5_layFewest at h
  refine s_aload_n E 0 rfl dX5_layFewest_0 rfl ?_
  refine s_aload_n E 0 rfl dX5_layFewest_1 rfl ?_
  obtain ⟨u1, e1, h⟩ := bnd_some h
  refine s_callVi E kf_X5_waiting m_l_X5_183 (c_X5_waiting q σ u1 e1) ⟨rfl, rfl, by decide, by decide⟩ (q0 := 0) rfl rfl rfl rfl rfl (Nat.le_of_ble_eq_true rfl) dX5_layFewest_2 ?_
  obtain ⟨u2, e2, h⟩ := bnd_some h
  refine s_callVv E kf_X5_layChoices m_l_X5_186 (c_X5_layChoices q σ u1 u2 e2) ⟨rfl, rfl, by decide, by decide⟩ (q0 := 0) rfl rfl rfl rfl rfl (Nat.le_of_ble_eq_true rfl) dX5_layFewest_5 ?_
  refine s_iconst E (v := 0) dX5_layFewest_8 ki_0 ?_
  refine s_istore_n E (lv' := [(0, .ref (q 0)), (1, .int 0)]) dX5_layFewest_9 rfl rfl rfl rfl (by decide) ?_
  obtain ⟨u16, e16, h⟩ := bnd_some h
  refine w_X5_layFewest_L10 E q fuel u2 0 u16 e16 ?_
  obtain rfl := Option.some.inj h
  exact s_vret E rfl dX5_layFewest_107
end
abbrev rm_X5_crossings : Room := { frames := 6, cells := 0, slots := 0, locals := 147 }
section
noncomputable def f_X5_crossings_L23 (σ : Nat → Nat → Int32) (x1 : Int32) : Nat → Int32 → Int32 → Option Int32
  | 0, _, _ => none
  | n + 1, y2, y3 =>
    (if 256 ≤ y3 then (some y2) else (chk y3 256 (if x1 < (σ 13 (y3.toNatClampNeg)) then (f_X5_crossings_L23 σ x1 n y2 (y3 + 1)) else ((f_X5_fares σ y3).bind fun u6 => (if u6 ≤ y2 then (f_X5_crossings_L23 σ x1 n y2 (y3 + 1)) else ((f_X5_fares σ y3).bind fun u8 => (f_X5_crossings_L23 σ x1 n u8 (y3 + 1))))))))
set_option maxRecDepth 100000 in
set_option maxHeartbeats 4000000 in
theorem w_X5_crossings_L23 (E : EV p s m args meth c dC dI cI cZ cX5_crossings 4 RX5 (some .int)) (q : Nat → Nat) (σ : Nat → Nat → Int32) (x1 : Int32) : ∀ (n : Nat) (y2 y3 : Int32) (z : Int32), f_X5_crossings_L23 σ x1 n y2 y3 = some z → GG p l e rm_X5_crossings s m args below meth c Q A dC dI 4 (wM cI cZ q σ) 65 [(0, .ref (q 0)), (1, .int x1), (2, .int z)] [] → GG p l e rm_X5_crossings s m args below meth c Q A dC dI 4 (wM cI cZ q σ) 23 [(0, .ref (q 0)), (1, .int x1), (2, .int y2), (3, .int y3)] [] := by
  intro n
  induction n with
  | zero =>
    intro y2 y3 z h
    rw [f_X5_crossings_L23] at h
    cases h
  | succ n ih =>
    intro y2 y3 z h hK
    rw [f_X5_crossings_L23] at h
    refine s_iload_n E 3 rfl dX5_crossings_23 rfl ?_
    refine s_sipush E (v := 256) dX5_crossings_24 ks_256 ?_
    refine s_icmp_ge E 65 dX5_crossings_27 (by decide) (fun c3 => ?_) (fun c3 => ?_)
    · have h := (if_pos c3).symm.trans h
      refine s_sub E (lv' := [(0, .ref (q 0)), (1, .int x1), (2, .int y2)]) [0, 1, 2] rfl ?_
      obtain rfl := Option.some.inj h
      exact hK
    · have h := (if_neg c3).symm.trans h
      refine s_aload_n E 0 rfl dX5_crossings_30 rfl ?_
      refine s_get E (v := .ref (q 13)) 0 22 in_X5 gM_0 rfl (by decide) m_f_X5_47 rfl dX5_crossings_31 ?_
      refine s_iload_n E 3 rfl dX5_crossings_34 rfl ?_
      obtain ⟨b4, h⟩ := chk_some h
      refine s_iald E (v := (σ 13 (y3.toNatClampNeg))) 13 gM_13 b4 rfl dX5_crossings_35 ?_
      refine s_iload_n E 1 rfl dX5_crossings_36 rfl ?_
      refine s_icmp_gt E 57 dX5_crossings_37 (by decide) (fun c5 => ?_) (fun c5 => ?_)
      · have h := (if_pos c5).symm.trans h
        refine s_iload_n E 2 rfl dX5_crossings_57 rfl ?_
        refine s_istore_n E (lv' := [(0, .ref (q 0)), (1, .int x1), (2, .int y2), (3, .int y3)]) dX5_crossings_58 rfl rfl rfl rfl (by decide) ?_
        refine s_iinc E (v := (y3 + 1)) (lv' := [(0, .ref (q 0)), (1, .int x1), (2, .int y2), (3, .int (y3 + 1))]) 3 rfl dX5_crossings_59 ki_1 rfl rfl rfl rfl (by decide) ?_
        refine s_goto E 23 dX5_crossings_62 (by decide) ?_
        exact ih y2 (y3 + 1) z h hK
      · have h := (if_neg c5).symm.trans h
        refine s_aload_n E 0 rfl dX5_crossings_40 rfl ?_
        refine s_iload_n E 3 rfl dX5_crossings_41 rfl ?_
        obtain ⟨u6, e6, h⟩ := bnd_some h
        refine s_callVi E kf_X5_fares m_l_X5_154 (c_X5_fares q σ y3 u6 e6) ⟨rfl, rfl, by decide, by decide⟩ (q0 := 0) rfl rfl rfl rfl rfl (Nat.le_of_ble_eq_true rfl) dX5_crossings_42 ?_
        refine s_iload_n E 2 rfl dX5_crossings_45 rfl ?_
        refine s_icmp_le E 57 dX5_crossings_46 (by decide) (fun c7 => ?_) (fun c7 => ?_)
        · have h := (if_pos c7).symm.trans h
          refine s_iload_n E 2 rfl dX5_crossings_57 rfl ?_
          refine s_istore_n E (lv' := [(0, .ref (q 0)), (1, .int x1), (2, .int y2), (3, .int y3)]) dX5_crossings_58 rfl rfl rfl rfl (by decide) ?_
          refine s_iinc E (v := (y3 + 1)) (lv' := [(0, .ref (q 0)), (1, .int x1), (2, .int y2), (3, .int (y3 + 1))]) 3 rfl dX5_crossings_59 ki_1 rfl rfl rfl rfl (by decide) ?_
          refine s_goto E 23 dX5_crossings_62 (by decide) ?_
          exact ih y2 (y3 + 1) z h hK
        · have h := (if_neg c7).symm.trans h
          refine s_aload_n E 0 rfl dX5_crossings_49 rfl ?_
          refine s_iload_n E 3 rfl dX5_crossings_50 rfl ?_
          obtain ⟨u8, e8, h⟩ := bnd_some h
          refine s_callVi E kf_X5_fares m_l_X5_154 (c_X5_fares q σ y3 u8 e8) ⟨rfl, rfl, by decide, by decide⟩ (q0 := 0) rfl rfl rfl rfl rfl (Nat.le_of_ble_eq_true rfl) dX5_crossings_51 ?_
          refine s_goto E 58 dX5_crossings_54 (by decide) ?_
          refine s_istore_n E (lv' := [(0, .ref (q 0)), (1, .int x1), (2, .int u8), (3, .int y3)]) dX5_crossings_58 rfl rfl rfl rfl (by decide) ?_
          refine s_iinc E (v := (y3 + 1)) (lv' := [(0, .ref (q 0)), (1, .int x1), (2, .int u8), (3, .int (y3 + 1))]) 3 rfl dX5_crossings_59 ki_1 rfl rfl rfl rfl (by decide) ?_
          refine s_goto E 23 dX5_crossings_62 (by decide) ?_
          exact ih u8 (y3 + 1) z h hK
noncomputable def f_X5_crossings (σ : Nat → Nat → Int32) (x1 : Int32) : Option (Int32 × (Nat → Nat → Int32)) :=
  (if (f_X5_in x1.toInt64 (1 : Int64) (4 : Int64)) = 0 then (some ((-2), σ)) else ((f_X5_layFewest σ).bind fun u2 => ((f_X5_crossings_L23 u2 x1 fuel 0 0).bind fun u9 => (some (u9, u2)))))
set_option maxRecDepth 100000 in
set_option maxHeartbeats 4000000 in
theorem c_X5_crossings (q : Nat → Nat) (σ : Nat → Nat → Int32) (x1 : Int32) (z : (Int32 × (Nat → Nat → Int32))) (h : f_X5_crossings σ x1 = some z) : CT l dC dI cI cZ A yX5_crossings cX5_crossings 4 (some .int) rm_X5_crossings [.ref (q 0), .int x1] (wM cI cZ q σ) (wM cI cZ q z.2) (some (.int z.1)) := by
  refine b_met (by decide) (Nat.le_of_ble_eq_true rfl) ?_
  intro p e s m below meth c E
  have E : EV p s m _ meth c dC dI cI cZ cX5_crossings 4 RX5 (some .int) := E
  show GG p l e rm_X5_crossings s m _ below meth c _ A dC dI 4 (wM cI cZ q σ) 0 [(0, .ref (q 0)), (1, .int x1)] []
  unfold f_X5_crossings at h
  refine s_iload_n E 1 rfl dX5_crossings_0 rfl ?_
  refine s_i2l E dX5_crossings_1 ?_
  refine s_lconst E (v := 1) dX5_crossings_2 (by decide) ?_
  refine s_ldc2 E (v := (4)) m_c_X5_108 dX5_crossings_3 ?_
  refine s_callSi E kf_X5_in m_l_X5_70 (c_X5_in (wM cI cZ q σ) x1.toInt64 (1 : Int64) (4 : Int64)) ⟨rfl, rfl, by decide, by decide⟩ rfl rfl (Nat.le_of_ble_eq_true rfl) dX5_crossings_6 ?_
  refine s_if_ne E 15 dX5_crossings_9 (by decide) (fun c1 => ?_) (fun c1 => ?_)
  · have h := (if_pos c1).symm.trans h
    refine s_bipush E (v := (-2)) dX5_crossings_12 kb_m2 ?_
    obtain rfl := Option.some.inj h
    exact s_iret E rfl rfl dX5_crossings_14
  · have h := (if_neg c1).symm.trans h
    refine s_aload_n E 0 rfl dX5_crossings_15 rfl ?_
    obtain ⟨u2, e2, h⟩ := bnd_some h
    refine s_callVv E kf_X5_layFewest m_l_X5_192 (c_X5_layFewest q σ u2 e2) ⟨rfl, rfl, by decide, by decide⟩ (q0 := 0) rfl rfl rfl rfl rfl (Nat.le_of_ble_eq_true rfl) dX5_crossings_16 ?_
    refine s_iconst E (v := 0) dX5_crossings_19 ki_0 ?_
    refine s_istore_n E (lv' := [(0, .ref (q 0)), (1, .int x1), (2, .int 0)]) dX5_crossings_20 rfl rfl rfl rfl (by decide) ?_
    refine s_iconst E (v := 0) dX5_crossings_21 ki_0 ?_
    refine s_istore_n E (lv' := [(0, .ref (q 0)), (1, .int x1), (2, .int 0), (3, .int 0)]) dX5_crossings_22 rfl rfl rfl rfl (by decide) ?_
    obtain ⟨u9, e9, h⟩ := bnd_some h
    refine w_X5_crossings_L23 E q u2 x1 fuel 0 0 u9 e9 ?_
    refine s_iload_n E 2 rfl dX5_crossings_65 rfl ?_
    obtain rfl := Option.some.inj h
    exact s_iret E rfl rfl dX5_crossings_66
end
abbrev rm_X5_all : Room := { frames := 6, cells := 0, slots := 0, locals := 147 }
section
noncomputable def f_X5_all (σ : Nat → Nat → Int32) : Option (Int32 × (Nat → Nat → Int32)) :=
  ((f_X5_layFewest σ).bind fun u1 => ((f_X5_waiting u1).bind fun u2 => (chk u2 256 (if 99 ≤ (u1 13 (u2.toNatClampNeg)) then (some ((-9), u1)) else ((f_X5_waiting u1).bind fun u5 => (chk u5 256 (some ((u1 13 (u5.toNatClampNeg)), u1))))))))
set_option maxRecDepth 100000 in
set_option maxHeartbeats 4000000 in
theorem c_X5_all (q : Nat → Nat) (σ : Nat → Nat → Int32) (z : (Int32 × (Nat → Nat → Int32))) (h : f_X5_all σ = some z) : CT l dC dI cI cZ A yX5_all cX5_all 1 (some .int) rm_X5_all [.ref (q 0)] (wM cI cZ q σ) (wM cI cZ q z.2) (some (.int z.1)) := by
  refine b_met (by decide) (Nat.le_of_ble_eq_true rfl) ?_
  intro p e s m below meth c E
  have E : EV p s m _ meth c dC dI cI cZ cX5_all 1 RX5 (some .int) := E
  show GG p l e rm_X5_all s m _ below meth c _ A dC dI 1 (wM cI cZ q σ) 0 [(0, .ref (q 0))] []
  unfold f_X5_all at h
  refine s_aload_n E 0 rfl dX5_all_0 rfl ?_
  obtain ⟨u1, e1, h⟩ := bnd_some h
  refine s_callVv E kf_X5_layFewest m_l_X5_192 (c_X5_layFewest q σ u1 e1) ⟨rfl, rfl, by decide, by decide⟩ (q0 := 0) rfl rfl rfl rfl rfl (Nat.le_of_ble_eq_true rfl) dX5_all_1 ?_
  refine s_aload_n E 0 rfl dX5_all_4 rfl ?_
  refine s_get E (v := .ref (q 13)) 0 22 in_X5 gM_0 rfl (by decide) m_f_X5_47 rfl dX5_all_5 ?_
  refine s_aload_n E 0 rfl dX5_all_8 rfl ?_
  obtain ⟨u2, e2, h⟩ := bnd_some h
  refine s_callVi E kf_X5_waiting m_l_X5_183 (c_X5_waiting q u1 u2 e2) ⟨rfl, rfl, by decide, by decide⟩ (q0 := 0) rfl rfl rfl rfl rfl (Nat.le_of_ble_eq_true rfl) dX5_all_9 ?_
  obtain ⟨b3, h⟩ := chk_some h
  refine s_iald E (v := (u1 13 (u2.toNatClampNeg))) 13 gM_13 b3 rfl dX5_all_12 ?_
  refine s_bipush E (v := 99) dX5_all_13 kb_99 ?_
  refine s_icmp_ge E 30 dX5_all_15 (by decide) (fun c4 => ?_) (fun c4 => ?_)
  · have h := (if_pos c4).symm.trans h
    refine s_bipush E (v := (-9)) dX5_all_30 kb_m9 ?_
    obtain rfl := Option.some.inj h
    exact s_iret E rfl rfl dX5_all_32
  · have h := (if_neg c4).symm.trans h
    refine s_aload_n E 0 rfl dX5_all_18 rfl ?_
    refine s_get E (v := .ref (q 13)) 0 22 in_X5 gM_0 rfl (by decide) m_f_X5_47 rfl dX5_all_19 ?_
    refine s_aload_n E 0 rfl dX5_all_22 rfl ?_
    obtain ⟨u5, e5, h⟩ := bnd_some h
    refine s_callVi E kf_X5_waiting m_l_X5_183 (c_X5_waiting q u1 u5 e5) ⟨rfl, rfl, by decide, by decide⟩ (q0 := 0) rfl rfl rfl rfl rfl (Nat.le_of_ble_eq_true rfl) dX5_all_23 ?_
    obtain ⟨b6, h⟩ := chk_some h
    refine s_iald E (v := (u1 13 (u5.toNatClampNeg))) 13 gM_13 b6 rfl dX5_all_26 ?_
    refine s_goto E 32 dX5_all_27 (by decide) ?_
    obtain rfl := Option.some.inj h
    exact s_iret E rfl rfl dX5_all_32
end
abbrev rm_X5_layRule : Room := { frames := 2, cells := 0, slots := 0, locals := 50 }
section
noncomputable def f_X5_layRule_J161_39 (t3 : Int32) (t4 : Int32) (t5 : Int32) (t6 : Int32) (s0 : Int32) (rec : Int32 → Int32 → Int32 → Option Int32) : Option Int32 :=
  (if t6 = 0 then (rec s0 t3 (t4 + 1)) else (rec s0 t5 (t4 + 1)))
set_option maxRecDepth 100000 in
set_option maxHeartbeats 4000000 in
theorem w_X5_layRule_J161_39 (E : EV p s m args meth c dC dI cI cZ cX5_layRule 7 RX5 none) (q : Nat → Nat) (σ : Nat → Nat → Int32) (x1 : Int32) (t2 : Int32) (t3 : Int32) (t4 : Int32) (t5 : Int32) (t6 : Int32) (s0 : Int32) (z : Int32) (rec : Int32 → Int32 → Int32 → Option Int32) (hrec : ∀ (y2 y3 y4 : Int32), rec y2 y3 y4 = some z → GG p l e rm_X5_layRule s m args below meth c Q A dC dI 7 (wM cI cZ q σ) 39 [(0, .ref (q 0)), (1, .int x1), (2, .int y2), (3, .int y3), (4, .int y4)] []) (hK : GG p l e rm_X5_layRule s m args below meth c Q A dC dI 7 (wM cI cZ q σ) 180 [(0, .ref (q 0)), (1, .int x1), (2, .int z)] []) (h : f_X5_layRule_J161_39 t3 t4 t5 t6 s0 rec = some z) : GG p l e rm_X5_layRule s m args below meth c Q A dC dI 7 (wM cI cZ q σ) 161 [(0, .ref (q 0)), (1, .int x1), (2, .int t2), (3, .int t3), (4, .int t4), (5, .int t5), (6, .int t6)] [.int s0] := by
  unfold f_X5_layRule_J161_39 at h
  refine s_istore_n E (lv' := [(0, .ref (q 0)), (1, .int x1), (2, .int s0), (3, .int t3), (4, .int t4), (5, .int t5), (6, .int t6)]) dX5_layRule_161 rfl rfl rfl rfl (by decide) ?_
  refine s_iload E 6 rfl dX5_layRule_162 ?_
  refine s_if_eq E 172 dX5_layRule_164 (by decide) (fun c11 => ?_) (fun c11 => ?_)
  · have h := (if_pos c11).symm.trans h
    refine s_iload_n E 3 rfl dX5_layRule_172 rfl ?_
    refine s_istore_n E (lv' := [(0, .ref (q 0)), (1, .int x1), (2, .int s0), (3, .int t3), (4, .int t4), (5, .int t5), (6, .int t6)]) dX5_layRule_173 rfl rfl rfl rfl (by decide) ?_
    refine s_iinc E (v := (t4 + 1)) (lv' := [(0, .ref (q 0)), (1, .int x1), (2, .int s0), (3, .int t3), (4, .int (t4 + 1)), (5, .int t5), (6, .int t6)]) 4 rfl dX5_layRule_174 ki_1 rfl rfl rfl rfl (by decide) ?_
    refine s_goto E 39 dX5_layRule_177 (by decide) ?_
    refine s_sub E (lv' := [(0, .ref (q 0)), (1, .int x1), (2, .int s0), (3, .int t3), (4, .int (t4 + 1))]) [0, 1, 2, 3, 4] rfl ?_
    exact hrec s0 t3 (t4 + 1) h
  · have h := (if_neg c11).symm.trans h
    refine s_iload E 5 rfl dX5_layRule_167 ?_
    refine s_goto E 173 dX5_layRule_169 (by decide) ?_
    refine s_istore_n E (lv' := [(0, .ref (q 0)), (1, .int x1), (2, .int s0), (3, .int t5), (4, .int t4), (5, .int t5), (6, .int t6)]) dX5_layRule_173 rfl rfl rfl rfl (by decide) ?_
    refine s_iinc E (v := (t4 + 1)) (lv' := [(0, .ref (q 0)), (1, .int x1), (2, .int s0), (3, .int t5), (4, .int (t4 + 1)), (5, .int t5), (6, .int t6)]) 4 rfl dX5_layRule_174 ki_1 rfl rfl rfl rfl (by decide) ?_
    refine s_goto E 39 dX5_layRule_177 (by decide) ?_
    refine s_sub E (lv' := [(0, .ref (q 0)), (1, .int x1), (2, .int s0), (3, .int t5), (4, .int (t4 + 1))]) [0, 1, 2, 3, 4] rfl ?_
    exact hrec s0 t5 (t4 + 1) h
noncomputable def f_X5_layRule_J148_39 (t2 : Int32) (t3 : Int32) (t4 : Int32) (t5 : Int32) (s0 : Int32) (rec : Int32 → Int32 → Int32 → Option Int32) : Option Int32 :=
  (if s0 = 0 then (f_X5_layRule_J161_39 t3 t4 t5 s0 t2 rec) else (f_X5_layRule_J161_39 t3 t4 t5 s0 t4 rec))
set_option maxRecDepth 100000 in
set_option maxHeartbeats 4000000 in
theorem w_X5_layRule_J148_39 (E : EV p s m args meth c dC dI cI cZ cX5_layRule 7 RX5 none) (q : Nat → Nat) (σ : Nat → Nat → Int32) (x1 : Int32) (t2 : Int32) (t3 : Int32) (t4 : Int32) (t5 : Int32) (s0 : Int32) (z : Int32) (rec : Int32 → Int32 → Int32 → Option Int32) (hrec : ∀ (y2 y3 y4 : Int32), rec y2 y3 y4 = some z → GG p l e rm_X5_layRule s m args below meth c Q A dC dI 7 (wM cI cZ q σ) 39 [(0, .ref (q 0)), (1, .int x1), (2, .int y2), (3, .int y3), (4, .int y4)] []) (hK : GG p l e rm_X5_layRule s m args below meth c Q A dC dI 7 (wM cI cZ q σ) 180 [(0, .ref (q 0)), (1, .int x1), (2, .int z)] []) (h : f_X5_layRule_J148_39 t2 t3 t4 t5 s0 rec = some z) : GG p l e rm_X5_layRule s m args below meth c Q A dC dI 7 (wM cI cZ q σ) 148 [(0, .ref (q 0)), (1, .int x1), (2, .int t2), (3, .int t3), (4, .int t4), (5, .int t5)] [.int s0] := by
  unfold f_X5_layRule_J148_39 at h
  refine s_istore E (lv' := [(0, .ref (q 0)), (1, .int x1), (2, .int t2), (3, .int t3), (4, .int t4), (5, .int t5), (6, .int s0)]) dX5_layRule_148 rfl rfl rfl (by decide) ?_
  refine s_iload E 6 rfl dX5_layRule_150 ?_
  refine s_if_eq E 160 dX5_layRule_152 (by decide) (fun c10 => ?_) (fun c10 => ?_)
  · have h := (if_pos c10).symm.trans h
    refine s_iload_n E 2 rfl dX5_layRule_160 rfl ?_
    exact w_X5_layRule_J161_39 E q σ x1 t2 t3 t4 t5 s0 t2 z rec hrec hK h
  · have h := (if_neg c10).symm.trans h
    refine s_iload E 4 rfl dX5_layRule_155 ?_
    refine s_goto E 161 dX5_layRule_157 (by decide) ?_
    exact w_X5_layRule_J161_39 E q σ x1 t2 t3 t4 t5 s0 t4 z rec hrec hK h
noncomputable def f_X5_layRule_J147_39 (t2 : Int32) (t3 : Int32) (t4 : Int32) (t5 : Int32) (rec : Int32 → Int32 → Int32 → Option Int32) : Option Int32 :=
  (f_X5_layRule_J148_39 t2 t3 t4 t5 0 rec)
set_option maxRecDepth 100000 in
set_option maxHeartbeats 4000000 in
theorem w_X5_layRule_J147_39 (E : EV p s m args meth c dC dI cI cZ cX5_layRule 7 RX5 none) (q : Nat → Nat) (σ : Nat → Nat → Int32) (x1 : Int32) (t2 : Int32) (t3 : Int32) (t4 : Int32) (t5 : Int32) (z : Int32) (rec : Int32 → Int32 → Int32 → Option Int32) (hrec : ∀ (y2 y3 y4 : Int32), rec y2 y3 y4 = some z → GG p l e rm_X5_layRule s m args below meth c Q A dC dI 7 (wM cI cZ q σ) 39 [(0, .ref (q 0)), (1, .int x1), (2, .int y2), (3, .int y3), (4, .int y4)] []) (hK : GG p l e rm_X5_layRule s m args below meth c Q A dC dI 7 (wM cI cZ q σ) 180 [(0, .ref (q 0)), (1, .int x1), (2, .int z)] []) (h : f_X5_layRule_J147_39 t2 t3 t4 t5 rec = some z) : GG p l e rm_X5_layRule s m args below meth c Q A dC dI 7 (wM cI cZ q σ) 147 [(0, .ref (q 0)), (1, .int x1), (2, .int t2), (3, .int t3), (4, .int t4), (5, .int t5)] [] := by
  unfold f_X5_layRule_J147_39 at h
  refine s_iconst E (v := 0) dX5_layRule_147 ki_0 ?_
  exact w_X5_layRule_J148_39 E q σ x1 t2 t3 t4 t5 0 z rec hrec hK h
noncomputable def f_X5_layRule_J143_39 (t2 : Int32) (t3 : Int32) (t4 : Int32) (t5 : Int32) (rec : Int32 → Int32 → Int32 → Option Int32) : Option Int32 :=
  (f_X5_layRule_J148_39 t2 t3 t4 t5 1 rec)
set_option maxRecDepth 100000 in
set_option maxHeartbeats 4000000 in
theorem w_X5_layRule_J143_39 (E : EV p s m args meth c dC dI cI cZ cX5_layRule 7 RX5 none) (q : Nat → Nat) (σ : Nat → Nat → Int32) (x1 : Int32) (t2 : Int32) (t3 : Int32) (t4 : Int32) (t5 : Int32) (z : Int32) (rec : Int32 → Int32 → Int32 → Option Int32) (hrec : ∀ (y2 y3 y4 : Int32), rec y2 y3 y4 = some z → GG p l e rm_X5_layRule s m args below meth c Q A dC dI 7 (wM cI cZ q σ) 39 [(0, .ref (q 0)), (1, .int x1), (2, .int y2), (3, .int y3), (4, .int y4)] []) (hK : GG p l e rm_X5_layRule s m args below meth c Q A dC dI 7 (wM cI cZ q σ) 180 [(0, .ref (q 0)), (1, .int x1), (2, .int z)] []) (h : f_X5_layRule_J143_39 t2 t3 t4 t5 rec = some z) : GG p l e rm_X5_layRule s m args below meth c Q A dC dI 7 (wM cI cZ q σ) 143 [(0, .ref (q 0)), (1, .int x1), (2, .int t2), (3, .int t3), (4, .int t4), (5, .int t5)] [] := by
  unfold f_X5_layRule_J143_39 at h
  refine s_iconst E (v := 1) dX5_layRule_143 ki_1 ?_
  refine s_goto E 148 dX5_layRule_144 (by decide) ?_
  exact w_X5_layRule_J148_39 E q σ x1 t2 t3 t4 t5 1 z rec hrec hK h
noncomputable def f_X5_layRule_J99_39 (σ : Nat → Nat → Int32) (x1 : Int32) (t2 : Int32) (t3 : Int32) (t4 : Int32) (s0 : Int32) (s1 : Int32) (rec : Int32 → Int32 → Int32 → Option Int32) : Option Int32 :=
  ((f_X5_willSit σ x1 t4).bind fun u8 => (if u8 = 0 then (f_X5_layRule_J147_39 t2 t3 t4 (s0 * s1) rec) else (chk t4 3 ((f_X5_ones (σ 10 (t4.toNatClampNeg))).bind fun u13 => (if (σ 3 3) ≤ u13 then (f_X5_layRule_J147_39 t2 t3 t4 (s0 * s1) rec) else (if t2 = (-9) then (f_X5_layRule_J143_39 t2 t3 t4 (s0 * s1) rec) else (if t3 ≤ (s0 * s1) then (f_X5_layRule_J147_39 t2 t3 t4 (s0 * s1) rec) else (f_X5_layRule_J143_39 t2 t3 t4 (s0 * s1) rec))))))))
set_option maxRecDepth 100000 in
set_option maxHeartbeats 4000000 in
theorem w_X5_layRule_J99_39 (E : EV p s m args meth c dC dI cI cZ cX5_layRule 7 RX5 none) (q : Nat → Nat) (σ : Nat → Nat → Int32) (x1 : Int32) (t2 : Int32) (t3 : Int32) (t4 : Int32) (s0 : Int32) (s1 : Int32) (z : Int32) (rec : Int32 → Int32 → Int32 → Option Int32) (hrec : ∀ (y2 y3 y4 : Int32), rec y2 y3 y4 = some z → GG p l e rm_X5_layRule s m args below meth c Q A dC dI 7 (wM cI cZ q σ) 39 [(0, .ref (q 0)), (1, .int x1), (2, .int y2), (3, .int y3), (4, .int y4)] []) (hK : GG p l e rm_X5_layRule s m args below meth c Q A dC dI 7 (wM cI cZ q σ) 180 [(0, .ref (q 0)), (1, .int x1), (2, .int z)] []) (h : f_X5_layRule_J99_39 σ x1 t2 t3 t4 s0 s1 rec = some z) : GG p l e rm_X5_layRule s m args below meth c Q A dC dI 7 (wM cI cZ q σ) 99 [(0, .ref (q 0)), (1, .int x1), (2, .int t2), (3, .int t3), (4, .int t4)] [.int s1, .int s0] := by
  unfold f_X5_layRule_J99_39 at h
  refine s_imul E dX5_layRule_99 ?_
  refine s_istore E (lv' := [(0, .ref (q 0)), (1, .int x1), (2, .int t2), (3, .int t3), (4, .int t4), (5, .int (s0 * s1))]) dX5_layRule_100 rfl rfl rfl (by decide) ?_
  refine s_aload_n E 0 rfl dX5_layRule_102 rfl ?_
  refine s_iload_n E 1 rfl dX5_layRule_103 rfl ?_
  refine s_iload E 4 rfl dX5_layRule_104 ?_
  obtain ⟨u8, e8, h⟩ := bnd_some h
  refine s_callVi E kf_X5_willSit m_l_X5_121 (c_X5_willSit q σ x1 t4 u8 e8) ⟨rfl, rfl, by decide, by decide⟩ (q0 := 0) rfl rfl rfl rfl rfl (Nat.le_of_ble_eq_true rfl) dX5_layRule_106 ?_
  refine s_if_eq E 147 dX5_layRule_109 (by decide) (fun c9 => ?_) (fun c9 => ?_)
  · have h := (if_pos c9).symm.trans h
    exact w_X5_layRule_J147_39 E q σ x1 t2 t3 t4 (s0 * s1) z rec hrec hK h
  · have h := (if_neg c9).symm.trans h
    refine s_aload_n E 0 rfl dX5_layRule_112 rfl ?_
    refine s_get E (v := .ref (q 10)) 0 16 in_X5 gM_0 rfl (by decide) m_f_X5_37 rfl dX5_layRule_113 ?_
    refine s_iload E 4 rfl dX5_layRule_116 ?_
    obtain ⟨b12, h⟩ := chk_some h
    refine s_iald E (v := (σ 10 (t4.toNatClampNeg))) 10 gM_10 b12 rfl dX5_layRule_118 ?_
    obtain ⟨u13, e13, h⟩ := bnd_some h
    refine s_callSi E kf_X5_ones m_l_X5_128 (c_X5_ones (wM cI cZ q σ) (σ 10 (t4.toNatClampNeg)) u13 e13) ⟨rfl, rfl, by decide, by decide⟩ rfl rfl (Nat.le_of_ble_eq_true rfl) dX5_layRule_119 ?_
    refine s_aload_n E 0 rfl dX5_layRule_122 rfl ?_
    refine s_get E (v := .ref (q 3)) 0 3 in_X5 gM_0 rfl (by decide) m_f_X5_16 rfl dX5_layRule_123 ?_
    refine s_iconst E (v := 3) dX5_layRule_126 ki_3 ?_
    refine s_iald E (i := 3) (v := (σ 3 3)) 3 gM_3 vin_3_5 rfl dX5_layRule_127 ?_
    refine s_icmp_ge E 147 dX5_layRule_128 (by decide) (fun c14 => ?_) (fun c14 => ?_)
    · have h := (if_pos c14).symm.trans h
      exact w_X5_layRule_J147_39 E q σ x1 t2 t3 t4 (s0 * s1) z rec hrec hK h
    · have h := (if_neg c14).symm.trans h
      refine s_iload_n E 2 rfl dX5_layRule_131 rfl ?_
      refine s_bipush E (v := (-9)) dX5_layRule_132 kb_m9 ?_
      refine s_icmp_eq E 143 dX5_layRule_134 (by decide) (fun c15 => ?_) (fun c15 => ?_)
      · have h := (if_pos c15).symm.trans h
        exact w_X5_layRule_J143_39 E q σ x1 t2 t3 t4 (s0 * s1) z rec hrec hK h
      · have h := (if_neg c15).symm.trans h
        refine s_iload E 5 rfl dX5_layRule_137 ?_
        refine s_iload_n E 3 rfl dX5_layRule_139 rfl ?_
        refine s_icmp_ge E 147 dX5_layRule_140 (by decide) (fun c16 => ?_) (fun c16 => ?_)
        · have h := (if_pos c16).symm.trans h
          exact w_X5_layRule_J147_39 E q σ x1 t2 t3 t4 (s0 * s1) z rec hrec hK h
        · have h := (if_neg c16).symm.trans h
          exact w_X5_layRule_J143_39 E q σ x1 t2 t3 t4 (s0 * s1) z rec hrec hK h
noncomputable def f_X5_layRule_L39 (σ : Nat → Nat → Int32) (x1 : Int32) : Nat → Int32 → Int32 → Int32 → Option Int32
  | 0, _, _, _ => none
  | n + 1, y2, y3, y4 =>
    (if (σ 3 0) ≤ y4 then (some y2) else (chk x1 8 (if (σ 7 (x1.toNatClampNeg)) = 20 then (some y2) else (chk y4 3 ((f_X5_heavy σ (σ 10 (y4.toNatClampNeg)) y4 0 0).bind fun u6 => (if (σ 3 0) = 3 then (f_X5_layRule_J99_39 σ x1 y2 y3 y4 u6 1 (f_X5_layRule_L39 σ x1 n)) else (chk (1 + y4) 5 (f_X5_layRule_J99_39 σ x1 y2 y3 y4 u6 (σ 3 ((1 + y4).toNatClampNeg)) (f_X5_layRule_L39 σ x1 n)))))))))
set_option maxRecDepth 100000 in
set_option maxHeartbeats 4000000 in
theorem w_X5_layRule_L39 (E : EV p s m args meth c dC dI cI cZ cX5_layRule 7 RX5 none) (q : Nat → Nat) (σ : Nat → Nat → Int32) (x1 : Int32) : ∀ (n : Nat) (y2 y3 y4 : Int32) (z : Int32), f_X5_layRule_L39 σ x1 n y2 y3 y4 = some z → GG p l e rm_X5_layRule s m args below meth c Q A dC dI 7 (wM cI cZ q σ) 180 [(0, .ref (q 0)), (1, .int x1), (2, .int z)] [] → GG p l e rm_X5_layRule s m args below meth c Q A dC dI 7 (wM cI cZ q σ) 39 [(0, .ref (q 0)), (1, .int x1), (2, .int y2), (3, .int y3), (4, .int y4)] [] := by
  intro n
  induction n with
  | zero =>
    intro y2 y3 y4 z h
    rw [f_X5_layRule_L39] at h
    cases h
  | succ n ih =>
    intro y2 y3 y4 z h hK
    rw [f_X5_layRule_L39] at h
    refine s_iload E 4 rfl dX5_layRule_39 ?_
    refine s_aload_n E 0 rfl dX5_layRule_41 rfl ?_
    refine s_get E (v := .ref (q 3)) 0 3 in_X5 gM_0 rfl (by decide) m_f_X5_16 rfl dX5_layRule_42 ?_
    refine s_iconst E (v := 0) dX5_layRule_45 ki_0 ?_
    refine s_iald E (i := 0) (v := (σ 3 0)) 3 gM_3 vin_0_5 rfl dX5_layRule_46 ?_
    refine s_icmp_ge E 180 dX5_layRule_47 (by decide) (fun c2 => ?_) (fun c2 => ?_)
    · have h := (if_pos c2).symm.trans h
      refine s_sub E (lv' := [(0, .ref (q 0)), (1, .int x1), (2, .int y2)]) [0, 1, 2] rfl ?_
      obtain rfl := Option.some.inj h
      exact hK
    · have h := (if_neg c2).symm.trans h
      refine s_aload_n E 0 rfl dX5_layRule_50 rfl ?_
      refine s_get E (v := .ref (q 7)) 0 8 in_X5 gM_0 rfl (by decide) m_f_X5_28 rfl dX5_layRule_51 ?_
      refine s_iload_n E 1 rfl dX5_layRule_54 rfl ?_
      obtain ⟨b3, h⟩ := chk_some h
      refine s_iald E (v := (σ 7 (x1.toNatClampNeg))) 7 gM_7 b3 rfl dX5_layRule_55 ?_
      refine s_bipush E (v := 20) dX5_layRule_56 kb_20 ?_
      refine s_icmp_eq E 180 dX5_layRule_58 (by decide) (fun c4 => ?_) (fun c4 => ?_)
      · have h := (if_pos c4).symm.trans h
        refine s_sub E (lv' := [(0, .ref (q 0)), (1, .int x1), (2, .int y2)]) [0, 1, 2] rfl ?_
        obtain rfl := Option.some.inj h
        exact hK
      · have h := (if_neg c4).symm.trans h
        refine s_aload_n E 0 rfl dX5_layRule_61 rfl ?_
        refine s_aload_n E 0 rfl dX5_layRule_62 rfl ?_
        refine s_get E (v := .ref (q 10)) 0 16 in_X5 gM_0 rfl (by decide) m_f_X5_37 rfl dX5_layRule_63 ?_
        refine s_iload E 4 rfl dX5_layRule_66 ?_
        obtain ⟨b5, h⟩ := chk_some h
        refine s_iald E (v := (σ 10 (y4.toNatClampNeg))) 10 gM_10 b5 rfl dX5_layRule_68 ?_
        refine s_iload E 4 rfl dX5_layRule_69 ?_
        refine s_iconst E (v := 0) dX5_layRule_71 ki_0 ?_
        refine s_iconst E (v := 0) dX5_layRule_72 ki_0 ?_
        obtain ⟨u6, e6, h⟩ := bnd_some h
        refine s_callVi E kf_X5_heavy m_l_X5_138 (c_X5_heavy q σ (σ 10 (y4.toNatClampNeg)) y4 0 0 u6 e6) ⟨rfl, rfl, by decide, by decide⟩ (q0 := 0) rfl rfl rfl rfl rfl (Nat.le_of_ble_eq_true rfl) dX5_layRule_73 ?_
        refine s_aload_n E 0 rfl dX5_layRule_76 rfl ?_
        refine s_get E (v := .ref (q 3)) 0 3 in_X5 gM_0 rfl (by decide) m_f_X5_16 rfl dX5_layRule_77 ?_
        refine s_iconst E (v := 0) dX5_layRule_80 ki_0 ?_
        refine s_iald E (i := 0) (v := (σ 3 0)) 3 gM_3 vin_0_5 rfl dX5_layRule_81 ?_
        refine s_iconst E (v := 3) dX5_layRule_82 ki_3 ?_
        refine s_icmp_ne E 90 dX5_layRule_83 (by decide) (fun c7 => ?_) (fun c7 => ?_)
        · have h := (if_pos c7).symm.trans h
          refine s_iconst E (v := 1) dX5_layRule_86 ki_1 ?_
          refine s_goto E 99 dX5_layRule_87 (by decide) ?_
          exact w_X5_layRule_J99_39 E q σ x1 y2 y3 y4 u6 1 z _ (fun y2 y3 y4 h => ih y2 y3 y4 z h hK) hK h
        · have h := (if_neg c7).symm.trans h
          refine s_aload_n E 0 rfl dX5_layRule_90 rfl ?_
          refine s_get E (v := .ref (q 3)) 0 3 in_X5 gM_0 rfl (by decide) m_f_X5_16 rfl dX5_layRule_91 ?_
          refine s_iconst E (v := 1) dX5_layRule_94 ki_1 ?_
          refine s_iload E 4 rfl dX5_layRule_95 ?_
          refine s_iadd E dX5_layRule_97 ?_
          obtain ⟨b17, h⟩ := chk_some h
          refine s_iald E (v := (σ 3 ((1 + y4).toNatClampNeg))) 3 gM_3 b17 rfl dX5_layRule_98 ?_
          exact w_X5_layRule_J99_39 E q σ x1 y2 y3 y4 u6 (σ 3 ((1 + y4).toNatClampNeg)) z _ (fun y2 y3 y4 h => ih y2 y3 y4 z h hK) hK h
noncomputable def f_X5_layRule_J180_23 (σ : Nat → Nat → Int32) (t1 : Int32) (t2 : Int32) (rec : (Nat → Nat → Int32) → Int32 → Option (Nat → Nat → Int32)) : Option (Nat → Nat → Int32) :=
  (if t2 = (-9) then (rec σ (t1 + 1)) else (chk t2 3 (chk t2 3 (rec (up2 σ 10 (t2.toNatClampNeg) ((σ 10 (t2.toNatClampNeg)) ||| (shl 1 t1))) (t1 + 1)))))
set_option maxRecDepth 100000 in
set_option maxHeartbeats 4000000 in
theorem w_X5_layRule_J180_23 (E : EV p s m args meth c dC dI cI cZ cX5_layRule 7 RX5 none) (q : Nat → Nat) (σ : Nat → Nat → Int32) (t1 : Int32) (t2 : Int32) (z : (Nat → Nat → Int32)) (rec : (Nat → Nat → Int32) → Int32 → Option (Nat → Nat → Int32)) (hrec : ∀ (σ : Nat → Nat → Int32) (y1 : Int32), rec σ y1 = some z → GG p l e rm_X5_layRule s m args below meth c Q A dC dI 7 (wM cI cZ q σ) 23 [(0, .ref (q 0)), (1, .int y1)] []) (hK : GG p l e rm_X5_layRule s m args below meth c Q A dC dI 7 (wM cI cZ q z) 204 [(0, .ref (q 0))] []) (h : f_X5_layRule_J180_23 σ t1 t2 rec = some z) : GG p l e rm_X5_layRule s m args below meth c Q A dC dI 7 (wM cI cZ q σ) 180 [(0, .ref (q 0)), (1, .int t1), (2, .int t2)] [] := by
  unfold f_X5_layRule_J180_23 at h
  refine s_iload_n E 2 rfl dX5_layRule_180 rfl ?_
  refine s_bipush E (v := (-9)) dX5_layRule_181 kb_m9 ?_
  refine s_icmp_eq E 198 dX5_layRule_183 (by decide) (fun c19 => ?_) (fun c19 => ?_)
  · have h := (if_pos c19).symm.trans h
    refine s_iinc E (v := (t1 + 1)) (lv' := [(0, .ref (q 0)), (1, .int (t1 + 1)), (2, .int t2)]) 1 rfl dX5_layRule_198 ki_1 rfl rfl rfl rfl (by decide) ?_
    refine s_goto E 23 dX5_layRule_201 (by decide) ?_
    refine s_sub E (lv' := [(0, .ref (q 0)), (1, .int (t1 + 1))]) [0, 1] rfl ?_
    exact hrec σ (t1 + 1) h
  · have h := (if_neg c19).symm.trans h
    refine s_aload_n E 0 rfl dX5_layRule_186 rfl ?_
    refine s_get E (v := .ref (q 10)) 0 16 in_X5 gM_0 rfl (by decide) m_f_X5_37 rfl dX5_layRule_187 ?_
    refine s_iload_n E 2 rfl dX5_layRule_190 rfl ?_
    refine s_dup2 E dX5_layRule_191 rfl rfl ?_
    obtain ⟨b20, h⟩ := chk_some h
    refine s_iald E (v := (σ 10 (t2.toNatClampNeg))) 10 gM_10 b20 rfl dX5_layRule_192 ?_
    refine s_iconst E (v := 1) dX5_layRule_193 ki_1 ?_
    refine s_iload_n E 1 rfl dX5_layRule_194 rfl ?_
    refine s_ishl E dX5_layRule_195 ?_
    refine s_ior E dX5_layRule_196 ?_
    obtain ⟨b21, h⟩ := chk_some h
    refine s_iast E (w' := (wM cI cZ q (up2 σ 10 (t2.toNatClampNeg) ((σ 10 (t2.toNatClampNeg)) ||| (shl 1 t1))))) 10 gM_10 b21 aM_10 dX5_layRule_197 ?_
    refine s_iinc E (v := (t1 + 1)) (lv' := [(0, .ref (q 0)), (1, .int (t1 + 1)), (2, .int t2)]) 1 rfl dX5_layRule_198 ki_1 rfl rfl rfl rfl (by decide) ?_
    refine s_goto E 23 dX5_layRule_201 (by decide) ?_
    refine s_sub E (lv' := [(0, .ref (q 0)), (1, .int (t1 + 1))]) [0, 1] rfl ?_
    exact hrec (up2 σ 10 (t2.toNatClampNeg) ((σ 10 (t2.toNatClampNeg)) ||| (shl 1 t1))) (t1 + 1) h
noncomputable def f_X5_layRule_L23 : Nat → (Nat → Nat → Int32) → Int32 → Option (Nat → Nat → Int32)
  | 0, _, _ => none
  | n + 1, σ, y1 =>
    (if (σ 0 5) ≤ y1 then (some σ) else ((f_X5_layRule_L39 σ y1 fuel (-9) 0 0).bind fun u18 => (f_X5_layRule_J180_23 σ y1 u18 (f_X5_layRule_L23 n))))
set_option maxRecDepth 100000 in
set_option maxHeartbeats 4000000 in
theorem w_X5_layRule_L23 (E : EV p s m args meth c dC dI cI cZ cX5_layRule 7 RX5 none) (q : Nat → Nat) : ∀ (n : Nat) (σ : Nat → Nat → Int32) (y1 : Int32) (z : (Nat → Nat → Int32)), f_X5_layRule_L23 n σ y1 = some z → GG p l e rm_X5_layRule s m args below meth c Q A dC dI 7 (wM cI cZ q z) 204 [(0, .ref (q 0))] [] → GG p l e rm_X5_layRule s m args below meth c Q A dC dI 7 (wM cI cZ q σ) 23 [(0, .ref (q 0)), (1, .int y1)] [] := by
  intro n
  induction n with
  | zero =>
    intro σ y1 z h
    rw [f_X5_layRule_L23] at h
    cases h
  | succ n ih =>
    intro σ y1 z h hK
    rw [f_X5_layRule_L23] at h
    refine s_iload_n E 1 rfl dX5_layRule_23 rfl ?_
    refine s_aload_n E 0 rfl dX5_layRule_24 rfl ?_
    refine s_geti E (y := (σ 0 5)) 0 5 in_X5 gM_0 rfl (by decide) m_f_X5_99 rfl rfl dX5_layRule_25 ?_
    refine s_icmp_ge E 204 dX5_layRule_28 (by decide) (fun c1 => ?_) (fun c1 => ?_)
    · have h := (if_pos c1).symm.trans h
      refine s_sub E (lv' := [(0, .ref (q 0))]) [0] rfl ?_
      obtain rfl := Option.some.inj h
      exact hK
    · have h := (if_neg c1).symm.trans h
      refine s_bipush E (v := (-9)) dX5_layRule_31 kb_m9 ?_
      refine s_istore_n E (lv' := [(0, .ref (q 0)), (1, .int y1), (2, .int (-9))]) dX5_layRule_33 rfl rfl rfl rfl (by decide) ?_
      refine s_iconst E (v := 0) dX5_layRule_34 ki_0 ?_
      refine s_istore_n E (lv' := [(0, .ref (q 0)), (1, .int y1), (2, .int (-9)), (3, .int 0)]) dX5_layRule_35 rfl rfl rfl rfl (by decide) ?_
      refine s_iconst E (v := 0) dX5_layRule_36 ki_0 ?_
      refine s_istore E (lv' := [(0, .ref (q 0)), (1, .int y1), (2, .int (-9)), (3, .int 0), (4, .int 0)]) dX5_layRule_37 rfl rfl rfl (by decide) ?_
      obtain ⟨u18, e18, h⟩ := bnd_some h
      refine w_X5_layRule_L39 E q σ y1 fuel (-9) 0 0 u18 e18 ?_
      exact w_X5_layRule_J180_23 E q σ y1 u18 z _ (fun σ y1 h => ih σ y1 z h hK) hK h
noncomputable def f_X5_layRule (σ : Nat → Nat → Int32) : Option (Nat → Nat → Int32) :=
  ((f_X5_layRule_L23 fuel (up2 (up2 (up2 σ 10 0 0) 10 1 0) 10 2 0) 0).bind fun u22 => (some u22))
set_option maxRecDepth 100000 in
set_option maxHeartbeats 4000000 in
theorem c_X5_layRule (q : Nat → Nat) (σ : Nat → Nat → Int32) (z : (Nat → Nat → Int32)) (h : f_X5_layRule σ = some z) : CT l dC dI cI cZ A yX5_layRule cX5_layRule 7 none rm_X5_layRule [.ref (q 0)] (wM cI cZ q σ) (wM cI cZ q z) none := by
  refine b_met (by decide) (Nat.le_of_ble_eq_true rfl) ?_
  intro p e s m below meth c E
  have E : EV p s m _ meth c dC dI cI cZ cX5_layRule 7 RX5 none := E
  show GG p l e rm_X5_layRule s m _ below meth c _ A dC dI 7 (wM cI cZ q σ) 0 [(0, .ref (q 0))] []
  unfold f_X5_layRule at h
  refine s_aload_n E 0 rfl dX5_layRule_0 rfl ?_
  refine s_get E (v := .ref (q 10)) 0 16 in_X5 gM_0 rfl (by decide) m_f_X5_37 rfl dX5_layRule_1 ?_
  refine s_iconst E (v := 0) dX5_layRule_4 ki_0 ?_
  refine s_iconst E (v := 0) dX5_layRule_5 ki_0 ?_
  refine s_iast E (i := 0) (w' := (wM cI cZ q (up2 σ 10 0 0))) 10 gM_10 vin_0_3 aM_10 dX5_layRule_6 ?_
  refine s_aload_n E 0 rfl dX5_layRule_7 rfl ?_
  refine s_get E (v := .ref (q 10)) 0 16 in_X5 gM_0 rfl (by decide) m_f_X5_37 rfl dX5_layRule_8 ?_
  refine s_iconst E (v := 1) dX5_layRule_11 ki_1 ?_
  refine s_iconst E (v := 0) dX5_layRule_12 ki_0 ?_
  refine s_iast E (i := 1) (w' := (wM cI cZ q (up2 (up2 σ 10 0 0) 10 1 0))) 10 gM_10 vin_1_3 aM_10 dX5_layRule_13 ?_
  refine s_aload_n E 0 rfl dX5_layRule_14 rfl ?_
  refine s_get E (v := .ref (q 10)) 0 16 in_X5 gM_0 rfl (by decide) m_f_X5_37 rfl dX5_layRule_15 ?_
  refine s_iconst E (v := 2) dX5_layRule_18 ki_2 ?_
  refine s_iconst E (v := 0) dX5_layRule_19 ki_0 ?_
  refine s_iast E (i := 2) (w' := (wM cI cZ q (up2 (up2 (up2 σ 10 0 0) 10 1 0) 10 2 0))) 10 gM_10 vin_2_3 aM_10 dX5_layRule_20 ?_
  refine s_iconst E (v := 0) dX5_layRule_21 ki_0 ?_
  refine s_istore_n E (lv' := [(0, .ref (q 0)), (1, .int 0)]) dX5_layRule_22 rfl rfl rfl rfl (by decide) ?_
  obtain ⟨u22, e22, h⟩ := bnd_some h
  refine w_X5_layRule_L23 E q fuel (up2 (up2 (up2 σ 10 0 0) 10 1 0) 10 2 0) 0 u22 e22 ?_
  obtain rfl := Option.some.inj h
  exact s_vret E rfl dX5_layRule_204
end
abbrev rm_X5_rule : Room := { frames := 4, cells := 0, slots := 0, locals := 99 }
section
noncomputable def f_X5_rule (σ : Nat → Nat → Int32) : Option (Int32 × (Nat → Nat → Int32)) :=
  ((f_X5_layRule σ).bind fun u1 => ((f_X5_isLevel u1 (u1 10 0) (u1 10 1) (u1 10 2) 0).bind fun u2 => (if u2 = 0 then (some (0, u1)) else ((f_X5_fares u1 (((u1 10 0) ||| (u1 10 1)) ||| (u1 10 2))).bind fun u4 => (some (u4, u1))))))
set_option maxRecDepth 100000 in
set_option maxHeartbeats 4000000 in
theorem c_X5_rule (q : Nat → Nat) (σ : Nat → Nat → Int32) (z : (Int32 × (Nat → Nat → Int32))) (h : f_X5_rule σ = some z) : CT l dC dI cI cZ A yX5_rule cX5_rule 1 (some .int) rm_X5_rule [.ref (q 0)] (wM cI cZ q σ) (wM cI cZ q z.2) (some (.int z.1)) := by
  refine b_met (by decide) (Nat.le_of_ble_eq_true rfl) ?_
  intro p e s m below meth c E
  have E : EV p s m _ meth c dC dI cI cZ cX5_rule 1 RX5 (some .int) := E
  show GG p l e rm_X5_rule s m _ below meth c _ A dC dI 1 (wM cI cZ q σ) 0 [(0, .ref (q 0))] []
  unfold f_X5_rule at h
  refine s_aload_n E 0 rfl dX5_rule_0 rfl ?_
  obtain ⟨u1, e1, h⟩ := bnd_some h
  refine s_callVv E kf_X5_layRule m_l_X5_195 (c_X5_layRule q σ u1 e1) ⟨rfl, rfl, by decide, by decide⟩ (q0 := 0) rfl rfl rfl rfl rfl (Nat.le_of_ble_eq_true rfl) dX5_rule_1 ?_
  refine s_aload_n E 0 rfl dX5_rule_4 rfl ?_
  refine s_aload_n E 0 rfl dX5_rule_5 rfl ?_
  refine s_get E (v := .ref (q 10)) 0 16 in_X5 gM_0 rfl (by decide) m_f_X5_37 rfl dX5_rule_6 ?_
  refine s_iconst E (v := 0) dX5_rule_9 ki_0 ?_
  refine s_iald E (i := 0) (v := (u1 10 0)) 10 gM_10 vin_0_3 rfl dX5_rule_10 ?_
  refine s_aload_n E 0 rfl dX5_rule_11 rfl ?_
  refine s_get E (v := .ref (q 10)) 0 16 in_X5 gM_0 rfl (by decide) m_f_X5_37 rfl dX5_rule_12 ?_
  refine s_iconst E (v := 1) dX5_rule_15 ki_1 ?_
  refine s_iald E (i := 1) (v := (u1 10 1)) 10 gM_10 vin_1_3 rfl dX5_rule_16 ?_
  refine s_aload_n E 0 rfl dX5_rule_17 rfl ?_
  refine s_get E (v := .ref (q 10)) 0 16 in_X5 gM_0 rfl (by decide) m_f_X5_37 rfl dX5_rule_18 ?_
  refine s_iconst E (v := 2) dX5_rule_21 ki_2 ?_
  refine s_iald E (i := 2) (v := (u1 10 2)) 10 gM_10 vin_2_3 rfl dX5_rule_22 ?_
  refine s_iconst E (v := 0) dX5_rule_23 ki_0 ?_
  obtain ⟨u2, e2, h⟩ := bnd_some h
  refine s_callVi E kf_X5_isLevel m_l_X5_150 (c_X5_isLevel q u1 (u1 10 0) (u1 10 1) (u1 10 2) 0 u2 e2) ⟨rfl, rfl, by decide, by decide⟩ (q0 := 0) rfl rfl rfl rfl rfl (Nat.le_of_ble_eq_true rfl) dX5_rule_24 ?_
  refine s_if_eq E 57 dX5_rule_27 (by decide) (fun c3 => ?_) (fun c3 => ?_)
  · have h := (if_pos c3).symm.trans h
    refine s_iconst E (v := 0) dX5_rule_57 ki_0 ?_
    obtain rfl := Option.some.inj h
    exact s_iret E rfl rfl dX5_rule_58
  · have h := (if_neg c3).symm.trans h
    refine s_aload_n E 0 rfl dX5_rule_30 rfl ?_
    refine s_aload_n E 0 rfl dX5_rule_31 rfl ?_
    refine s_get E (v := .ref (q 10)) 0 16 in_X5 gM_0 rfl (by decide) m_f_X5_37 rfl dX5_rule_32 ?_
    refine s_iconst E (v := 0) dX5_rule_35 ki_0 ?_
    refine s_iald E (i := 0) (v := (u1 10 0)) 10 gM_10 vin_0_3 rfl dX5_rule_36 ?_
    refine s_aload_n E 0 rfl dX5_rule_37 rfl ?_
    refine s_get E (v := .ref (q 10)) 0 16 in_X5 gM_0 rfl (by decide) m_f_X5_37 rfl dX5_rule_38 ?_
    refine s_iconst E (v := 1) dX5_rule_41 ki_1 ?_
    refine s_iald E (i := 1) (v := (u1 10 1)) 10 gM_10 vin_1_3 rfl dX5_rule_42 ?_
    refine s_ior E dX5_rule_43 ?_
    refine s_aload_n E 0 rfl dX5_rule_44 rfl ?_
    refine s_get E (v := .ref (q 10)) 0 16 in_X5 gM_0 rfl (by decide) m_f_X5_37 rfl dX5_rule_45 ?_
    refine s_iconst E (v := 2) dX5_rule_48 ki_2 ?_
    refine s_iald E (i := 2) (v := (u1 10 2)) 10 gM_10 vin_2_3 rfl dX5_rule_49 ?_
    refine s_ior E dX5_rule_50 ?_
    obtain ⟨u4, e4, h⟩ := bnd_some h
    refine s_callVi E kf_X5_fares m_l_X5_154 (c_X5_fares q u1 (((u1 10 0) ||| (u1 10 1)) ||| (u1 10 2)) u4 e4) ⟨rfl, rfl, by decide, by decide⟩ (q0 := 0) rfl rfl rfl rfl rfl (Nat.le_of_ble_eq_true rfl) dX5_rule_51 ?_
    refine s_goto E 58 dX5_rule_54 (by decide) ?_
    obtain rfl := Option.some.inj h
    exact s_iret E rfl rfl dX5_rule_58
end
abbrev rm_X5_ruleAt : Room := { frames := 3, cells := 0, slots := 0, locals := 76 }
section
noncomputable def f_X5_ruleAt_L16 (σ : Nat → Nat → Int32) (x1 : Int32) : Nat → Int32 → Option (Int32 × (Nat → Nat → Int32))
  | 0, _ => none
  | n + 1, y2 =>
    (if 3 ≤ y2 then (some ((-9), σ)) else (chk y2 3 (if ((shr (σ 10 (y2.toNatClampNeg)) x1) &&& 1) = 1 then (some (y2, σ)) else (f_X5_ruleAt_L16 σ x1 n (y2 + 1)))))
set_option maxRecDepth 100000 in
set_option maxHeartbeats 4000000 in
theorem w_X5_ruleAt_L16 (E : EV p s m args meth c dC dI cI cZ cX5_ruleAt 3 RX5 (some .int)) (q : Nat → Nat) (σ : Nat → Nat → Int32) (x1 : Int32) : ∀ (n : Nat) (y2 : Int32) (z : (Int32 × (Nat → Nat → Int32))), f_X5_ruleAt_L16 σ x1 n y2 = some z → GG p l e rm_X5_ruleAt s m args below meth c (MQ below (CQ dC dI (some (.int z.1)) (wM cI cZ q z.2) A) args s 0 0 A) A dC dI 3 (wM cI cZ q σ) 16 [(0, .ref (q 0)), (1, .int x1), (2, .int y2)] [] := by
  intro n
  induction n with
  | zero =>
    intro y2 z h
    rw [f_X5_ruleAt_L16] at h
    cases h
  | succ n ih =>
    intro y2 z h
    rw [f_X5_ruleAt_L16] at h
    refine s_iload_n E 2 rfl dX5_ruleAt_16 rfl ?_
    refine s_iconst E (v := 3) dX5_ruleAt_17 ki_3 ?_
    refine s_icmp_ge E 43 dX5_ruleAt_18 (by decide) (fun c4 => ?_) (fun c4 => ?_)
    · have h := (if_pos c4).symm.trans h
      refine s_bipush E (v := (-9)) dX5_ruleAt_43 kb_m9 ?_
      obtain rfl := Option.some.inj h
      exact s_iret E rfl rfl dX5_ruleAt_45
    · have h := (if_neg c4).symm.trans h
      refine s_aload_n E 0 rfl dX5_ruleAt_21 rfl ?_
      refine s_get E (v := .ref (q 10)) 0 16 in_X5 gM_0 rfl (by decide) m_f_X5_37 rfl dX5_ruleAt_22 ?_
      refine s_iload_n E 2 rfl dX5_ruleAt_25 rfl ?_
      obtain ⟨b5, h⟩ := chk_some h
      refine s_iald E (v := (σ 10 (y2.toNatClampNeg))) 10 gM_10 b5 rfl dX5_ruleAt_26 ?_
      refine s_iload_n E 1 rfl dX5_ruleAt_27 rfl ?_
      refine s_ishr E dX5_ruleAt_28 ?_
      refine s_iconst E (v := 1) dX5_ruleAt_29 ki_1 ?_
      refine s_iand E dX5_ruleAt_30 ?_
      refine s_iconst E (v := 1) dX5_ruleAt_31 ki_1 ?_
      refine s_icmp_ne E 37 dX5_ruleAt_32 (by decide) (fun c6 => ?_) (fun c6 => ?_)
      · have h := (if_pos c6).symm.trans h
        refine s_iload_n E 2 rfl dX5_ruleAt_35 rfl ?_
        obtain rfl := Option.some.inj h
        exact s_iret E rfl rfl dX5_ruleAt_36
      · have h := (if_neg c6).symm.trans h
        refine s_iinc E (v := (y2 + 1)) (lv' := [(0, .ref (q 0)), (1, .int x1), (2, .int (y2 + 1))]) 2 rfl dX5_ruleAt_37 ki_1 rfl rfl rfl rfl (by decide) ?_
        refine s_goto E 16 dX5_ruleAt_40 (by decide) ?_
        exact ih (y2 + 1) z h
noncomputable def f_X5_ruleAt (σ : Nat → Nat → Int32) (x1 : Int32) : Option (Int32 × (Nat → Nat → Int32)) :=
  ((f_X5_isPerson σ x1).bind fun u1 => (if u1 = 0 then (some ((-1), σ)) else ((f_X5_layRule σ).bind fun u3 => (f_X5_ruleAt_L16 u3 x1 fuel 0))))
set_option maxRecDepth 100000 in
set_option maxHeartbeats 4000000 in
theorem c_X5_ruleAt (q : Nat → Nat) (σ : Nat → Nat → Int32) (x1 : Int32) (z : (Int32 × (Nat → Nat → Int32))) (h : f_X5_ruleAt σ x1 = some z) : CT l dC dI cI cZ A yX5_ruleAt cX5_ruleAt 3 (some .int) rm_X5_ruleAt [.ref (q 0), .int x1] (wM cI cZ q σ) (wM cI cZ q z.2) (some (.int z.1)) := by
  refine b_met (by decide) (Nat.le_of_ble_eq_true rfl) ?_
  intro p e s m below meth c E
  have E : EV p s m _ meth c dC dI cI cZ cX5_ruleAt 3 RX5 (some .int) := E
  show GG p l e rm_X5_ruleAt s m _ below meth c _ A dC dI 3 (wM cI cZ q σ) 0 [(0, .ref (q 0)), (1, .int x1)] []
  unfold f_X5_ruleAt at h
  refine s_aload_n E 0 rfl dX5_ruleAt_0 rfl ?_
  refine s_iload_n E 1 rfl dX5_ruleAt_1 rfl ?_
  obtain ⟨u1, e1, h⟩ := bnd_some h
  refine s_callVi E kf_X5_isPerson m_l_X5_110 (c_X5_isPerson q σ x1 u1 e1) ⟨rfl, rfl, by decide, by decide⟩ (q0 := 0) rfl rfl rfl rfl rfl (Nat.le_of_ble_eq_true rfl) dX5_ruleAt_2 ?_
  refine s_if_ne E 10 dX5_ruleAt_5 (by decide) (fun c2 => ?_) (fun c2 => ?_)
  · have h := (if_pos c2).symm.trans h
    refine s_iconst E (v := (-1)) dX5_ruleAt_8 ki_m1 ?_
    obtain rfl := Option.some.inj h
    exact s_iret E rfl rfl dX5_ruleAt_9
  · have h := (if_neg c2).symm.trans h
    refine s_aload_n E 0 rfl dX5_ruleAt_10 rfl ?_
    obtain ⟨u3, e3, h⟩ := bnd_some h
    refine s_callVv E kf_X5_layRule m_l_X5_195 (c_X5_layRule q σ u3 e3) ⟨rfl, rfl, by decide, by decide⟩ (q0 := 0) rfl rfl rfl rfl rfl (Nat.le_of_ble_eq_true rfl) dX5_ruleAt_11 ?_
    refine s_iconst E (v := 0) dX5_ruleAt_14 ki_0 ?_
    refine s_istore_n E (lv' := [(0, .ref (q 0)), (1, .int x1), (2, .int 0)]) dX5_ruleAt_15 rfl rfl rfl rfl (by decide) ?_
    exact w_X5_ruleAt_L16 E q u3 x1 fuel 0 z h
end
abbrev rm_X5_claim : Room := { frames := 2, cells := 0, slots := 0, locals := 46 }
section
noncomputable def f_X5_claim (σ : Nat → Nat → Int32) (x1 : Int32) (x2 : Int32) : Option (Int32 × (Nat → Nat → Int32)) :=
  ((f_X5_isPerson σ x1).bind fun u1 => (if u1 = 0 then (some ((-1), σ)) else (if (f_X5_in x2.toInt64 (1 : Int64) (99 : Int64)) = 0 then (some ((-2), σ)) else (chk x1 8 (chk x1 8 (some ((σ 6 (x1.toNatClampNeg)), (up2 σ 6 (x1.toNatClampNeg) x2))))))))
set_option maxRecDepth 100000 in
set_option maxHeartbeats 4000000 in
theorem c_X5_claim (q : Nat → Nat) (σ : Nat → Nat → Int32) (x1 : Int32) (x2 : Int32) (z : (Int32 × (Nat → Nat → Int32))) (h : f_X5_claim σ x1 x2 = some z) : CT l dC dI cI cZ A yX5_claim cX5_claim 4 (some .int) rm_X5_claim [.ref (q 0), .int x1, .int x2] (wM cI cZ q σ) (wM cI cZ q z.2) (some (.int z.1)) := by
  refine b_met (by decide) (Nat.le_of_ble_eq_true rfl) ?_
  intro p e s m below meth c E
  have E : EV p s m _ meth c dC dI cI cZ cX5_claim 4 RX5 (some .int) := E
  show GG p l e rm_X5_claim s m _ below meth c _ A dC dI 4 (wM cI cZ q σ) 0 [(0, .ref (q 0)), (1, .int x1), (2, .int x2)] []
  unfold f_X5_claim at h
  refine s_aload_n E 0 rfl dX5_claim_0 rfl ?_
  refine s_iload_n E 1 rfl dX5_claim_1 rfl ?_
  obtain ⟨u1, e1, h⟩ := bnd_some h
  refine s_callVi E kf_X5_isPerson m_l_X5_110 (c_X5_isPerson q σ x1 u1 e1) ⟨rfl, rfl, by decide, by decide⟩ (q0 := 0) rfl rfl rfl rfl rfl (Nat.le_of_ble_eq_true rfl) dX5_claim_2 ?_
  refine s_if_ne E 10 dX5_claim_5 (by decide) (fun c2 => ?_) (fun c2 => ?_)
  · have h := (if_pos c2).symm.trans h
    refine s_iconst E (v := (-1)) dX5_claim_8 ki_m1 ?_
    obtain rfl := Option.some.inj h
    exact s_iret E rfl rfl dX5_claim_9
  · have h := (if_neg c2).symm.trans h
    refine s_iload_n E 2 rfl dX5_claim_10 rfl ?_
    refine s_i2l E dX5_claim_11 ?_
    refine s_lconst E (v := 1) dX5_claim_12 (by decide) ?_
    refine s_ldc2 E (v := (99)) m_c_X5_181 dX5_claim_13 ?_
    refine s_callSi E kf_X5_in m_l_X5_70 (c_X5_in (wM cI cZ q σ) x2.toInt64 (1 : Int64) (99 : Int64)) ⟨rfl, rfl, by decide, by decide⟩ rfl rfl (Nat.le_of_ble_eq_true rfl) dX5_claim_16 ?_
    refine s_if_ne E 25 dX5_claim_19 (by decide) (fun c3 => ?_) (fun c3 => ?_)
    · have h := (if_pos c3).symm.trans h
      refine s_bipush E (v := (-2)) dX5_claim_22 kb_m2 ?_
      obtain rfl := Option.some.inj h
      exact s_iret E rfl rfl dX5_claim_24
    · have h := (if_neg c3).symm.trans h
      refine s_aload_n E 0 rfl dX5_claim_25 rfl ?_
      refine s_get E (v := .ref (q 6)) 0 7 in_X5 gM_0 rfl (by decide) m_f_X5_25 rfl dX5_claim_26 ?_
      refine s_iload_n E 1 rfl dX5_claim_29 rfl ?_
      obtain ⟨b4, h⟩ := chk_some h
      refine s_iald E (v := (σ 6 (x1.toNatClampNeg))) 6 gM_6 b4 rfl dX5_claim_30 ?_
      refine s_istore_n E (lv' := [(0, .ref (q 0)), (1, .int x1), (2, .int x2), (3, .int (σ 6 (x1.toNatClampNeg)))]) dX5_claim_31 rfl rfl rfl rfl (by decide) ?_
      refine s_aload_n E 0 rfl dX5_claim_32 rfl ?_
      refine s_get E (v := .ref (q 6)) 0 7 in_X5 gM_0 rfl (by decide) m_f_X5_25 rfl dX5_claim_33 ?_
      refine s_iload_n E 1 rfl dX5_claim_36 rfl ?_
      refine s_iload_n E 2 rfl dX5_claim_37 rfl ?_
      obtain ⟨b5, h⟩ := chk_some h
      refine s_iast E (w' := (wM cI cZ q (up2 σ 6 (x1.toNatClampNeg) x2))) 6 gM_6 b5 aM_6 dX5_claim_38 ?_
      refine s_iload_n E 3 rfl dX5_claim_39 rfl ?_
      obtain rfl := Option.some.inj h
      exact s_iret E rfl rfl dX5_claim_40
end
abbrev rm_X5_allFit : Room := { frames := 4, cells := 0, slots := 0, locals := 99 }
section
noncomputable def f_X5_allFit_L4 (σ : Nat → Nat → Int32) : Nat → Int32 → Int32 → Option Int32
  | 0, _, _ => none
  | n + 1, y1, y2 =>
    (if (σ 0 14) ≤ y2 then (some y1) else (if y1 = 0 then (f_X5_allFit_L4 σ n 0 (y2 + 1)) else (chk (3 * y2) 24 (chk ((3 * y2) + 1) 24 (chk ((3 * y2) + 2) 24 ((f_X5_isLevel σ (σ 9 ((3 * y2).toNatClampNeg)) (σ 9 (((3 * y2) + 1).toNatClampNeg)) (σ 9 (((3 * y2) + 2).toNatClampNeg)) 1).bind fun u6 => (if u6 = 0 then (f_X5_allFit_L4 σ n 0 (y2 + 1)) else (f_X5_allFit_L4 σ n 1 (y2 + 1)))))))))
set_option maxRecDepth 100000 in
set_option maxHeartbeats 4000000 in
theorem w_X5_allFit_L4 (E : EV p s m args meth c dC dI cI cZ cX5_allFit 3 RX5 (some .boolean)) (q : Nat → Nat) (σ : Nat → Nat → Int32) : ∀ (n : Nat) (y1 y2 : Int32) (z : Int32), f_X5_allFit_L4 σ n y1 y2 = some z → GG p l e rm_X5_allFit s m args below meth c Q A dC dI 3 (wM cI cZ q σ) 64 [(0, .ref (q 0)), (1, .int z)] [] → GG p l e rm_X5_allFit s m args below meth c Q A dC dI 3 (wM cI cZ q σ) 4 [(0, .ref (q 0)), (1, .int y1), (2, .int y2)] [] := by
  intro n
  induction n with
  | zero =>
    intro y1 y2 z h
    rw [f_X5_allFit_L4] at h
    cases h
  | succ n ih =>
    intro y1 y2 z h hK
    rw [f_X5_allFit_L4] at h
    refine s_iload_n E 2 rfl dX5_allFit_4 rfl ?_
    refine s_aload_n E 0 rfl dX5_allFit_5 rfl ?_
    refine s_geti E (y := (σ 0 14)) 0 14 in_X5 gM_0 rfl (by decide) m_f_X5_105 rfl rfl dX5_allFit_6 ?_
    refine s_icmp_ge E 64 dX5_allFit_9 (by decide) (fun c1 => ?_) (fun c1 => ?_)
    · have h := (if_pos c1).symm.trans h
      refine s_sub E (lv' := [(0, .ref (q 0)), (1, .int y1)]) [0, 1] rfl ?_
      obtain rfl := Option.some.inj h
      exact hK
    · have h := (if_neg c1).symm.trans h
      refine s_iload_n E 1 rfl dX5_allFit_12 rfl ?_
      refine s_if_eq E 56 dX5_allFit_13 (by decide) (fun c2 => ?_) (fun c2 => ?_)
      · have h := (if_pos c2).symm.trans h
        refine s_iconst E (v := 0) dX5_allFit_56 ki_0 ?_
        refine s_istore_n E (lv' := [(0, .ref (q 0)), (1, .int 0), (2, .int y2)]) dX5_allFit_57 rfl rfl rfl rfl (by decide) ?_
        refine s_iinc E (v := (y2 + 1)) (lv' := [(0, .ref (q 0)), (1, .int 0), (2, .int (y2 + 1))]) 2 rfl dX5_allFit_58 ki_1 rfl rfl rfl rfl (by decide) ?_
        refine s_goto E 4 dX5_allFit_61 (by decide) ?_
        exact ih 0 (y2 + 1) z h hK
      · have h := (if_neg c2).symm.trans h
        refine s_aload_n E 0 rfl dX5_allFit_16 rfl ?_
        refine s_aload_n E 0 rfl dX5_allFit_17 rfl ?_
        refine s_get E (v := .ref (q 9)) 0 15 in_X5 gM_0 rfl (by decide) m_f_X5_34 rfl dX5_allFit_18 ?_
        refine s_iconst E (v := 3) dX5_allFit_21 ki_3 ?_
        refine s_iload_n E 2 rfl dX5_allFit_22 rfl ?_
        refine s_imul E dX5_allFit_23 ?_
        obtain ⟨b3, h⟩ := chk_some h
        refine s_iald E (v := (σ 9 ((3 * y2).toNatClampNeg))) 9 gM_9 b3 rfl dX5_allFit_24 ?_
        refine s_aload_n E 0 rfl dX5_allFit_25 rfl ?_
        refine s_get E (v := .ref (q 9)) 0 15 in_X5 gM_0 rfl (by decide) m_f_X5_34 rfl dX5_allFit_26 ?_
        refine s_iconst E (v := 3) dX5_allFit_29 ki_3 ?_
        refine s_iload_n E 2 rfl dX5_allFit_30 rfl ?_
        refine s_imul E dX5_allFit_31 ?_
        refine s_iconst E (v := 1) dX5_allFit_32 ki_1 ?_
        refine s_iadd E dX5_allFit_33 ?_
        obtain ⟨b4, h⟩ := chk_some h
        refine s_iald E (v := (σ 9 (((3 * y2) + 1).toNatClampNeg))) 9 gM_9 b4 rfl dX5_allFit_34 ?_
        refine s_aload_n E 0 rfl dX5_allFit_35 rfl ?_
        refine s_get E (v := .ref (q 9)) 0 15 in_X5 gM_0 rfl (by decide) m_f_X5_34 rfl dX5_allFit_36 ?_
        refine s_iconst E (v := 3) dX5_allFit_39 ki_3 ?_
        refine s_iload_n E 2 rfl dX5_allFit_40 rfl ?_
        refine s_imul E dX5_allFit_41 ?_
        refine s_iconst E (v := 2) dX5_allFit_42 ki_2 ?_
        refine s_iadd E dX5_allFit_43 ?_
        obtain ⟨b5, h⟩ := chk_some h
        refine s_iald E (v := (σ 9 (((3 * y2) + 2).toNatClampNeg))) 9 gM_9 b5 rfl dX5_allFit_44 ?_
        refine s_iconst E (v := 1) dX5_allFit_45 ki_1 ?_
        obtain ⟨u6, e6, h⟩ := bnd_some h
        refine s_callVi E kf_X5_isLevel m_l_X5_150 (c_X5_isLevel q σ (σ 9 ((3 * y2).toNatClampNeg)) (σ 9 (((3 * y2) + 1).toNatClampNeg)) (σ 9 (((3 * y2) + 2).toNatClampNeg)) 1 u6 e6) ⟨rfl, rfl, by decide, by decide⟩ (q0 := 0) rfl rfl rfl rfl rfl (Nat.le_of_ble_eq_true rfl) dX5_allFit_46 ?_
        refine s_if_eq E 56 dX5_allFit_49 (by decide) (fun c7 => ?_) (fun c7 => ?_)
        · have h := (if_pos c7).symm.trans h
          refine s_iconst E (v := 0) dX5_allFit_56 ki_0 ?_
          refine s_istore_n E (lv' := [(0, .ref (q 0)), (1, .int 0), (2, .int y2)]) dX5_allFit_57 rfl rfl rfl rfl (by decide) ?_
          refine s_iinc E (v := (y2 + 1)) (lv' := [(0, .ref (q 0)), (1, .int 0), (2, .int (y2 + 1))]) 2 rfl dX5_allFit_58 ki_1 rfl rfl rfl rfl (by decide) ?_
          refine s_goto E 4 dX5_allFit_61 (by decide) ?_
          exact ih 0 (y2 + 1) z h hK
        · have h := (if_neg c7).symm.trans h
          refine s_iconst E (v := 1) dX5_allFit_52 ki_1 ?_
          refine s_goto E 57 dX5_allFit_53 (by decide) ?_
          refine s_istore_n E (lv' := [(0, .ref (q 0)), (1, .int 1), (2, .int y2)]) dX5_allFit_57 rfl rfl rfl rfl (by decide) ?_
          refine s_iinc E (v := (y2 + 1)) (lv' := [(0, .ref (q 0)), (1, .int 1), (2, .int (y2 + 1))]) 2 rfl dX5_allFit_58 ki_1 rfl rfl rfl rfl (by decide) ?_
          refine s_goto E 4 dX5_allFit_61 (by decide) ?_
          exact ih 1 (y2 + 1) z h hK
noncomputable def f_X5_allFit (σ : Nat → Nat → Int32) : Option Int32 :=
  ((f_X5_allFit_L4 σ fuel 1 0).bind fun u8 => (chb u8 (some u8)))
set_option maxRecDepth 100000 in
set_option maxHeartbeats 4000000 in
theorem c_X5_allFit (q : Nat → Nat) (σ : Nat → Nat → Int32) (z : Int32) (h : f_X5_allFit σ = some z) : CT l dC dI cI cZ A yX5_allFit cX5_allFit 3 (some .boolean) rm_X5_allFit [.ref (q 0)] (wM cI cZ q σ) (wM cI cZ q σ) (some (.int z)) := by
  refine b_met (by decide) (Nat.le_of_ble_eq_true rfl) ?_
  intro p e s m below meth c E
  have E : EV p s m _ meth c dC dI cI cZ cX5_allFit 3 RX5 (some .boolean) := E
  show GG p l e rm_X5_allFit s m _ below meth c _ A dC dI 3 (wM cI cZ q σ) 0 [(0, .ref (q 0))] []
  unfold f_X5_allFit at h
  refine s_iconst E (v := 1) dX5_allFit_0 ki_1 ?_
  refine s_istore_n E (lv' := [(0, .ref (q 0)), (1, .int 1)]) dX5_allFit_1 rfl rfl rfl rfl (by decide) ?_
  refine s_iconst E (v := 0) dX5_allFit_2 ki_0 ?_
  refine s_istore_n E (lv' := [(0, .ref (q 0)), (1, .int 1), (2, .int 0)]) dX5_allFit_3 rfl rfl rfl rfl (by decide) ?_
  obtain ⟨u8, e8, h⟩ := bnd_some h
  refine w_X5_allFit_L4 E q σ fuel 1 0 u8 e8 ?_
  refine s_iload_n E 1 rfl dX5_allFit_64 rfl ?_
  obtain ⟨b9, h⟩ := chb_some h
  obtain rfl := Option.some.inj h
  exact s_zret E b9 rfl rfl dX5_allFit_65
end
abbrev rm_X5_fits : Room := { frames := 5, cells := 0, slots := 0, locals := 121 }
section
noncomputable def f_X5_fits (σ : Nat → Nat → Int32) : Option Int32 :=
  ((f_X5_allFit σ).bind fun u1 => (if u1 = 0 then (some 0) else (some 1)))
set_option maxRecDepth 100000 in
set_option maxHeartbeats 4000000 in
theorem c_X5_fits (q : Nat → Nat) (σ : Nat → Nat → Int32) (z : Int32) (h : f_X5_fits σ = some z) : CT l dC dI cI cZ A yX5_fits cX5_fits 1 (some .int) rm_X5_fits [.ref (q 0)] (wM cI cZ q σ) (wM cI cZ q σ) (some (.int z)) := by
  refine b_met (by decide) (Nat.le_of_ble_eq_true rfl) ?_
  intro p e s m below meth c E
  have E : EV p s m _ meth c dC dI cI cZ cX5_fits 1 RX5 (some .int) := E
  show GG p l e rm_X5_fits s m _ below meth c _ A dC dI 1 (wM cI cZ q σ) 0 [(0, .ref (q 0))] []
  unfold f_X5_fits at h
  refine s_aload_n E 0 rfl dX5_fits_0 rfl ?_
  obtain ⟨u1, e1, h⟩ := bnd_some h
  refine s_callVi E kf_X5_allFit m_l_X5_198 (c_X5_allFit q σ u1 e1) ⟨rfl, rfl, by decide, by decide⟩ (q0 := 0) rfl rfl rfl rfl rfl (Nat.le_of_ble_eq_true rfl) dX5_fits_1 ?_
  refine s_if_eq E 11 dX5_fits_4 (by decide) (fun c2 => ?_) (fun c2 => ?_)
  · have h := (if_pos c2).symm.trans h
    refine s_iconst E (v := 0) dX5_fits_11 ki_0 ?_
    obtain rfl := Option.some.inj h
    exact s_iret E rfl rfl dX5_fits_12
  · have h := (if_neg c2).symm.trans h
    refine s_iconst E (v := 1) dX5_fits_7 ki_1 ?_
    refine s_goto E 12 dX5_fits_8 (by decide) ?_
    obtain rfl := Option.some.inj h
    exact s_iret E rfl rfl dX5_fits_12
end
abbrev rm_X5_mayOf : Room := { frames := 5, cells := 0, slots := 0, locals := 121 }
section
noncomputable def f_X5_mayOf_L12 (x1 : Int32) : Nat → (Nat → Nat → Int32) → Int32 → Int32 → Option (Int32 × (Nat → Nat → Int32))
  | 0, _, _, _ => none
  | n + 1, σ, y3, y4 =>
    (if 100 ≤ y4 then (some (y3, σ)) else (chk x1 8 ((f_X5_allFit (up2 σ 6 (x1.toNatClampNeg) y4)).bind fun u4 => (if u4 = 0 then (f_X5_mayOf_L12 x1 n (up2 σ 6 (x1.toNatClampNeg) y4) (y3 + 0) (y4 + 1)) else (f_X5_mayOf_L12 x1 n (up2 σ 6 (x1.toNatClampNeg) y4) (y3 + 1) (y4 + 1))))))
set_option maxRecDepth 100000 in
set_option maxHeartbeats 4000000 in
theorem w_X5_mayOf_L12 (E : EV p s m args meth c dC dI cI cZ cX5_mayOf 5 RX5 (some .int)) (q : Nat → Nat) (x1 : Int32) (x2 : Int32) : ∀ (n : Nat) (σ : Nat → Nat → Int32) (y3 y4 : Int32) (z : (Int32 × (Nat → Nat → Int32))), f_X5_mayOf_L12 x1 n σ y3 y4 = some z → GG p l e rm_X5_mayOf s m args below meth c Q A dC dI 5 (wM cI cZ q z.2) 48 [(0, .ref (q 0)), (1, .int x1), (2, .int x2), (3, .int z.1)] [] → GG p l e rm_X5_mayOf s m args below meth c Q A dC dI 5 (wM cI cZ q σ) 12 [(0, .ref (q 0)), (1, .int x1), (2, .int x2), (3, .int y3), (4, .int y4)] [] := by
  intro n
  induction n with
  | zero =>
    intro σ y3 y4 z h
    rw [f_X5_mayOf_L12] at h
    cases h
  | succ n ih =>
    intro σ y3 y4 z h hK
    rw [f_X5_mayOf_L12] at h
    refine s_iload E 4 rfl dX5_mayOf_12 ?_
    refine s_bipush E (v := 100) dX5_mayOf_14 kb_100 ?_
    refine s_icmp_ge E 48 dX5_mayOf_16 (by decide) (fun c2 => ?_) (fun c2 => ?_)
    · have h := (if_pos c2).symm.trans h
      refine s_sub E (lv' := [(0, .ref (q 0)), (1, .int x1), (2, .int x2), (3, .int y3)]) [0, 1, 2, 3] rfl ?_
      obtain rfl := Option.some.inj h
      exact hK
    · have h := (if_neg c2).symm.trans h
      refine s_aload_n E 0 rfl dX5_mayOf_19 rfl ?_
      refine s_get E (v := .ref (q 6)) 0 7 in_X5 gM_0 rfl (by decide) m_f_X5_25 rfl dX5_mayOf_20 ?_
      refine s_iload_n E 1 rfl dX5_mayOf_23 rfl ?_
      refine s_iload E 4 rfl dX5_mayOf_24 ?_
      obtain ⟨b3, h⟩ := chk_some h
      refine s_iast E (w' := (wM cI cZ q (up2 σ 6 (x1.toNatClampNeg) y4))) 6 gM_6 b3 aM_6 dX5_mayOf_26 ?_
      refine s_iload_n E 3 rfl dX5_mayOf_27 rfl ?_
      refine s_aload_n E 0 rfl dX5_mayOf_28 rfl ?_
      obtain ⟨u4, e4, h⟩ := bnd_some h
      refine s_callVi E kf_X5_allFit m_l_X5_198 (c_X5_allFit q (up2 σ 6 (x1.toNatClampNeg) y4) u4 e4) ⟨rfl, rfl, by decide, by decide⟩ (q0 := 0) rfl rfl rfl rfl rfl (Nat.le_of_ble_eq_true rfl) dX5_mayOf_29 ?_
      refine s_if_eq E 39 dX5_mayOf_32 (by decide) (fun c5 => ?_) (fun c5 => ?_)
      · have h := (if_pos c5).symm.trans h
        refine s_iconst E (v := 0) dX5_mayOf_39 ki_0 ?_
        refine s_iadd E dX5_mayOf_40 ?_
        refine s_istore_n E (lv' := [(0, .ref (q 0)), (1, .int x1), (2, .int x2), (3, .int (y3 + 0)), (4, .int y4)]) dX5_mayOf_41 rfl rfl rfl rfl (by decide) ?_
        refine s_iinc E (v := (y4 + 1)) (lv' := [(0, .ref (q 0)), (1, .int x1), (2, .int x2), (3, .int (y3 + 0)), (4, .int (y4 + 1))]) 4 rfl dX5_mayOf_42 ki_1 rfl rfl rfl rfl (by decide) ?_
        refine s_goto E 12 dX5_mayOf_45 (by decide) ?_
        exact ih (up2 σ 6 (x1.toNatClampNeg) y4) (y3 + 0) (y4 + 1) z h hK
      · have h := (if_neg c5).symm.trans h
        refine s_iconst E (v := 1) dX5_mayOf_35 ki_1 ?_
        refine s_goto E 40 dX5_mayOf_36 (by decide) ?_
        refine s_iadd E dX5_mayOf_40 ?_
        refine s_istore_n E (lv' := [(0, .ref (q 0)), (1, .int x1), (2, .int x2), (3, .int (y3 + 1)), (4, .int y4)]) dX5_mayOf_41 rfl rfl rfl rfl (by decide) ?_
        refine s_iinc E (v := (y4 + 1)) (lv' := [(0, .ref (q 0)), (1, .int x1), (2, .int x2), (3, .int (y3 + 1)), (4, .int (y4 + 1))]) 4 rfl dX5_mayOf_42 ki_1 rfl rfl rfl rfl (by decide) ?_
        refine s_goto E 12 dX5_mayOf_45 (by decide) ?_
        exact ih (up2 σ 6 (x1.toNatClampNeg) y4) (y3 + 1) (y4 + 1) z h hK
noncomputable def f_X5_mayOf (σ : Nat → Nat → Int32) (x1 : Int32) : Option (Int32 × (Nat → Nat → Int32)) :=
  (chk x1 8 ((f_X5_mayOf_L12 x1 fuel σ 0 1).bind fun u6 => (chk x1 8 (some (u6.1, (up2 u6.2 6 (x1.toNatClampNeg) (σ 6 (x1.toNatClampNeg))))))))
set_option maxRecDepth 100000 in
set_option maxHeartbeats 4000000 in
theorem c_X5_mayOf (q : Nat → Nat) (σ : Nat → Nat → Int32) (x1 : Int32) (z : (Int32 × (Nat → Nat → Int32))) (h : f_X5_mayOf σ x1 = some z) : CT l dC dI cI cZ A yX5_mayOf cX5_mayOf 5 (some .int) rm_X5_mayOf [.ref (q 0), .int x1] (wM cI cZ q σ) (wM cI cZ q z.2) (some (.int z.1)) := by
  refine b_met (by decide) (Nat.le_of_ble_eq_true rfl) ?_
  intro p e s m below meth c E
  have E : EV p s m _ meth c dC dI cI cZ cX5_mayOf 5 RX5 (some .int) := E
  show GG p l e rm_X5_mayOf s m _ below meth c _ A dC dI 5 (wM cI cZ q σ) 0 [(0, .ref (q 0)), (1, .int x1)] []
  unfold f_X5_mayOf at h
  refine s_aload_n E 0 rfl dX5_mayOf_0 rfl ?_
  refine s_get E (v := .ref (q 6)) 0 7 in_X5 gM_0 rfl (by decide) m_f_X5_25 rfl dX5_mayOf_1 ?_
  refine s_iload_n E 1 rfl dX5_mayOf_4 rfl ?_
  obtain ⟨b1, h⟩ := chk_some h
  refine s_iald E (v := (σ 6 (x1.toNatClampNeg))) 6 gM_6 b1 rfl dX5_mayOf_5 ?_
  refine s_istore_n E (lv' := [(0, .ref (q 0)), (1, .int x1), (2, .int (σ 6 (x1.toNatClampNeg)))]) dX5_mayOf_6 rfl rfl rfl rfl (by decide) ?_
  refine s_iconst E (v := 0) dX5_mayOf_7 ki_0 ?_
  refine s_istore_n E (lv' := [(0, .ref (q 0)), (1, .int x1), (2, .int (σ 6 (x1.toNatClampNeg))), (3, .int 0)]) dX5_mayOf_8 rfl rfl rfl rfl (by decide) ?_
  refine s_iconst E (v := 1) dX5_mayOf_9 ki_1 ?_
  refine s_istore E (lv' := [(0, .ref (q 0)), (1, .int x1), (2, .int (σ 6 (x1.toNatClampNeg))), (3, .int 0), (4, .int 1)]) dX5_mayOf_10 rfl rfl rfl (by decide) ?_
  obtain ⟨u6, e6, h⟩ := bnd_some h
  refine w_X5_mayOf_L12 E q x1 (σ 6 (x1.toNatClampNeg)) fuel σ 0 1 u6 e6 ?_
  refine s_aload_n E 0 rfl dX5_mayOf_48 rfl ?_
  refine s_get E (v := .ref (q 6)) 0 7 in_X5 gM_0 rfl (by decide) m_f_X5_25 rfl dX5_mayOf_49 ?_
  refine s_iload_n E 1 rfl dX5_mayOf_52 rfl ?_
  refine s_iload_n E 2 rfl dX5_mayOf_53 rfl ?_
  obtain ⟨b7, h⟩ := chk_some h
  refine s_iast E (w' := (wM cI cZ q (up2 u6.2 6 (x1.toNatClampNeg) (σ 6 (x1.toNatClampNeg))))) 6 gM_6 b7 aM_6 dX5_mayOf_54 ?_
  refine s_iload_n E 3 rfl dX5_mayOf_55 rfl ?_
  obtain rfl := Option.some.inj h
  exact s_iret E rfl rfl dX5_mayOf_56
end
abbrev rm_X5_liars : Room := { frames := 6, cells := 0, slots := 0, locals := 145 }
section
noncomputable def f_X5_liars_L4 : Nat → (Nat → Nat → Int32) → Int32 → Int32 → Option (Int32 × (Nat → Nat → Int32))
  | 0, _, _, _ => none
  | n + 1, σ, y1, y2 =>
    (if (σ 0 5) ≤ y2 then (some (y1, σ)) else ((f_X5_allFit σ).bind fun u2 => (if u2 = 0 then ((f_X5_mayOf σ y2).bind fun u4 => (if u4.1 ≤ 0 then (f_X5_liars_L4 n u4.2 (y1 ||| 0) (y2 + 1)) else (f_X5_liars_L4 n u4.2 (y1 ||| (shl 1 y2)) (y2 + 1)))) else (some (y1, σ)))))
set_option maxRecDepth 100000 in
set_option maxHeartbeats 4000000 in
theorem w_X5_liars_L4 (E : EV p s m args meth c dC dI cI cZ cX5_liars 3 RX5 (some .int)) (q : Nat → Nat) : ∀ (n : Nat) (σ : Nat → Nat → Int32) (y1 y2 : Int32) (z : (Int32 × (Nat → Nat → Int32))), f_X5_liars_L4 n σ y1 y2 = some z → GG p l e rm_X5_liars s m args below meth c Q A dC dI 3 (wM cI cZ q z.2) 43 [(0, .ref (q 0)), (1, .int z.1)] [] → GG p l e rm_X5_liars s m args below meth c Q A dC dI 3 (wM cI cZ q σ) 4 [(0, .ref (q 0)), (1, .int y1), (2, .int y2)] [] := by
  intro n
  induction n with
  | zero =>
    intro σ y1 y2 z h
    rw [f_X5_liars_L4] at h
    cases h
  | succ n ih =>
    intro σ y1 y2 z h hK
    rw [f_X5_liars_L4] at h
    refine s_iload_n E 2 rfl dX5_liars_4 rfl ?_
    refine s_aload_n E 0 rfl dX5_liars_5 rfl ?_
    refine s_geti E (y := (σ 0 5)) 0 5 in_X5 gM_0 rfl (by decide) m_f_X5_99 rfl rfl dX5_liars_6 ?_
    refine s_icmp_ge E 43 dX5_liars_9 (by decide) (fun c1 => ?_) (fun c1 => ?_)
    · have h := (if_pos c1).symm.trans h
      refine s_sub E (lv' := [(0, .ref (q 0)), (1, .int y1)]) [0, 1] rfl ?_
      obtain rfl := Option.some.inj h
      exact hK
    · have h := (if_neg c1).symm.trans h
      refine s_aload_n E 0 rfl dX5_liars_12 rfl ?_
      obtain ⟨u2, e2, h⟩ := bnd_some h
      refine s_callVi E kf_X5_allFit m_l_X5_198 (c_X5_allFit q σ u2 e2) ⟨rfl, rfl, by decide, by decide⟩ (q0 := 0) rfl rfl rfl rfl rfl (Nat.le_of_ble_eq_true rfl) dX5_liars_13 ?_
      refine s_if_ne E 43 dX5_liars_16 (by decide) (fun c3 => ?_) (fun c3 => ?_)
      · have h := (if_pos c3).symm.trans h
        refine s_iload_n E 1 rfl dX5_liars_19 rfl ?_
        refine s_aload_n E 0 rfl dX5_liars_20 rfl ?_
        refine s_iload_n E 2 rfl dX5_liars_21 rfl ?_
        obtain ⟨u4, e4, h⟩ := bnd_some h
        refine s_callVi E kf_X5_mayOf m_l_X5_202 (c_X5_mayOf q σ y2 u4 e4) ⟨rfl, rfl, by decide, by decide⟩ (q0 := 0) rfl rfl rfl rfl rfl (Nat.le_of_ble_eq_true rfl) dX5_liars_22 ?_
        refine s_if_le E 34 dX5_liars_25 (by decide) (fun c5 => ?_) (fun c5 => ?_)
        · have h := (if_pos c5).symm.trans h
          refine s_iconst E (v := 0) dX5_liars_34 ki_0 ?_
          refine s_ior E dX5_liars_35 ?_
          refine s_istore_n E (lv' := [(0, .ref (q 0)), (1, .int (y1 ||| 0)), (2, .int y2)]) dX5_liars_36 rfl rfl rfl rfl (by decide) ?_
          refine s_iinc E (v := (y2 + 1)) (lv' := [(0, .ref (q 0)), (1, .int (y1 ||| 0)), (2, .int (y2 + 1))]) 2 rfl dX5_liars_37 ki_1 rfl rfl rfl rfl (by decide) ?_
          refine s_goto E 4 dX5_liars_40 (by decide) ?_
          exact ih u4.2 (y1 ||| 0) (y2 + 1) z h hK
        · have h := (if_neg c5).symm.trans h
          refine s_iconst E (v := 1) dX5_liars_28 ki_1 ?_
          refine s_iload_n E 2 rfl dX5_liars_29 rfl ?_
          refine s_ishl E dX5_liars_30 ?_
          refine s_goto E 35 dX5_liars_31 (by decide) ?_
          refine s_ior E dX5_liars_35 ?_
          refine s_istore_n E (lv' := [(0, .ref (q 0)), (1, .int (y1 ||| (shl 1 y2))), (2, .int y2)]) dX5_liars_36 rfl rfl rfl rfl (by decide) ?_
          refine s_iinc E (v := (y2 + 1)) (lv' := [(0, .ref (q 0)), (1, .int (y1 ||| (shl 1 y2))), (2, .int (y2 + 1))]) 2 rfl dX5_liars_37 ki_1 rfl rfl rfl rfl (by decide) ?_
          refine s_goto E 4 dX5_liars_40 (by decide) ?_
          exact ih u4.2 (y1 ||| (shl 1 y2)) (y2 + 1) z h hK
      · have h := (if_neg c3).symm.trans h
        refine s_sub E (lv' := [(0, .ref (q 0)), (1, .int y1)]) [0, 1] rfl ?_
        obtain rfl := Option.some.inj h
        exact hK
noncomputable def f_X5_liars (σ : Nat → Nat → Int32) : Option (Int32 × (Nat → Nat → Int32)) :=
  ((f_X5_liars_L4 fuel σ 0 0).bind fun u6 => (some (u6.1, u6.2)))
set_option maxRecDepth 100000 in
set_option maxHeartbeats 4000000 in
theorem c_X5_liars (q : Nat → Nat) (σ : Nat → Nat → Int32) (z : (Int32 × (Nat → Nat → Int32))) (h : f_X5_liars σ = some z) : CT l dC dI cI cZ A yX5_liars cX5_liars 3 (some .int) rm_X5_liars [.ref (q 0)] (wM cI cZ q σ) (wM cI cZ q z.2) (some (.int z.1)) := by
  refine b_met (by decide) (Nat.le_of_ble_eq_true rfl) ?_
  intro p e s m below meth c E
  have E : EV p s m _ meth c dC dI cI cZ cX5_liars 3 RX5 (some .int) := E
  show GG p l e rm_X5_liars s m _ below meth c _ A dC dI 3 (wM cI cZ q σ) 0 [(0, .ref (q 0))] []
  unfold f_X5_liars at h
  refine s_iconst E (v := 0) dX5_liars_0 ki_0 ?_
  refine s_istore_n E (lv' := [(0, .ref (q 0)), (1, .int 0)]) dX5_liars_1 rfl rfl rfl rfl (by decide) ?_
  refine s_iconst E (v := 0) dX5_liars_2 ki_0 ?_
  refine s_istore_n E (lv' := [(0, .ref (q 0)), (1, .int 0), (2, .int 0)]) dX5_liars_3 rfl rfl rfl rfl (by decide) ?_
  obtain ⟨u6, e6, h⟩ := bnd_some h
  refine w_X5_liars_L4 E q fuel σ 0 0 u6 e6 ?_
  refine s_iload_n E 1 rfl dX5_liars_43 rfl ?_
  obtain rfl := Option.some.inj h
  exact s_iret E rfl rfl dX5_liars_44
end
abbrev rm_X5_mayWeigh : Room := { frames := 6, cells := 0, slots := 0, locals := 145 }
section
noncomputable def f_X5_mayWeigh (σ : Nat → Nat → Int32) (x1 : Int32) : Option (Int32 × (Nat → Nat → Int32)) :=
  ((f_X5_isPerson σ x1).bind fun u1 => (if u1 = 0 then (some ((-1), σ)) else ((f_X5_mayOf σ x1).bind fun u3 => (some (u3.1, u3.2)))))
set_option maxRecDepth 100000 in
set_option maxHeartbeats 4000000 in
theorem c_X5_mayWeigh (q : Nat → Nat) (σ : Nat → Nat → Int32) (x1 : Int32) (z : (Int32 × (Nat → Nat → Int32))) (h : f_X5_mayWeigh σ x1 = some z) : CT l dC dI cI cZ A yX5_mayWeigh cX5_mayWeigh 2 (some .int) rm_X5_mayWeigh [.ref (q 0), .int x1] (wM cI cZ q σ) (wM cI cZ q z.2) (some (.int z.1)) := by
  refine b_met (by decide) (Nat.le_of_ble_eq_true rfl) ?_
  intro p e s m below meth c E
  have E : EV p s m _ meth c dC dI cI cZ cX5_mayWeigh 2 RX5 (some .int) := E
  show GG p l e rm_X5_mayWeigh s m _ below meth c _ A dC dI 2 (wM cI cZ q σ) 0 [(0, .ref (q 0)), (1, .int x1)] []
  unfold f_X5_mayWeigh at h
  refine s_aload_n E 0 rfl dX5_mayWeigh_0 rfl ?_
  refine s_iload_n E 1 rfl dX5_mayWeigh_1 rfl ?_
  obtain ⟨u1, e1, h⟩ := bnd_some h
  refine s_callVi E kf_X5_isPerson m_l_X5_110 (c_X5_isPerson q σ x1 u1 e1) ⟨rfl, rfl, by decide, by decide⟩ (q0 := 0) rfl rfl rfl rfl rfl (Nat.le_of_ble_eq_true rfl) dX5_mayWeigh_2 ?_
  refine s_if_eq E 16 dX5_mayWeigh_5 (by decide) (fun c2 => ?_) (fun c2 => ?_)
  · have h := (if_pos c2).symm.trans h
    refine s_iconst E (v := (-1)) dX5_mayWeigh_16 ki_m1 ?_
    obtain rfl := Option.some.inj h
    exact s_iret E rfl rfl dX5_mayWeigh_17
  · have h := (if_neg c2).symm.trans h
    refine s_aload_n E 0 rfl dX5_mayWeigh_8 rfl ?_
    refine s_iload_n E 1 rfl dX5_mayWeigh_9 rfl ?_
    obtain ⟨u3, e3, h⟩ := bnd_some h
    refine s_callVi E kf_X5_mayOf m_l_X5_202 (c_X5_mayOf q σ x1 u3 e3) ⟨rfl, rfl, by decide, by decide⟩ (q0 := 0) rfl rfl rfl rfl rfl (Nat.le_of_ble_eq_true rfl) dX5_mayWeigh_10 ?_
    refine s_goto E 17 dX5_mayWeigh_13 (by decide) ?_
    obtain rfl := Option.some.inj h
    exact s_iret E rfl rfl dX5_mayWeigh_17
end
abbrev rm_X5_keep : Room := { frames := 1, cells := 0, slots := 0, locals := 25 }
section
noncomputable def f_X5_keep_L21 (x1 : Int32) : Nat → (Nat → Nat → Int32) → Int32 → Option (Nat → Nat → Int32)
  | 0, _, _ => none
  | n + 1, σ, y2 =>
    (if 8 ≤ y2 then (some σ) else (chk y2 8 (chk ((8 * x1) + y2) 16 (chk y2 8 (chk ((8 * x1) + y2) 16 (chk y2 8 (chk ((8 * x1) + y2) 16 (f_X5_keep_L21 x1 n (up2 (up2 (up2 σ 15 (((8 * x1) + y2).toNatClampNeg) (σ 7 (y2.toNatClampNeg))) 16 (((8 * x1) + y2).toNatClampNeg) (σ 5 (y2.toNatClampNeg))) 17 (((8 * x1) + y2).toNatClampNeg) (σ 6 (y2.toNatClampNeg))) (y2 + 1)))))))))
set_option maxRecDepth 100000 in
set_option maxHeartbeats 4000000 in
theorem w_X5_keep_L21 (E : EV p s m args meth c dC dI cI cZ cX5_keep 3 RX5 (some .int)) (q : Nat → Nat) (x1 : Int32) : ∀ (n : Nat) (σ : Nat → Nat → Int32) (y2 : Int32) (z : (Nat → Nat → Int32)), f_X5_keep_L21 x1 n σ y2 = some z → GG p l e rm_X5_keep s m args below meth c Q A dC dI 3 (wM cI cZ q z) 84 [(0, .ref (q 0)), (1, .int x1)] [] → GG p l e rm_X5_keep s m args below meth c Q A dC dI 3 (wM cI cZ q σ) 21 [(0, .ref (q 0)), (1, .int x1), (2, .int y2)] [] := by
  intro n
  induction n with
  | zero =>
    intro σ y2 z h
    rw [f_X5_keep_L21] at h
    cases h
  | succ n ih =>
    intro σ y2 z h hK
    rw [f_X5_keep_L21] at h
    refine s_iload_n E 2 rfl dX5_keep_21 rfl ?_
    refine s_bipush E (v := 8) dX5_keep_22 kb_8 ?_
    refine s_icmp_ge E 84 dX5_keep_24 (by decide) (fun c3 => ?_) (fun c3 => ?_)
    · have h := (if_pos c3).symm.trans h
      refine s_sub E (lv' := [(0, .ref (q 0)), (1, .int x1)]) [0, 1] rfl ?_
      obtain rfl := Option.some.inj h
      exact hK
    · have h := (if_neg c3).symm.trans h
      refine s_aload_n E 0 rfl dX5_keep_27 rfl ?_
      refine s_get E (v := .ref (q 15)) 0 24 in_X5 gM_0 rfl (by decide) m_f_X5_53 rfl dX5_keep_28 ?_
      refine s_bipush E (v := 8) dX5_keep_31 kb_8 ?_
      refine s_iload_n E 1 rfl dX5_keep_33 rfl ?_
      refine s_imul E dX5_keep_34 ?_
      refine s_iload_n E 2 rfl dX5_keep_35 rfl ?_
      refine s_iadd E dX5_keep_36 ?_
      refine s_aload_n E 0 rfl dX5_keep_37 rfl ?_
      refine s_get E (v := .ref (q 7)) 0 8 in_X5 gM_0 rfl (by decide) m_f_X5_28 rfl dX5_keep_38 ?_
      refine s_iload_n E 2 rfl dX5_keep_41 rfl ?_
      obtain ⟨b4, h⟩ := chk_some h
      refine s_iald E (v := (σ 7 (y2.toNatClampNeg))) 7 gM_7 b4 rfl dX5_keep_42 ?_
      obtain ⟨b5, h⟩ := chk_some h
      refine s_iast E (w' := (wM cI cZ q (up2 σ 15 (((8 * x1) + y2).toNatClampNeg) (σ 7 (y2.toNatClampNeg))))) 15 gM_15 b5 aM_15 dX5_keep_43 ?_
      refine s_aload_n E 0 rfl dX5_keep_44 rfl ?_
      refine s_get E (v := .ref (q 16)) 0 25 in_X5 gM_0 rfl (by decide) m_f_X5_56 rfl dX5_keep_45 ?_
      refine s_bipush E (v := 8) dX5_keep_48 kb_8 ?_
      refine s_iload_n E 1 rfl dX5_keep_50 rfl ?_
      refine s_imul E dX5_keep_51 ?_
      refine s_iload_n E 2 rfl dX5_keep_52 rfl ?_
      refine s_iadd E dX5_keep_53 ?_
      refine s_aload_n E 0 rfl dX5_keep_54 rfl ?_
      refine s_get E (v := .ref (q 5)) 0 6 in_X5 gM_0 rfl (by decide) m_f_X5_22 rfl dX5_keep_55 ?_
      refine s_iload_n E 2 rfl dX5_keep_58 rfl ?_
      obtain ⟨b6, h⟩ := chk_some h
      refine s_iald E (v := (σ 5 (y2.toNatClampNeg))) 5 gM_5 b6 (up2_n rfl) dX5_keep_59 ?_
      obtain ⟨b7, h⟩ := chk_some h
      refine s_iast E (w' := (wM cI cZ q (up2 (up2 σ 15 (((8 * x1) + y2).toNatClampNeg) (σ 7 (y2.toNatClampNeg))) 16 (((8 * x1) + y2).toNatClampNeg) (σ 5 (y2.toNatClampNeg))))) 16 gM_16 b7 aM_16 dX5_keep_60 ?_
      refine s_aload_n E 0 rfl dX5_keep_61 rfl ?_
      refine s_get E (v := .ref (q 17)) 0 26 in_X5 gM_0 rfl (by decide) m_f_X5_59 rfl dX5_keep_62 ?_
      refine s_bipush E (v := 8) dX5_keep_65 kb_8 ?_
      refine s_iload_n E 1 rfl dX5_keep_67 rfl ?_
      refine s_imul E dX5_keep_68 ?_
      refine s_iload_n E 2 rfl dX5_keep_69 rfl ?_
      refine s_iadd E dX5_keep_70 ?_
      refine s_aload_n E 0 rfl dX5_keep_71 rfl ?_
      refine s_get E (v := .ref (q 6)) 0 7 in_X5 gM_0 rfl (by decide) m_f_X5_25 rfl dX5_keep_72 ?_
      refine s_iload_n E 2 rfl dX5_keep_75 rfl ?_
      obtain ⟨b8, h⟩ := chk_some h
      refine s_iald E (v := (σ 6 (y2.toNatClampNeg))) 6 gM_6 b8 ((up2_n rfl).trans (up2_n rfl)) dX5_keep_76 ?_
      obtain ⟨b9, h⟩ := chk_some h
      refine s_iast E (w' := (wM cI cZ q (up2 (up2 (up2 σ 15 (((8 * x1) + y2).toNatClampNeg) (σ 7 (y2.toNatClampNeg))) 16 (((8 * x1) + y2).toNatClampNeg) (σ 5 (y2.toNatClampNeg))) 17 (((8 * x1) + y2).toNatClampNeg) (σ 6 (y2.toNatClampNeg))))) 17 gM_17 b9 aM_17 dX5_keep_77 ?_
      refine s_iinc E (v := (y2 + 1)) (lv' := [(0, .ref (q 0)), (1, .int x1), (2, .int (y2 + 1))]) 2 rfl dX5_keep_78 ki_1 rfl rfl rfl rfl (by decide) ?_
      refine s_goto E 21 dX5_keep_81 (by decide) ?_
      exact ih (up2 (up2 (up2 σ 15 (((8 * x1) + y2).toNatClampNeg) (σ 7 (y2.toNatClampNeg))) 16 (((8 * x1) + y2).toNatClampNeg) (σ 5 (y2.toNatClampNeg))) 17 (((8 * x1) + y2).toNatClampNeg) (σ 6 (y2.toNatClampNeg))) (y2 + 1) z h hK
noncomputable def f_X5_keep_L86 (x1 : Int32) : Nat → (Nat → Nat → Int32) → Int32 → Option (Nat → Nat → Int32)
  | 0, _, _ => none
  | n + 1, σ, y2 =>
    (if 24 ≤ y2 then (some σ) else (chk y2 24 (chk ((24 * x1) + y2) 48 (f_X5_keep_L86 x1 n (up2 σ 18 (((24 * x1) + y2).toNatClampNeg) (σ 9 (y2.toNatClampNeg))) (y2 + 1)))))
set_option maxRecDepth 100000 in
set_option maxHeartbeats 4000000 in
theorem w_X5_keep_L86 (E : EV p s m args meth c dC dI cI cZ cX5_keep 3 RX5 (some .int)) (q : Nat → Nat) (x1 : Int32) : ∀ (n : Nat) (σ : Nat → Nat → Int32) (y2 : Int32) (z : (Nat → Nat → Int32)), f_X5_keep_L86 x1 n σ y2 = some z → GG p l e rm_X5_keep s m args below meth c Q A dC dI 3 (wM cI cZ q z) 115 [(0, .ref (q 0)), (1, .int x1)] [] → GG p l e rm_X5_keep s m args below meth c Q A dC dI 3 (wM cI cZ q σ) 86 [(0, .ref (q 0)), (1, .int x1), (2, .int y2)] [] := by
  intro n
  induction n with
  | zero =>
    intro σ y2 z h
    rw [f_X5_keep_L86] at h
    cases h
  | succ n ih =>
    intro σ y2 z h hK
    rw [f_X5_keep_L86] at h
    refine s_iload_n E 2 rfl dX5_keep_86 rfl ?_
    refine s_bipush E (v := 24) dX5_keep_87 kb_24 ?_
    refine s_icmp_ge E 115 dX5_keep_89 (by decide) (fun c11 => ?_) (fun c11 => ?_)
    · have h := (if_pos c11).symm.trans h
      refine s_sub E (lv' := [(0, .ref (q 0)), (1, .int x1)]) [0, 1] rfl ?_
      obtain rfl := Option.some.inj h
      exact hK
    · have h := (if_neg c11).symm.trans h
      refine s_aload_n E 0 rfl dX5_keep_92 rfl ?_
      refine s_get E (v := .ref (q 18)) 0 27 in_X5 gM_0 rfl (by decide) m_f_X5_62 rfl dX5_keep_93 ?_
      refine s_bipush E (v := 24) dX5_keep_96 kb_24 ?_
      refine s_iload_n E 1 rfl dX5_keep_98 rfl ?_
      refine s_imul E dX5_keep_99 ?_
      refine s_iload_n E 2 rfl dX5_keep_100 rfl ?_
      refine s_iadd E dX5_keep_101 ?_
      refine s_aload_n E 0 rfl dX5_keep_102 rfl ?_
      refine s_get E (v := .ref (q 9)) 0 15 in_X5 gM_0 rfl (by decide) m_f_X5_34 rfl dX5_keep_103 ?_
      refine s_iload_n E 2 rfl dX5_keep_106 rfl ?_
      obtain ⟨b12, h⟩ := chk_some h
      refine s_iald E (v := (σ 9 (y2.toNatClampNeg))) 9 gM_9 b12 rfl dX5_keep_107 ?_
      obtain ⟨b13, h⟩ := chk_some h
      refine s_iast E (w' := (wM cI cZ q (up2 σ 18 (((24 * x1) + y2).toNatClampNeg) (σ 9 (y2.toNatClampNeg))))) 18 gM_18 b13 aM_18 dX5_keep_108 ?_
      refine s_iinc E (v := (y2 + 1)) (lv' := [(0, .ref (q 0)), (1, .int x1), (2, .int (y2 + 1))]) 2 rfl dX5_keep_109 ki_1 rfl rfl rfl rfl (by decide) ?_
      refine s_goto E 86 dX5_keep_112 (by decide) ?_
      exact ih (up2 σ 18 (((24 * x1) + y2).toNatClampNeg) (σ 9 (y2.toNatClampNeg))) (y2 + 1) z h hK
noncomputable def f_X5_keep (σ : Nat → Nat → Int32) (x1 : Int32) : Option (Int32 × (Nat → Nat → Int32)) :=
  (if (f_X5_in x1.toInt64 (0 : Int64) (1 : Int64)) = 0 then (some ((-1), σ)) else (chk x1 2 ((f_X5_keep_L21 x1 fuel (up2 σ 14 (x1.toNatClampNeg) 1) 0).bind fun u10 => ((f_X5_keep_L86 x1 fuel u10 0).bind fun u14 => (chk (2 * x1) 4 (chk ((2 * x1) + 1) 4 (some ((u14 0 14), (up2 (up2 u14 19 ((2 * x1).toNatClampNeg) (u14 0 14)) 19 (((2 * x1) + 1).toNatClampNeg) (u14 0 9))))))))))
set_option maxRecDepth 100000 in
set_option maxHeartbeats 4000000 in
theorem c_X5_keep (q : Nat → Nat) (σ : Nat → Nat → Int32) (x1 : Int32) (z : (Int32 × (Nat → Nat → Int32))) (h : f_X5_keep σ x1 = some z) : CT l dC dI cI cZ A yX5_keep cX5_keep 3 (some .int) rm_X5_keep [.ref (q 0), .int x1] (wM cI cZ q σ) (wM cI cZ q z.2) (some (.int z.1)) := by
  refine b_met (by decide) (Nat.le_of_ble_eq_true rfl) ?_
  intro p e s m below meth c E
  have E : EV p s m _ meth c dC dI cI cZ cX5_keep 3 RX5 (some .int) := E
  show GG p l e rm_X5_keep s m _ below meth c _ A dC dI 3 (wM cI cZ q σ) 0 [(0, .ref (q 0)), (1, .int x1)] []
  unfold f_X5_keep at h
  refine s_iload_n E 1 rfl dX5_keep_0 rfl ?_
  refine s_i2l E dX5_keep_1 ?_
  refine s_lconst E (v := 0) dX5_keep_2 (by decide) ?_
  refine s_lconst E (v := 1) dX5_keep_3 (by decide) ?_
  refine s_callSi E kf_X5_in m_l_X5_70 (c_X5_in (wM cI cZ q σ) x1.toInt64 (0 : Int64) (1 : Int64)) ⟨rfl, rfl, by decide, by decide⟩ rfl rfl (Nat.le_of_ble_eq_true rfl) dX5_keep_4 ?_
  refine s_if_ne E 12 dX5_keep_7 (by decide) (fun c1 => ?_) (fun c1 => ?_)
  · have h := (if_pos c1).symm.trans h
    refine s_iconst E (v := (-1)) dX5_keep_10 ki_m1 ?_
    obtain rfl := Option.some.inj h
    exact s_iret E rfl rfl dX5_keep_11
  · have h := (if_neg c1).symm.trans h
    refine s_aload_n E 0 rfl dX5_keep_12 rfl ?_
    refine s_get E (v := .ref (q 14)) 0 23 in_X5 gM_0 rfl (by decide) m_f_X5_50 rfl dX5_keep_13 ?_
    refine s_iload_n E 1 rfl dX5_keep_16 rfl ?_
    refine s_iconst E (v := 1) dX5_keep_17 ki_1 ?_
    obtain ⟨b2, h⟩ := chk_some h
    refine s_zast E (w' := (wM cI cZ q (up2 σ 14 (x1.toNatClampNeg) 1))) 14 gM_14 b2 aM_14_1 dX5_keep_18 ?_
    refine s_iconst E (v := 0) dX5_keep_19 ki_0 ?_
    refine s_istore_n E (lv' := [(0, .ref (q 0)), (1, .int x1), (2, .int 0)]) dX5_keep_20 rfl rfl rfl rfl (by decide) ?_
    obtain ⟨u10, e10, h⟩ := bnd_some h
    refine w_X5_keep_L21 E q x1 fuel (up2 σ 14 (x1.toNatClampNeg) 1) 0 u10 e10 ?_
    refine s_iconst E (v := 0) dX5_keep_84 ki_0 ?_
    refine s_istore_n E (lv' := [(0, .ref (q 0)), (1, .int x1), (2, .int 0)]) dX5_keep_85 rfl rfl rfl rfl (by decide) ?_
    obtain ⟨u14, e14, h⟩ := bnd_some h
    refine w_X5_keep_L86 E q x1 fuel u10 0 u14 e14 ?_
    refine s_aload_n E 0 rfl dX5_keep_115 rfl ?_
    refine s_get E (v := .ref (q 19)) 0 28 in_X5 gM_0 rfl (by decide) m_f_X5_65 rfl dX5_keep_116 ?_
    refine s_iconst E (v := 2) dX5_keep_119 ki_2 ?_
    refine s_iload_n E 1 rfl dX5_keep_120 rfl ?_
    refine s_imul E dX5_keep_121 ?_
    refine s_aload_n E 0 rfl dX5_keep_122 rfl ?_
    refine s_geti E (y := (u14 0 14)) 0 14 in_X5 gM_0 rfl (by decide) m_f_X5_105 rfl rfl dX5_keep_123 ?_
    obtain ⟨b15, h⟩ := chk_some h
    refine s_iast E (w' := (wM cI cZ q (up2 u14 19 ((2 * x1).toNatClampNeg) (u14 0 14)))) 19 gM_19 b15 aM_19 dX5_keep_126 ?_
    refine s_aload_n E 0 rfl dX5_keep_127 rfl ?_
    refine s_get E (v := .ref (q 19)) 0 28 in_X5 gM_0 rfl (by decide) m_f_X5_65 rfl dX5_keep_128 ?_
    refine s_iconst E (v := 2) dX5_keep_131 ki_2 ?_
    refine s_iload_n E 1 rfl dX5_keep_132 rfl ?_
    refine s_imul E dX5_keep_133 ?_
    refine s_iconst E (v := 1) dX5_keep_134 ki_1 ?_
    refine s_iadd E dX5_keep_135 ?_
    refine s_aload_n E 0 rfl dX5_keep_136 rfl ?_
    refine s_geti E (y := (u14 0 9)) 0 9 in_X5 gM_0 rfl (by decide) m_f_X5_102 rfl (up2_n rfl) dX5_keep_137 ?_
    obtain ⟨b16, h⟩ := chk_some h
    refine s_iast E (w' := (wM cI cZ q (up2 (up2 u14 19 ((2 * x1).toNatClampNeg) (u14 0 14)) 19 (((2 * x1) + 1).toNatClampNeg) (u14 0 9)))) 19 gM_19 b16 aM_19 dX5_keep_140 ?_
    refine s_aload_n E 0 rfl dX5_keep_141 rfl ?_
    refine s_geti E (y := (u14 0 14)) 0 14 in_X5 gM_0 rfl (by decide) m_f_X5_105 rfl ((up2_n rfl).trans (up2_n rfl)) dX5_keep_142 ?_
    obtain rfl := Option.some.inj h
    exact s_iret E rfl rfl dX5_keep_145
end
abbrev rm_X5_again : Room := { frames := 1, cells := 0, slots := 0, locals := 25 }
section
noncomputable def f_X5_again_L26 (x1 : Int32) : Nat → (Nat → Nat → Int32) → Int32 → Option (Nat → Nat → Int32)
  | 0, _, _ => none
  | n + 1, σ, y2 =>
    (if 8 ≤ y2 then (some σ) else (chk ((8 * x1) + y2) 16 (chk y2 8 (chk ((8 * x1) + y2) 16 (chk y2 8 (chk ((8 * x1) + y2) 16 (chk y2 8 (f_X5_again_L26 x1 n (up2 (up2 (up2 σ 7 (y2.toNatClampNeg) (σ 15 (((8 * x1) + y2).toNatClampNeg))) 5 (y2.toNatClampNeg) (σ 16 (((8 * x1) + y2).toNatClampNeg))) 6 (y2.toNatClampNeg) (σ 17 (((8 * x1) + y2).toNatClampNeg))) (y2 + 1)))))))))
set_option maxRecDepth 100000 in
set_option maxHeartbeats 4000000 in
theorem w_X5_again_L26 (E : EV p s m args meth c dC dI cI cZ cX5_again 3 RX5 (some .int)) (q : Nat → Nat) (x1 : Int32) : ∀ (n : Nat) (σ : Nat → Nat → Int32) (y2 : Int32) (z : (Nat → Nat → Int32)), f_X5_again_L26 x1 n σ y2 = some z → GG p l e rm_X5_again s m args below meth c Q A dC dI 3 (wM cI cZ q z) 89 [(0, .ref (q 0)), (1, .int x1)] [] → GG p l e rm_X5_again s m args below meth c Q A dC dI 3 (wM cI cZ q σ) 26 [(0, .ref (q 0)), (1, .int x1), (2, .int y2)] [] := by
  intro n
  induction n with
  | zero =>
    intro σ y2 z h
    rw [f_X5_again_L26] at h
    cases h
  | succ n ih =>
    intro σ y2 z h hK
    rw [f_X5_again_L26] at h
    refine s_iload_n E 2 rfl dX5_again_26 rfl ?_
    refine s_bipush E (v := 8) dX5_again_27 kb_8 ?_
    refine s_icmp_ge E 89 dX5_again_29 (by decide) (fun c4 => ?_) (fun c4 => ?_)
    · have h := (if_pos c4).symm.trans h
      refine s_sub E (lv' := [(0, .ref (q 0)), (1, .int x1)]) [0, 1] rfl ?_
      obtain rfl := Option.some.inj h
      exact hK
    · have h := (if_neg c4).symm.trans h
      refine s_aload_n E 0 rfl dX5_again_32 rfl ?_
      refine s_get E (v := .ref (q 7)) 0 8 in_X5 gM_0 rfl (by decide) m_f_X5_28 rfl dX5_again_33 ?_
      refine s_iload_n E 2 rfl dX5_again_36 rfl ?_
      refine s_aload_n E 0 rfl dX5_again_37 rfl ?_
      refine s_get E (v := .ref (q 15)) 0 24 in_X5 gM_0 rfl (by decide) m_f_X5_53 rfl dX5_again_38 ?_
      refine s_bipush E (v := 8) dX5_again_41 kb_8 ?_
      refine s_iload_n E 1 rfl dX5_again_43 rfl ?_
      refine s_imul E dX5_again_44 ?_
      refine s_iload_n E 2 rfl dX5_again_45 rfl ?_
      refine s_iadd E dX5_again_46 ?_
      obtain ⟨b5, h⟩ := chk_some h
      refine s_iald E (v := (σ 15 (((8 * x1) + y2).toNatClampNeg))) 15 gM_15 b5 rfl dX5_again_47 ?_
      obtain ⟨b6, h⟩ := chk_some h
      refine s_iast E (w' := (wM cI cZ q (up2 σ 7 (y2.toNatClampNeg) (σ 15 (((8 * x1) + y2).toNatClampNeg))))) 7 gM_7 b6 aM_7 dX5_again_48 ?_
      refine s_aload_n E 0 rfl dX5_again_49 rfl ?_
      refine s_get E (v := .ref (q 5)) 0 6 in_X5 gM_0 rfl (by decide) m_f_X5_22 rfl dX5_again_50 ?_
      refine s_iload_n E 2 rfl dX5_again_53 rfl ?_
      refine s_aload_n E 0 rfl dX5_again_54 rfl ?_
      refine s_get E (v := .ref (q 16)) 0 25 in_X5 gM_0 rfl (by decide) m_f_X5_56 rfl dX5_again_55 ?_
      refine s_bipush E (v := 8) dX5_again_58 kb_8 ?_
      refine s_iload_n E 1 rfl dX5_again_60 rfl ?_
      refine s_imul E dX5_again_61 ?_
      refine s_iload_n E 2 rfl dX5_again_62 rfl ?_
      refine s_iadd E dX5_again_63 ?_
      obtain ⟨b7, h⟩ := chk_some h
      refine s_iald E (v := (σ 16 (((8 * x1) + y2).toNatClampNeg))) 16 gM_16 b7 (up2_n rfl) dX5_again_64 ?_
      obtain ⟨b8, h⟩ := chk_some h
      refine s_iast E (w' := (wM cI cZ q (up2 (up2 σ 7 (y2.toNatClampNeg) (σ 15 (((8 * x1) + y2).toNatClampNeg))) 5 (y2.toNatClampNeg) (σ 16 (((8 * x1) + y2).toNatClampNeg))))) 5 gM_5 b8 aM_5 dX5_again_65 ?_
      refine s_aload_n E 0 rfl dX5_again_66 rfl ?_
      refine s_get E (v := .ref (q 6)) 0 7 in_X5 gM_0 rfl (by decide) m_f_X5_25 rfl dX5_again_67 ?_
      refine s_iload_n E 2 rfl dX5_again_70 rfl ?_
      refine s_aload_n E 0 rfl dX5_again_71 rfl ?_
      refine s_get E (v := .ref (q 17)) 0 26 in_X5 gM_0 rfl (by decide) m_f_X5_59 rfl dX5_again_72 ?_
      refine s_bipush E (v := 8) dX5_again_75 kb_8 ?_
      refine s_iload_n E 1 rfl dX5_again_77 rfl ?_
      refine s_imul E dX5_again_78 ?_
      refine s_iload_n E 2 rfl dX5_again_79 rfl ?_
      refine s_iadd E dX5_again_80 ?_
      obtain ⟨b9, h⟩ := chk_some h
      refine s_iald E (v := (σ 17 (((8 * x1) + y2).toNatClampNeg))) 17 gM_17 b9 ((up2_n rfl).trans (up2_n rfl)) dX5_again_81 ?_
      obtain ⟨b10, h⟩ := chk_some h
      refine s_iast E (w' := (wM cI cZ q (up2 (up2 (up2 σ 7 (y2.toNatClampNeg) (σ 15 (((8 * x1) + y2).toNatClampNeg))) 5 (y2.toNatClampNeg) (σ 16 (((8 * x1) + y2).toNatClampNeg))) 6 (y2.toNatClampNeg) (σ 17 (((8 * x1) + y2).toNatClampNeg))))) 6 gM_6 b10 aM_6 dX5_again_82 ?_
      refine s_iinc E (v := (y2 + 1)) (lv' := [(0, .ref (q 0)), (1, .int x1), (2, .int (y2 + 1))]) 2 rfl dX5_again_83 ki_1 rfl rfl rfl rfl (by decide) ?_
      refine s_goto E 26 dX5_again_86 (by decide) ?_
      exact ih (up2 (up2 (up2 σ 7 (y2.toNatClampNeg) (σ 15 (((8 * x1) + y2).toNatClampNeg))) 5 (y2.toNatClampNeg) (σ 16 (((8 * x1) + y2).toNatClampNeg))) 6 (y2.toNatClampNeg) (σ 17 (((8 * x1) + y2).toNatClampNeg))) (y2 + 1) z h hK
noncomputable def f_X5_again_L91 (x1 : Int32) : Nat → (Nat → Nat → Int32) → Int32 → Option (Nat → Nat → Int32)
  | 0, _, _ => none
  | n + 1, σ, y2 =>
    (if 24 ≤ y2 then (some σ) else (chk ((24 * x1) + y2) 48 (chk y2 24 (f_X5_again_L91 x1 n (up2 σ 9 (y2.toNatClampNeg) (σ 18 (((24 * x1) + y2).toNatClampNeg))) (y2 + 1)))))
set_option maxRecDepth 100000 in
set_option maxHeartbeats 4000000 in
theorem w_X5_again_L91 (E : EV p s m args meth c dC dI cI cZ cX5_again 3 RX5 (some .int)) (q : Nat → Nat) (x1 : Int32) : ∀ (n : Nat) (σ : Nat → Nat → Int32) (y2 : Int32) (z : (Nat → Nat → Int32)), f_X5_again_L91 x1 n σ y2 = some z → GG p l e rm_X5_again s m args below meth c Q A dC dI 3 (wM cI cZ q z) 120 [(0, .ref (q 0)), (1, .int x1)] [] → GG p l e rm_X5_again s m args below meth c Q A dC dI 3 (wM cI cZ q σ) 91 [(0, .ref (q 0)), (1, .int x1), (2, .int y2)] [] := by
  intro n
  induction n with
  | zero =>
    intro σ y2 z h
    rw [f_X5_again_L91] at h
    cases h
  | succ n ih =>
    intro σ y2 z h hK
    rw [f_X5_again_L91] at h
    refine s_iload_n E 2 rfl dX5_again_91 rfl ?_
    refine s_bipush E (v := 24) dX5_again_92 kb_24 ?_
    refine s_icmp_ge E 120 dX5_again_94 (by decide) (fun c12 => ?_) (fun c12 => ?_)
    · have h := (if_pos c12).symm.trans h
      refine s_sub E (lv' := [(0, .ref (q 0)), (1, .int x1)]) [0, 1] rfl ?_
      obtain rfl := Option.some.inj h
      exact hK
    · have h := (if_neg c12).symm.trans h
      refine s_aload_n E 0 rfl dX5_again_97 rfl ?_
      refine s_get E (v := .ref (q 9)) 0 15 in_X5 gM_0 rfl (by decide) m_f_X5_34 rfl dX5_again_98 ?_
      refine s_iload_n E 2 rfl dX5_again_101 rfl ?_
      refine s_aload_n E 0 rfl dX5_again_102 rfl ?_
      refine s_get E (v := .ref (q 18)) 0 27 in_X5 gM_0 rfl (by decide) m_f_X5_62 rfl dX5_again_103 ?_
      refine s_bipush E (v := 24) dX5_again_106 kb_24 ?_
      refine s_iload_n E 1 rfl dX5_again_108 rfl ?_
      refine s_imul E dX5_again_109 ?_
      refine s_iload_n E 2 rfl dX5_again_110 rfl ?_
      refine s_iadd E dX5_again_111 ?_
      obtain ⟨b13, h⟩ := chk_some h
      refine s_iald E (v := (σ 18 (((24 * x1) + y2).toNatClampNeg))) 18 gM_18 b13 rfl dX5_again_112 ?_
      obtain ⟨b14, h⟩ := chk_some h
      refine s_iast E (w' := (wM cI cZ q (up2 σ 9 (y2.toNatClampNeg) (σ 18 (((24 * x1) + y2).toNatClampNeg))))) 9 gM_9 b14 aM_9 dX5_again_113 ?_
      refine s_iinc E (v := (y2 + 1)) (lv' := [(0, .ref (q 0)), (1, .int x1), (2, .int (y2 + 1))]) 2 rfl dX5_again_114 ki_1 rfl rfl rfl rfl (by decide) ?_
      refine s_goto E 91 dX5_again_117 (by decide) ?_
      exact ih (up2 σ 9 (y2.toNatClampNeg) (σ 18 (((24 * x1) + y2).toNatClampNeg))) (y2 + 1) z h hK
noncomputable def f_X5_again (σ : Nat → Nat → Int32) (x1 : Int32) : Option (Int32 × (Nat → Nat → Int32)) :=
  (if (f_X5_in x1.toInt64 (0 : Int64) (1 : Int64)) = 0 then (some ((-1), σ)) else (chk x1 2 (if (σ 14 (x1.toNatClampNeg)) = 0 then (some ((-3), σ)) else ((f_X5_again_L26 x1 fuel σ 0).bind fun u11 => ((f_X5_again_L91 x1 fuel u11 0).bind fun u15 => (chk (2 * x1) 4 (chk ((2 * x1) + 1) 4 (some ((u15 19 ((2 * x1).toNatClampNeg)), (up2 (up2 u15 0 14 (u15 19 ((2 * x1).toNatClampNeg))) 0 9 (u15 19 (((2 * x1) + 1).toNatClampNeg))))))))))))
set_option maxRecDepth 100000 in
set_option maxHeartbeats 4000000 in
theorem c_X5_again (q : Nat → Nat) (σ : Nat → Nat → Int32) (x1 : Int32) (z : (Int32 × (Nat → Nat → Int32))) (h : f_X5_again σ x1 = some z) : CT l dC dI cI cZ A yX5_again cX5_again 3 (some .int) rm_X5_again [.ref (q 0), .int x1] (wM cI cZ q σ) (wM cI cZ q z.2) (some (.int z.1)) := by
  refine b_met (by decide) (Nat.le_of_ble_eq_true rfl) ?_
  intro p e s m below meth c E
  have E : EV p s m _ meth c dC dI cI cZ cX5_again 3 RX5 (some .int) := E
  show GG p l e rm_X5_again s m _ below meth c _ A dC dI 3 (wM cI cZ q σ) 0 [(0, .ref (q 0)), (1, .int x1)] []
  unfold f_X5_again at h
  refine s_iload_n E 1 rfl dX5_again_0 rfl ?_
  refine s_i2l E dX5_again_1 ?_
  refine s_lconst E (v := 0) dX5_again_2 (by decide) ?_
  refine s_lconst E (v := 1) dX5_again_3 (by decide) ?_
  refine s_callSi E kf_X5_in m_l_X5_70 (c_X5_in (wM cI cZ q σ) x1.toInt64 (0 : Int64) (1 : Int64)) ⟨rfl, rfl, by decide, by decide⟩ rfl rfl (Nat.le_of_ble_eq_true rfl) dX5_again_4 ?_
  refine s_if_ne E 12 dX5_again_7 (by decide) (fun c1 => ?_) (fun c1 => ?_)
  · have h := (if_pos c1).symm.trans h
    refine s_iconst E (v := (-1)) dX5_again_10 ki_m1 ?_
    obtain rfl := Option.some.inj h
    exact s_iret E rfl rfl dX5_again_11
  · have h := (if_neg c1).symm.trans h
    refine s_aload_n E 0 rfl dX5_again_12 rfl ?_
    refine s_get E (v := .ref (q 14)) 0 23 in_X5 gM_0 rfl (by decide) m_f_X5_50 rfl dX5_again_13 ?_
    refine s_iload_n E 1 rfl dX5_again_16 rfl ?_
    obtain ⟨b2, h⟩ := chk_some h
    refine s_zald E (v := (σ 14 (x1.toNatClampNeg))) 14 gM_14 b2 rfl dX5_again_17 ?_
    refine s_if_ne E 24 dX5_again_18 (by decide) (fun c3 => ?_) (fun c3 => ?_)
    · have h := (if_pos c3).symm.trans h
      refine s_bipush E (v := (-3)) dX5_again_21 kb_m3 ?_
      obtain rfl := Option.some.inj h
      exact s_iret E rfl rfl dX5_again_23
    · have h := (if_neg c3).symm.trans h
      refine s_iconst E (v := 0) dX5_again_24 ki_0 ?_
      refine s_istore_n E (lv' := [(0, .ref (q 0)), (1, .int x1), (2, .int 0)]) dX5_again_25 rfl rfl rfl rfl (by decide) ?_
      obtain ⟨u11, e11, h⟩ := bnd_some h
      refine w_X5_again_L26 E q x1 fuel σ 0 u11 e11 ?_
      refine s_iconst E (v := 0) dX5_again_89 ki_0 ?_
      refine s_istore_n E (lv' := [(0, .ref (q 0)), (1, .int x1), (2, .int 0)]) dX5_again_90 rfl rfl rfl rfl (by decide) ?_
      obtain ⟨u15, e15, h⟩ := bnd_some h
      refine w_X5_again_L91 E q x1 fuel u11 0 u15 e15 ?_
      refine s_aload_n E 0 rfl dX5_again_120 rfl ?_
      refine s_aload_n E 0 rfl dX5_again_121 rfl ?_
      refine s_get E (v := .ref (q 19)) 0 28 in_X5 gM_0 rfl (by decide) m_f_X5_65 rfl dX5_again_122 ?_
      refine s_iconst E (v := 2) dX5_again_125 ki_2 ?_
      refine s_iload_n E 1 rfl dX5_again_126 rfl ?_
      refine s_imul E dX5_again_127 ?_
      obtain ⟨b16, h⟩ := chk_some h
      refine s_iald E (v := (u15 19 ((2 * x1).toNatClampNeg))) 19 gM_19 b16 rfl dX5_again_128 ?_
      refine s_put E (w' := (wM cI cZ q (up2 u15 0 14 (u15 19 ((2 * x1).toNatClampNeg))))) (v := .int (u15 19 ((2 * x1).toNatClampNeg))) 0 14 tyX5 tyX5_ok nmX5 in_X5 gM_0 rfl (by decide) m_f_X5_105 rfl (tyX5_ok 14 (by decide)) rfl rfl (Nat.le_of_ble_eq_true rfl) fM_0_14 dX5_again_129 ?_
      refine s_aload_n E 0 rfl dX5_again_132 rfl ?_
      refine s_aload_n E 0 rfl dX5_again_133 rfl ?_
      refine s_get E (v := .ref (q 19)) 0 28 in_X5 gM_0 rfl (by decide) m_f_X5_65 rfl dX5_again_134 ?_
      refine s_iconst E (v := 2) dX5_again_137 ki_2 ?_
      refine s_iload_n E 1 rfl dX5_again_138 rfl ?_
      refine s_imul E dX5_again_139 ?_
      refine s_iconst E (v := 1) dX5_again_140 ki_1 ?_
      refine s_iadd E dX5_again_141 ?_
      obtain ⟨b17, h⟩ := chk_some h
      refine s_iald E (v := (u15 19 (((2 * x1) + 1).toNatClampNeg))) 19 gM_19 b17 (up2_n rfl) dX5_again_142 ?_
      refine s_put E (w' := (wM cI cZ q (up2 (up2 u15 0 14 (u15 19 ((2 * x1).toNatClampNeg))) 0 9 (u15 19 (((2 * x1) + 1).toNatClampNeg))))) (v := .int (u15 19 (((2 * x1) + 1).toNatClampNeg))) 0 9 tyX5 tyX5_ok nmX5 in_X5 gM_0 rfl (by decide) m_f_X5_102 rfl (tyX5_ok 9 (by decide)) rfl rfl (Nat.le_of_ble_eq_true rfl) fM_0_9 dX5_again_143 ?_
      refine s_aload_n E 0 rfl dX5_again_146 rfl ?_
      refine s_geti E (y := (u15 19 ((2 * x1).toNatClampNeg))) 0 14 in_X5 gM_0 rfl (by decide) m_f_X5_105 rfl ((up2_m rfl).trans up2_s) dX5_again_147 ?_
      obtain rfl := Option.some.inj h
      exact s_iret E rfl rfl dX5_again_150
end
abbrev rm_X5_count : Room := { frames := 2, cells := 0, slots := 0, locals := 43 }
section
noncomputable def f_X5_count_L4 (σ : Nat → Nat → Int32) : Nat → Int32 → Int32 → Option Int32
  | 0, _, _ => none
  | n + 1, y2, y3 =>
    (if (σ 0 14) ≤ y3 then (some y2) else (chk (3 * y3) 24 (chk ((3 * y3) + 1) 24 (chk ((3 * y3) + 2) 24 ((f_X5_fares σ (((σ 9 ((3 * y3).toNatClampNeg)) ||| (σ 9 (((3 * y3) + 1).toNatClampNeg))) ||| (σ 9 (((3 * y3) + 2).toNatClampNeg)))).bind fun u5 => (f_X5_count_L4 σ n (y2 + u5) (y3 + 1)))))))
set_option maxRecDepth 100000 in
set_option maxHeartbeats 4000000 in
theorem w_X5_count_L4 (E : EV p s m args meth c dC dI cI cZ cX5_count 4 RX5 (some .int)) (q : Nat → Nat) (σ : Nat → Nat → Int32) (x1 : Int32) : ∀ (n : Nat) (y2 y3 : Int32) (z : Int32), f_X5_count_L4 σ n y2 y3 = some z → GG p l e rm_X5_count s m args below meth c Q A dC dI 4 (wM cI cZ q σ) 55 [(0, .ref (q 0)), (1, .int x1), (2, .int z)] [] → GG p l e rm_X5_count s m args below meth c Q A dC dI 4 (wM cI cZ q σ) 4 [(0, .ref (q 0)), (1, .int x1), (2, .int y2), (3, .int y3)] [] := by
  intro n
  induction n with
  | zero =>
    intro y2 y3 z h
    rw [f_X5_count_L4] at h
    cases h
  | succ n ih =>
    intro y2 y3 z h hK
    rw [f_X5_count_L4] at h
    refine s_iload_n E 3 rfl dX5_count_4 rfl ?_
    refine s_aload_n E 0 rfl dX5_count_5 rfl ?_
    refine s_geti E (y := (σ 0 14)) 0 14 in_X5 gM_0 rfl (by decide) m_f_X5_105 rfl rfl dX5_count_6 ?_
    refine s_icmp_ge E 55 dX5_count_9 (by decide) (fun c1 => ?_) (fun c1 => ?_)
    · have h := (if_pos c1).symm.trans h
      refine s_sub E (lv' := [(0, .ref (q 0)), (1, .int x1), (2, .int y2)]) [0, 1, 2] rfl ?_
      obtain rfl := Option.some.inj h
      exact hK
    · have h := (if_neg c1).symm.trans h
      refine s_iload_n E 2 rfl dX5_count_12 rfl ?_
      refine s_aload_n E 0 rfl dX5_count_13 rfl ?_
      refine s_aload_n E 0 rfl dX5_count_14 rfl ?_
      refine s_get E (v := .ref (q 9)) 0 15 in_X5 gM_0 rfl (by decide) m_f_X5_34 rfl dX5_count_15 ?_
      refine s_iconst E (v := 3) dX5_count_18 ki_3 ?_
      refine s_iload_n E 3 rfl dX5_count_19 rfl ?_
      refine s_imul E dX5_count_20 ?_
      obtain ⟨b2, h⟩ := chk_some h
      refine s_iald E (v := (σ 9 ((3 * y3).toNatClampNeg))) 9 gM_9 b2 rfl dX5_count_21 ?_
      refine s_aload_n E 0 rfl dX5_count_22 rfl ?_
      refine s_get E (v := .ref (q 9)) 0 15 in_X5 gM_0 rfl (by decide) m_f_X5_34 rfl dX5_count_23 ?_
      refine s_iconst E (v := 3) dX5_count_26 ki_3 ?_
      refine s_iload_n E 3 rfl dX5_count_27 rfl ?_
      refine s_imul E dX5_count_28 ?_
      refine s_iconst E (v := 1) dX5_count_29 ki_1 ?_
      refine s_iadd E dX5_count_30 ?_
      obtain ⟨b3, h⟩ := chk_some h
      refine s_iald E (v := (σ 9 (((3 * y3) + 1).toNatClampNeg))) 9 gM_9 b3 rfl dX5_count_31 ?_
      refine s_ior E dX5_count_32 ?_
      refine s_aload_n E 0 rfl dX5_count_33 rfl ?_
      refine s_get E (v := .ref (q 9)) 0 15 in_X5 gM_0 rfl (by decide) m_f_X5_34 rfl dX5_count_34 ?_
      refine s_iconst E (v := 3) dX5_count_37 ki_3 ?_
      refine s_iload_n E 3 rfl dX5_count_38 rfl ?_
      refine s_imul E dX5_count_39 ?_
      refine s_iconst E (v := 2) dX5_count_40 ki_2 ?_
      refine s_iadd E dX5_count_41 ?_
      obtain ⟨b4, h⟩ := chk_some h
      refine s_iald E (v := (σ 9 (((3 * y3) + 2).toNatClampNeg))) 9 gM_9 b4 rfl dX5_count_42 ?_
      refine s_ior E dX5_count_43 ?_
      obtain ⟨u5, e5, h⟩ := bnd_some h
      refine s_callVi E kf_X5_fares m_l_X5_154 (c_X5_fares q σ (((σ 9 ((3 * y3).toNatClampNeg)) ||| (σ 9 (((3 * y3) + 1).toNatClampNeg))) ||| (σ 9 (((3 * y3) + 2).toNatClampNeg))) u5 e5) ⟨rfl, rfl, by decide, by decide⟩ (q0 := 0) rfl rfl rfl rfl rfl (Nat.le_of_ble_eq_true rfl) dX5_count_44 ?_
      refine s_iadd E dX5_count_47 ?_
      refine s_istore_n E (lv' := [(0, .ref (q 0)), (1, .int x1), (2, .int (y2 + u5)), (3, .int y3)]) dX5_count_48 rfl rfl rfl rfl (by decide) ?_
      refine s_iinc E (v := (y3 + 1)) (lv' := [(0, .ref (q 0)), (1, .int x1), (2, .int (y2 + u5)), (3, .int (y3 + 1))]) 3 rfl dX5_count_49 ki_1 rfl rfl rfl rfl (by decide) ?_
      refine s_goto E 4 dX5_count_52 (by decide) ?_
      exact ih (y2 + u5) (y3 + 1) z h hK
noncomputable def f_X5_count (σ : Nat → Nat → Int32) (x1 : Int32) : Option Int32 :=
  ((f_X5_count_L4 σ fuel 0 0).bind fun u6 => (if x1 = 0 then (some (σ 0 11)) else (if x1 = 1 then (some (σ 0 5)) else (if x1 = 2 then ((f_X5_waiting σ).bind fun u10 => ((f_X5_ones u10).bind fun u11 => (some u11))) else (if x1 = 3 then ((f_X5_laid σ).bind fun u13 => (some u13)) else (if x1 = 4 then ((f_X5_whoAt σ 20).bind fun u15 => ((f_X5_ones u15).bind fun u16 => (some u16))) else (if x1 = 5 then (some (σ 0 14)) else (if x1 = 6 then (some u6) else (some (-2))))))))))
set_option maxRecDepth 100000 in
set_option maxHeartbeats 4000000 in
theorem c_X5_count (q : Nat → Nat) (σ : Nat → Nat → Int32) (x1 : Int32) (z : Int32) (h : f_X5_count σ x1 = some z) : CT l dC dI cI cZ A yX5_count cX5_count 4 (some .int) rm_X5_count [.ref (q 0), .int x1] (wM cI cZ q σ) (wM cI cZ q σ) (some (.int z)) := by
  refine b_met (by decide) (Nat.le_of_ble_eq_true rfl) ?_
  intro p e s m below meth c E
  have E : EV p s m _ meth c dC dI cI cZ cX5_count 4 RX5 (some .int) := E
  show GG p l e rm_X5_count s m _ below meth c _ A dC dI 4 (wM cI cZ q σ) 0 [(0, .ref (q 0)), (1, .int x1)] []
  unfold f_X5_count at h
  refine s_iconst E (v := 0) dX5_count_0 ki_0 ?_
  refine s_istore_n E (lv' := [(0, .ref (q 0)), (1, .int x1), (2, .int 0)]) dX5_count_1 rfl rfl rfl rfl (by decide) ?_
  refine s_iconst E (v := 0) dX5_count_2 ki_0 ?_
  refine s_istore_n E (lv' := [(0, .ref (q 0)), (1, .int x1), (2, .int 0), (3, .int 0)]) dX5_count_3 rfl rfl rfl rfl (by decide) ?_
  obtain ⟨u6, e6, h⟩ := bnd_some h
  refine w_X5_count_L4 E q σ x1 fuel 0 0 u6 e6 ?_
  refine s_iload_n E 1 rfl dX5_count_55 rfl ?_
  by_cases c7 : x1 = 0
  · have h := (if_pos c7).symm.trans h
    refine s_swIn E 100 dX5_count_56 (by rw [c7]; decide) (by rw [c7]; decide) (off := 44) (by rw [c7]; decide) (by decide) ?_
    refine s_aload_n E 0 rfl dX5_count_100 rfl ?_
    refine s_geti E (y := (σ 0 11)) 0 11 in_X5 gM_0 rfl (by decide) m_f_X5_74 rfl rfl dX5_count_101 ?_
    obtain rfl := Option.some.inj h
    exact s_iret E rfl rfl dX5_count_104
  · have h := (if_neg c7).symm.trans h
    by_cases c8 : x1 = 1
    · have h := (if_pos c8).symm.trans h
      refine s_swIn E 105 dX5_count_56 (by rw [c8]; decide) (by rw [c8]; decide) (off := 49) (by rw [c8]; decide) (by decide) ?_
      refine s_aload_n E 0 rfl dX5_count_105 rfl ?_
      refine s_geti E (y := (σ 0 5)) 0 5 in_X5 gM_0 rfl (by decide) m_f_X5_99 rfl rfl dX5_count_106 ?_
      obtain rfl := Option.some.inj h
      exact s_iret E rfl rfl dX5_count_109
    · have h := (if_neg c8).symm.trans h
      by_cases c9 : x1 = 2
      · have h := (if_pos c9).symm.trans h
        refine s_swIn E 110 dX5_count_56 (by rw [c9]; decide) (by rw [c9]; decide) (off := 54) (by rw [c9]; decide) (by decide) ?_
        refine s_aload_n E 0 rfl dX5_count_110 rfl ?_
        obtain ⟨u10, e10, h⟩ := bnd_some h
        refine s_callVi E kf_X5_waiting m_l_X5_183 (c_X5_waiting q σ u10 e10) ⟨rfl, rfl, by decide, by decide⟩ (q0 := 0) rfl rfl rfl rfl rfl (Nat.le_of_ble_eq_true rfl) dX5_count_111 ?_
        obtain ⟨u11, e11, h⟩ := bnd_some h
        refine s_callSi E kf_X5_ones m_l_X5_128 (c_X5_ones (wM cI cZ q σ) u10 u11 e11) ⟨rfl, rfl, by decide, by decide⟩ rfl rfl (Nat.le_of_ble_eq_true rfl) dX5_count_114 ?_
        obtain rfl := Option.some.inj h
        exact s_iret E rfl rfl dX5_count_117
      · have h := (if_neg c9).symm.trans h
        by_cases c12 : x1 = 3
        · have h := (if_pos c12).symm.trans h
          refine s_swIn E 118 dX5_count_56 (by rw [c12]; decide) (by rw [c12]; decide) (off := 62) (by rw [c12]; decide) (by decide) ?_
          refine s_aload_n E 0 rfl dX5_count_118 rfl ?_
          obtain ⟨u13, e13, h⟩ := bnd_some h
          refine s_callVi E kf_X5_laid m_l_X5_131 (c_X5_laid q σ u13 e13) ⟨rfl, rfl, by decide, by decide⟩ (q0 := 0) rfl rfl rfl rfl rfl (Nat.le_of_ble_eq_true rfl) dX5_count_119 ?_
          obtain rfl := Option.some.inj h
          exact s_iret E rfl rfl dX5_count_122
        · have h := (if_neg c12).symm.trans h
          by_cases c14 : x1 = 4
          · have h := (if_pos c14).symm.trans h
            refine s_swIn E 123 dX5_count_56 (by rw [c14]; decide) (by rw [c14]; decide) (off := 67) (by rw [c14]; decide) (by decide) ?_
            refine s_aload_n E 0 rfl dX5_count_123 rfl ?_
            refine s_bipush E (v := 20) dX5_count_124 kb_20 ?_
            obtain ⟨u15, e15, h⟩ := bnd_some h
            refine s_callVi E kf_X5_whoAt m_l_X5_125 (c_X5_whoAt q σ 20 u15 e15) ⟨rfl, rfl, by decide, by decide⟩ (q0 := 0) rfl rfl rfl rfl rfl (Nat.le_of_ble_eq_true rfl) dX5_count_126 ?_
            obtain ⟨u16, e16, h⟩ := bnd_some h
            refine s_callSi E kf_X5_ones m_l_X5_128 (c_X5_ones (wM cI cZ q σ) u15 u16 e16) ⟨rfl, rfl, by decide, by decide⟩ rfl rfl (Nat.le_of_ble_eq_true rfl) dX5_count_129 ?_
            obtain rfl := Option.some.inj h
            exact s_iret E rfl rfl dX5_count_132
          · have h := (if_neg c14).symm.trans h
            by_cases c17 : x1 = 5
            · have h := (if_pos c17).symm.trans h
              refine s_swIn E 133 dX5_count_56 (by rw [c17]; decide) (by rw [c17]; decide) (off := 77) (by rw [c17]; decide) (by decide) ?_
              refine s_aload_n E 0 rfl dX5_count_133 rfl ?_
              refine s_geti E (y := (σ 0 14)) 0 14 in_X5 gM_0 rfl (by decide) m_f_X5_105 rfl rfl dX5_count_134 ?_
              obtain rfl := Option.some.inj h
              exact s_iret E rfl rfl dX5_count_137
            · have h := (if_neg c17).symm.trans h
              by_cases c18 : x1 = 6
              · have h := (if_pos c18).symm.trans h
                refine s_swIn E 138 dX5_count_56 (by rw [c18]; decide) (by rw [c18]; decide) (off := 82) (by rw [c18]; decide) (by decide) ?_
                refine s_iload_n E 2 rfl dX5_count_138 rfl ?_
                obtain rfl := Option.some.inj h
                exact s_iret E rfl rfl dX5_count_139
              · have h := (if_neg c18).symm.trans h
                have tc7 := lv_neT (a := 0) c7 (by decide)
                have tc8 := lv_neT (a := 1) c8 (by decide)
                have tc9 := lv_neT (a := 2) c9 (by decide)
                have tc12 := lv_neT (a := 3) c12 (by decide)
                have tc14 := lv_neT (a := 4) c14 (by decide)
                have tc17 := lv_neT (a := 5) c17 (by decide)
                have tc18 := lv_neT (a := 6) c18 (by decide)
                refine s_swOut E 140 dX5_count_56 (by omega) (by decide) ?_
                refine s_bipush E (v := (-2)) dX5_count_140 kb_m2 ?_
                obtain rfl := Option.some.inj h
                exact s_iret E rfl rfl dX5_count_142
end
end
