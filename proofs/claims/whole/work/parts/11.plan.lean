section
variable {p : Program} {l : Launch} {e : Env} {s : State} {m : MethodId} {args : Array Value} {below : List Frame} {meth : Method} {c : Code} {Q : State → Prop} {A : Nat → Prop} {dC : Nat → ClassId} {dI : Nat → Nat → Nat} {cI cZ : ClassId}
abbrev rm_X2_forget : Room := { frames := 0, cells := 0, slots := 0, locals := 0 }
section
noncomputable def f_X2_forget (σ : Nat → Nat → Int32) : (Nat → Nat → Int32) :=
  (up2 (up2 (up2 σ 19 14 0) 19 15 0) 19 16 0)
set_option maxRecDepth 100000 in
set_option maxHeartbeats 4000000 in
theorem c_X2_forget (q : Nat → Nat) (σ : Nat → Nat → Int32) : CT l dC dI cI cZ A yX2_forget cX2_forget 1 none rm_X2_forget [.ref (q 19)] (wX cI q σ) (wX cI q (f_X2_forget σ)) none := by
  refine b_met (by decide) (Nat.le_of_ble_eq_true rfl) ?_
  intro p e s m below meth c E
  have E : EV p s m _ meth c dC dI cI cZ cX2_forget 1 RX2 none := E
  generalize h : f_X2_forget σ = z
  show GG p l e rm_X2_forget s m _ below meth c _ A dC dI 1 (wX cI q σ) 0 [(0, .ref (q 19))] []
  unfold f_X2_forget at h
  refine s_aload_n E 0 rfl dX2_forget_0 rfl ?_
  refine s_iconst E (v := 0) dX2_forget_1 ki_0 ?_
  refine s_put E (w' := (wX cI q (up2 σ 19 14 0))) (v := .int 0) 19 14 tyX2 tyX2_ok nmX2 in_X2 gX_19 rfl (by decide) m_f_X2_55 rfl (tyX2_ok 14 (by decide)) rfl rfl (Nat.le_of_ble_eq_true rfl) fX_19_14 dX2_forget_2 ?_
  refine s_aload_n E 0 rfl dX2_forget_5 rfl ?_
  refine s_iconst E (v := 0) dX2_forget_6 ki_0 ?_
  refine s_put E (w' := (wX cI q (up2 (up2 σ 19 14 0) 19 15 0))) (v := .int 0) 19 15 tyX2 tyX2_ok nmX2 in_X2 gX_19 rfl (by decide) m_f_X2_59 rfl (tyX2_ok 15 (by decide)) rfl rfl (Nat.le_of_ble_eq_true rfl) fX_19_15 dX2_forget_7 ?_
  refine s_aload_n E 0 rfl dX2_forget_10 rfl ?_
  refine s_iconst E (v := 0) dX2_forget_11 ki_0 ?_
  refine s_put E (w' := (wX cI q (up2 (up2 (up2 σ 19 14 0) 19 15 0) 19 16 0))) (v := .int 0) 19 16 tyX2 tyX2_ok nmX2 in_X2 gX_19 rfl (by decide) m_f_X2_62 rfl (tyX2_ok 16 (by decide)) rfl rfl (Nat.le_of_ble_eq_true rfl) fX_19_16 dX2_forget_12 ?_
  subst h
  exact s_vret E rfl dX2_forget_15
end
abbrev rm_X2_prepare : Room := { frames := 2, cells := 0, slots := 0, locals := 43 }
section
noncomputable def f_X2_prepare_L99 (x3 : Int32) : Nat → (Nat → Nat → Int32) → Int32 → Option (Nat → Nat → Int32)
  | 0, _, _ => none
  | n + 1, σ, y4 =>
    (if (σ 3 5) ≤ y4 then (some σ) else ((f_X0_willSit σ y4 x3).bind fun u9 => (if u9 = 0 then (f_X2_prepare_L99 x3 n σ (y4 + 1)) else (chk x3 3 (chk x3 3 (f_X2_prepare_L99 x3 n (up2 σ 25 (x3.toNatClampNeg) ((σ 25 (x3.toNatClampNeg)) ||| ((σ 19 11) &&& (shl 1 y4)))) (y4 + 1)))))))
set_option maxRecDepth 100000 in
set_option maxHeartbeats 4000000 in
theorem w_X2_prepare_L99 (E : EV p s m args meth c dC dI cI cZ cX2_prepare 5 RX2 none) (q : Nat → Nat) (x3 : Int32) : ∀ (n : Nat) (σ : Nat → Nat → Int32) (y4 : Int32) (z : (Nat → Nat → Int32)), f_X2_prepare_L99 x3 n σ y4 = some z → GG p l e rm_X2_prepare s m args below meth c Q A dC dI 5 (wX cI q z) 142 [(0, .ref (q 19)), (1, .ref (q 3)), (3, .int x3)] [] → GG p l e rm_X2_prepare s m args below meth c Q A dC dI 5 (wX cI q σ) 99 [(0, .ref (q 19)), (1, .ref (q 3)), (3, .int x3), (4, .int y4)] [] := by
  intro n
  induction n with
  | zero =>
    intro σ y4 z h
    rw [f_X2_prepare_L99] at h
    cases h
  | succ n ih =>
    intro σ y4 z h hK
    rw [f_X2_prepare_L99] at h
    refine s_iload E 3 rfl dX2_prepare_99 ?_
    refine s_aload_n E 1 rfl dX2_prepare_101 rfl ?_
    refine s_geti E (y := (σ 3 5)) 3 5 in_X0 gX_3 rfl (by decide) m_f_X2_104 rfl rfl dX2_prepare_102 ?_
    refine s_icmp_ge E 142 dX2_prepare_105 (by decide) (fun c8 => ?_) (fun c8 => ?_)
    · have h := (if_pos c8).symm.trans h
      refine s_sub E (lv' := [(0, .ref (q 19)), (1, .ref (q 3)), (3, .int x3)]) [0, 1, 2] rfl ?_
      obtain rfl := Option.some.inj h
      exact hK
    · have h := (if_neg c8).symm.trans h
      refine s_aload_n E 1 rfl dX2_prepare_108 rfl ?_
      refine s_iload E 3 rfl dX2_prepare_109 ?_
      refine s_iload_n E 2 rfl dX2_prepare_111 rfl ?_
      obtain ⟨u9, e9, h⟩ := bnd_some h
      refine s_callVi E kf_X0_willSit m_l_X2_119 (c_X0_willSit q σ y4 x3 u9 e9) ⟨rfl, rfl, by decide, by decide⟩ (q0 := 3) rfl rfl rfl rfl rfl (Nat.le_of_ble_eq_true rfl) dX2_prepare_112 ?_
      refine s_if_eq E 136 dX2_prepare_115 (by decide) (fun c10 => ?_) (fun c10 => ?_)
      · have h := (if_pos c10).symm.trans h
        refine s_iinc E (v := (y4 + 1)) (lv' := [(0, .ref (q 19)), (1, .ref (q 3)), (3, .int x3), (4, .int (y4 + 1))]) 3 rfl dX2_prepare_136 ki_1 rfl rfl rfl rfl (by decide) ?_
        refine s_goto E 99 dX2_prepare_139 (by decide) ?_
        exact ih σ (y4 + 1) z h hK
      · have h := (if_neg c10).symm.trans h
        refine s_aload_n E 0 rfl dX2_prepare_118 rfl ?_
        refine s_get E (v := .ref (q 25)) 19 5 in_X2 gX_19 rfl (by decide) m_f_X2_27 rfl dX2_prepare_119 ?_
        refine s_iload_n E 2 rfl dX2_prepare_122 rfl ?_
        refine s_dup2 E dX2_prepare_123 rfl rfl ?_
        obtain ⟨b11, h⟩ := chk_some h
        refine s_iald E (v := (σ 25 (x3.toNatClampNeg))) 25 gX_25 b11 rfl dX2_prepare_124 ?_
        refine s_aload_n E 0 rfl dX2_prepare_125 rfl ?_
        refine s_geti E (y := (σ 19 11)) 19 11 in_X2 gX_19 rfl (by decide) m_f_X2_46 rfl rfl dX2_prepare_126 ?_
        refine s_iconst E (v := 1) dX2_prepare_129 ki_1 ?_
        refine s_iload E 3 rfl dX2_prepare_130 ?_
        refine s_ishl E dX2_prepare_132 ?_
        refine s_iand E dX2_prepare_133 ?_
        refine s_ior E dX2_prepare_134 ?_
        obtain ⟨b12, h⟩ := chk_some h
        refine s_iast E (w' := (wX cI q (up2 σ 25 (x3.toNatClampNeg) ((σ 25 (x3.toNatClampNeg)) ||| ((σ 19 11) &&& (shl 1 y4)))))) 25 gX_25 b12 aX_25 dX2_prepare_135 ?_
        refine s_iinc E (v := (y4 + 1)) (lv' := [(0, .ref (q 19)), (1, .ref (q 3)), (3, .int x3), (4, .int (y4 + 1))]) 3 rfl dX2_prepare_136 ki_1 rfl rfl rfl rfl (by decide) ?_
        refine s_goto E 99 dX2_prepare_139 (by decide) ?_
        exact ih (up2 σ 25 (x3.toNatClampNeg) ((σ 25 (x3.toNatClampNeg)) ||| ((σ 19 11) &&& (shl 1 y4)))) (y4 + 1) z h hK
noncomputable def f_X2_prepare_J88_45 (σ : Nat → Nat → Int32) (t3 : Int32) (s1 : Int32) (s2 : Int32) (rec : (Nat → Nat → Int32) → Int32 → Option (Nat → Nat → Int32)) : Option (Nat → Nat → Int32) :=
  (chk s1 3 (chk t3 3 ((f_X2_prepare_L99 t3 fuel (up2 (up2 σ 27 (s1.toNatClampNeg) s2) 25 (t3.toNatClampNeg) 0) 0).bind fun u13 => (rec u13 (t3 + 1)))))
set_option maxRecDepth 100000 in
set_option maxHeartbeats 4000000 in
theorem w_X2_prepare_J88_45 (E : EV p s m args meth c dC dI cI cZ cX2_prepare 5 RX2 none) (q : Nat → Nat) (σ : Nat → Nat → Int32) (t3 : Int32) (s1 : Int32) (s2 : Int32) (z : (Nat → Nat → Int32)) (rec : (Nat → Nat → Int32) → Int32 → Option (Nat → Nat → Int32)) (hrec : ∀ (σ : Nat → Nat → Int32) (y3 : Int32), rec σ y3 = some z → GG p l e rm_X2_prepare s m args below meth c Q A dC dI 5 (wX cI q σ) 45 [(0, .ref (q 19)), (1, .ref (q 3)), (3, .int y3)] []) (hK : GG p l e rm_X2_prepare s m args below meth c Q A dC dI 5 (wX cI q z) 148 [(0, .ref (q 19)), (1, .ref (q 3))] []) (h : f_X2_prepare_J88_45 σ t3 s1 s2 rec = some z) : GG p l e rm_X2_prepare s m args below meth c Q A dC dI 5 (wX cI q σ) 88 [(0, .ref (q 19)), (1, .ref (q 3)), (3, .int t3)] [.int s2, .int s1, .ref (q 27)] := by
  unfold f_X2_prepare_J88_45 at h
  obtain ⟨b6, h⟩ := chk_some h
  refine s_iast E (w' := (wX cI q (up2 σ 27 (s1.toNatClampNeg) s2))) 27 gX_27 b6 aX_27 dX2_prepare_88 ?_
  refine s_aload_n E 0 rfl dX2_prepare_89 rfl ?_
  refine s_get E (v := .ref (q 25)) 19 5 in_X2 gX_19 rfl (by decide) m_f_X2_27 rfl dX2_prepare_90 ?_
  refine s_iload_n E 2 rfl dX2_prepare_93 rfl ?_
  refine s_iconst E (v := 0) dX2_prepare_94 ki_0 ?_
  obtain ⟨b7, h⟩ := chk_some h
  refine s_iast E (w' := (wX cI q (up2 (up2 σ 27 (s1.toNatClampNeg) s2) 25 (t3.toNatClampNeg) 0))) 25 gX_25 b7 aX_25 dX2_prepare_95 ?_
  refine s_iconst E (v := 0) dX2_prepare_96 ki_0 ?_
  refine s_istore E (lv' := [(0, .ref (q 19)), (1, .ref (q 3)), (3, .int t3), (4, .int 0)]) dX2_prepare_97 rfl rfl rfl (by decide) ?_
  obtain ⟨u13, e13, h⟩ := bnd_some h
  refine w_X2_prepare_L99 E q t3 fuel (up2 (up2 σ 27 (s1.toNatClampNeg) s2) 25 (t3.toNatClampNeg) 0) 0 u13 e13 ?_
  refine s_iinc E (v := (t3 + 1)) (lv' := [(0, .ref (q 19)), (1, .ref (q 3)), (3, .int (t3 + 1))]) 2 rfl dX2_prepare_142 ki_1 rfl rfl rfl rfl (by decide) ?_
  refine s_goto E 45 dX2_prepare_145 (by decide) ?_
  exact hrec u13 (t3 + 1) h
noncomputable def f_X2_prepare_L45 : Nat → (Nat → Nat → Int32) → Int32 → Option (Nat → Nat → Int32)
  | 0, _, _ => none
  | n + 1, σ, y3 =>
    (if 3 ≤ y3 then (some σ) else (chk y3 3 (if y3 = 0 then (chk y3 3 (f_X2_prepare_J88_45 (up2 σ 26 (y3.toNatClampNeg) (f_X0_armOf σ y3)) y3 y3 (((f_X0_armOf σ y3) * (σ 3 4)) * 65537) (f_X2_prepare_L45 n))) else (f_X2_prepare_J88_45 (up2 σ 26 (y3.toNatClampNeg) (f_X0_armOf σ y3)) y3 y3 0 (f_X2_prepare_L45 n)))))
set_option maxRecDepth 100000 in
set_option maxHeartbeats 4000000 in
theorem w_X2_prepare_L45 (E : EV p s m args meth c dC dI cI cZ cX2_prepare 5 RX2 none) (q : Nat → Nat) : ∀ (n : Nat) (σ : Nat → Nat → Int32) (y3 : Int32) (z : (Nat → Nat → Int32)), f_X2_prepare_L45 n σ y3 = some z → GG p l e rm_X2_prepare s m args below meth c Q A dC dI 5 (wX cI q z) 148 [(0, .ref (q 19)), (1, .ref (q 3))] [] → GG p l e rm_X2_prepare s m args below meth c Q A dC dI 5 (wX cI q σ) 45 [(0, .ref (q 19)), (1, .ref (q 3)), (3, .int y3)] [] := by
  intro n
  induction n with
  | zero =>
    intro σ y3 z h
    rw [f_X2_prepare_L45] at h
    cases h
  | succ n ih =>
    intro σ y3 z h hK
    rw [f_X2_prepare_L45] at h
    refine s_iload_n E 2 rfl dX2_prepare_45 rfl ?_
    refine s_iconst E (v := 3) dX2_prepare_46 ki_3 ?_
    refine s_icmp_ge E 148 dX2_prepare_47 (by decide) (fun c2 => ?_) (fun c2 => ?_)
    · have h := (if_pos c2).symm.trans h
      refine s_sub E (lv' := [(0, .ref (q 19)), (1, .ref (q 3))]) [0, 1] rfl ?_
      obtain rfl := Option.some.inj h
      exact hK
    · have h := (if_neg c2).symm.trans h
      refine s_aload_n E 0 rfl dX2_prepare_50 rfl ?_
      refine s_get E (v := .ref (q 26)) 19 6 in_X2 gX_19 rfl (by decide) m_f_X2_30 rfl dX2_prepare_51 ?_
      refine s_iload_n E 2 rfl dX2_prepare_54 rfl ?_
      refine s_aload_n E 1 rfl dX2_prepare_55 rfl ?_
      refine s_iload_n E 2 rfl dX2_prepare_56 rfl ?_
      refine s_callVi E kf_X0_armOf m_l_X2_112 (c_X0_armOf q σ y3) ⟨rfl, rfl, by decide, by decide⟩ (q0 := 3) rfl rfl rfl rfl rfl (Nat.le_of_ble_eq_true rfl) dX2_prepare_57 ?_
      obtain ⟨b3, h⟩ := chk_some h
      refine s_iast E (w' := (wX cI q (up2 σ 26 (y3.toNatClampNeg) (f_X0_armOf σ y3)))) 26 gX_26 b3 aX_26 dX2_prepare_60 ?_
      refine s_aload_n E 0 rfl dX2_prepare_61 rfl ?_
      refine s_get E (v := .ref (q 27)) 19 7 in_X2 gX_19 rfl (by decide) m_f_X2_33 rfl dX2_prepare_62 ?_
      refine s_iload_n E 2 rfl dX2_prepare_65 rfl ?_
      refine s_iload_n E 2 rfl dX2_prepare_66 rfl ?_
      refine s_if_ne E 87 dX2_prepare_67 (by decide) (fun c4 => ?_) (fun c4 => ?_)
      · have h := (if_pos c4).symm.trans h
        refine s_aload_n E 0 rfl dX2_prepare_70 rfl ?_
        refine s_get E (v := .ref (q 26)) 19 6 in_X2 gX_19 rfl (by decide) m_f_X2_30 rfl dX2_prepare_71 ?_
        refine s_iload_n E 2 rfl dX2_prepare_74 rfl ?_
        obtain ⟨b5, h⟩ := chk_some h
        refine s_iald E (v := (f_X0_armOf σ y3)) 26 gX_26 b5 up2_s dX2_prepare_75 ?_
        refine s_aload_n E 1 rfl dX2_prepare_76 rfl ?_
        refine s_geti E (y := (σ 3 4)) 3 4 in_X0 gX_3 rfl (by decide) m_f_X2_115 rfl (up2_n rfl) dX2_prepare_77 ?_
        refine s_imul E dX2_prepare_80 ?_
        refine s_ldc E (v := (65537)) m_c_X2_118 dX2_prepare_81 ?_
        refine s_imul E dX2_prepare_83 ?_
        refine s_goto E 88 dX2_prepare_84 (by decide) ?_
        exact w_X2_prepare_J88_45 E q (up2 σ 26 (y3.toNatClampNeg) (f_X0_armOf σ y3)) y3 y3 (((f_X0_armOf σ y3) * (σ 3 4)) * 65537) z _ (fun σ y3 h => ih σ y3 z h hK) hK h
      · have h := (if_neg c4).symm.trans h
        refine s_iconst E (v := 0) dX2_prepare_87 ki_0 ?_
        exact w_X2_prepare_J88_45 E q (up2 σ 26 (y3.toNatClampNeg) (f_X0_armOf σ y3)) y3 y3 0 z _ (fun σ y3 h => ih σ y3 z h hK) hK h
noncomputable def f_X2_prepare (σ : Nat → Nat → Int32) : Option (Nat → Nat → Int32) :=
  ((f_X1_gone (up2 (up2 (up2 σ 19 8 (σ 3 0)) 19 9 (σ 3 3)) 19 10 (shl 1 (σ 3 5)))).bind fun u1 => ((f_X2_prepare_L45 fuel (up2 (up2 (up2 (up2 σ 19 8 (σ 3 0)) 19 9 (σ 3 3)) 19 10 (shl 1 (σ 3 5))) 19 11 (((shl 1 (σ 3 5)) - 1) &&& (u1 ^^^ (-1)))) 0).bind fun u14 => (some u14)))
set_option maxRecDepth 100000 in
set_option maxHeartbeats 4000000 in
theorem c_X2_prepare (q : Nat → Nat) (σ : Nat → Nat → Int32) (z : (Nat → Nat → Int32)) (h : f_X2_prepare σ = some z) : CT l dC dI cI cZ A yX2_prepare cX2_prepare 5 none rm_X2_prepare [.ref (q 19), .ref (q 3), .ref (q 7)] (wX cI q σ) (wX cI q z) none := by
  refine b_met (by decide) (Nat.le_of_ble_eq_true rfl) ?_
  intro p e s m below meth c E
  have E : EV p s m _ meth c dC dI cI cZ cX2_prepare 5 RX2 none := E
  show GG p l e rm_X2_prepare s m _ below meth c _ A dC dI 5 (wX cI q σ) 0 [(0, .ref (q 19)), (1, .ref (q 3)), (2, .ref (q 7))] []
  unfold f_X2_prepare at h
  refine s_aload_n E 0 rfl dX2_prepare_0 rfl ?_
  refine s_aload_n E 1 rfl dX2_prepare_1 rfl ?_
  refine s_geti E (y := (σ 3 0)) 3 0 in_X0 gX_3 rfl (by decide) m_f_X2_100 rfl rfl dX2_prepare_2 ?_
  refine s_put E (w' := (wX cI q (up2 σ 19 8 (σ 3 0)))) (v := .int (σ 3 0)) 19 8 tyX2 tyX2_ok nmX2 in_X2 gX_19 rfl (by decide) m_f_X2_36 rfl (tyX2_ok 8 (by decide)) rfl rfl (Nat.le_of_ble_eq_true rfl) fX_19_8 dX2_prepare_5 ?_
  refine s_aload_n E 0 rfl dX2_prepare_8 rfl ?_
  refine s_aload_n E 1 rfl dX2_prepare_9 rfl ?_
  refine s_geti E (y := (σ 3 3)) 3 3 in_X0 gX_3 rfl (by decide) m_f_X2_103 rfl (up2_n rfl) dX2_prepare_10 ?_
  refine s_put E (w' := (wX cI q (up2 (up2 σ 19 8 (σ 3 0)) 19 9 (σ 3 3)))) (v := .int (σ 3 3)) 19 9 tyX2 tyX2_ok nmX2 in_X2 gX_19 rfl (by decide) m_f_X2_40 rfl (tyX2_ok 9 (by decide)) rfl rfl (Nat.le_of_ble_eq_true rfl) fX_19_9 dX2_prepare_13 ?_
  refine s_aload_n E 0 rfl dX2_prepare_16 rfl ?_
  refine s_iconst E (v := 1) dX2_prepare_17 ki_1 ?_
  refine s_aload_n E 1 rfl dX2_prepare_18 rfl ?_
  refine s_geti E (y := (σ 3 5)) 3 5 in_X0 gX_3 rfl (by decide) m_f_X2_104 rfl ((up2_n rfl).trans (up2_n rfl)) dX2_prepare_19 ?_
  refine s_ishl E dX2_prepare_22 ?_
  refine s_put E (w' := (wX cI q (up2 (up2 (up2 σ 19 8 (σ 3 0)) 19 9 (σ 3 3)) 19 10 (shl 1 (σ 3 5))))) (v := .int (shl 1 (σ 3 5))) 19 10 tyX2 tyX2_ok nmX2 in_X2 gX_19 rfl (by decide) m_f_X2_43 rfl (tyX2_ok 10 (by decide)) rfl rfl (Nat.le_of_ble_eq_true rfl) fX_19_10 dX2_prepare_23 ?_
  refine s_aload_n E 0 rfl dX2_prepare_26 rfl ?_
  refine s_aload_n E 0 rfl dX2_prepare_27 rfl ?_
  refine s_geti E (y := (shl 1 (σ 3 5))) 19 10 in_X2 gX_19 rfl (by decide) m_f_X2_43 rfl up2_s dX2_prepare_28 ?_
  refine s_iconst E (v := 1) dX2_prepare_31 ki_1 ?_
  refine s_isub E dX2_prepare_32 ?_
  refine s_aload_n E 2 rfl dX2_prepare_33 rfl ?_
  obtain ⟨u1, e1, h⟩ := bnd_some h
  refine s_callVi E kf_X1_gone m_l_X2_107 (c_X1_gone q (up2 (up2 (up2 σ 19 8 (σ 3 0)) 19 9 (σ 3 3)) 19 10 (shl 1 (σ 3 5))) u1 e1) ⟨rfl, rfl, by decide, by decide⟩ (q0 := 7) rfl rfl rfl rfl rfl (Nat.le_of_ble_eq_true rfl) dX2_prepare_34 ?_
  refine s_iconst E (v := (-1)) dX2_prepare_37 ki_m1 ?_
  refine s_ixor E dX2_prepare_38 ?_
  refine s_iand E dX2_prepare_39 ?_
  refine s_put E (w' := (wX cI q (up2 (up2 (up2 (up2 σ 19 8 (σ 3 0)) 19 9 (σ 3 3)) 19 10 (shl 1 (σ 3 5))) 19 11 (((shl 1 (σ 3 5)) - 1) &&& (u1 ^^^ (-1)))))) (v := .int (((shl 1 (σ 3 5)) - 1) &&& (u1 ^^^ (-1)))) 19 11 tyX2 tyX2_ok nmX2 in_X2 gX_19 rfl (by decide) m_f_X2_46 rfl (tyX2_ok 11 (by decide)) rfl rfl (Nat.le_of_ble_eq_true rfl) fX_19_11 dX2_prepare_40 ?_
  refine s_iconst E (v := 0) dX2_prepare_43 ki_0 ?_
  refine s_istore_n E (lv' := [(0, .ref (q 19)), (1, .ref (q 3)), (2, .ref (q 7)), (3, .int 0)]) dX2_prepare_44 rfl rfl rfl rfl (by decide) ?_
  refine s_sub E (lv' := [(0, .ref (q 19)), (1, .ref (q 3)), (3, .int 0)]) [0, 1, 3] rfl ?_
  obtain ⟨u14, e14, h⟩ := bnd_some h
  refine w_X2_prepare_L45 E q fuel (up2 (up2 (up2 (up2 σ 19 8 (σ 3 0)) 19 9 (σ 3 3)) 19 10 (shl 1 (σ 3 5))) 19 11 (((shl 1 (σ 3 5)) - 1) &&& (u1 ^^^ (-1)))) 0 u14 e14 ?_
  obtain rfl := Option.some.inj h
  exact s_vret E rfl dX2_prepare_148
end
abbrev rm_X2_weighSets : Room := { frames := 1, cells := 0, slots := 0, locals := 23 }
section
noncomputable def f_X2_weighSets_L2 : Nat → (Nat → Nat → Int32) → Int32 → Option (Nat → Nat → Int32)
  | 0, _, _ => none
  | n + 1, σ, y3 =>
    (if 256 ≤ y3 then (some σ) else (chk y3 256 (f_X2_weighSets_L2 n (up2 σ 23 (y3.toNatClampNeg) 99) (y3 + 1))))
set_option maxRecDepth 100000 in
set_option maxHeartbeats 4000000 in
theorem w_X2_weighSets_L2 (E : EV p s m args meth c dC dI cI cZ cX2_weighSets 8 RX2 none) (q : Nat → Nat) : ∀ (n : Nat) (σ : Nat → Nat → Int32) (y3 : Int32) (z : (Nat → Nat → Int32)), f_X2_weighSets_L2 n σ y3 = some z → GG p l e rm_X2_weighSets s m args below meth c Q A dC dI 8 (wX cI q z) 23 [(0, .ref (q 19)), (1, .ref (q 3)), (2, .ref (q 7))] [] → GG p l e rm_X2_weighSets s m args below meth c Q A dC dI 8 (wX cI q σ) 2 [(0, .ref (q 19)), (1, .ref (q 3)), (2, .ref (q 7)), (3, .int y3)] [] := by
  intro n
  induction n with
  | zero =>
    intro σ y3 z h
    rw [f_X2_weighSets_L2] at h
    cases h
  | succ n ih =>
    intro σ y3 z h hK
    rw [f_X2_weighSets_L2] at h
    refine s_iload_n E 3 rfl dX2_weighSets_2 rfl ?_
    refine s_sipush E (v := 256) dX2_weighSets_3 ks_256 ?_
    refine s_icmp_ge E 23 dX2_weighSets_6 (by decide) (fun c1 => ?_) (fun c1 => ?_)
    · have h := (if_pos c1).symm.trans h
      refine s_sub E (lv' := [(0, .ref (q 19)), (1, .ref (q 3)), (2, .ref (q 7))]) [0, 1, 2] rfl ?_
      obtain rfl := Option.some.inj h
      exact hK
    · have h := (if_neg c1).symm.trans h
      refine s_aload_n E 0 rfl dX2_weighSets_9 rfl ?_
      refine s_get E (v := .ref (q 23)) 19 3 in_X2 gX_19 rfl (by decide) m_f_X2_21 rfl dX2_weighSets_10 ?_
      refine s_iload_n E 3 rfl dX2_weighSets_13 rfl ?_
      refine s_bipush E (v := 99) dX2_weighSets_14 kb_99 ?_
      obtain ⟨b2, h⟩ := chk_some h
      refine s_iast E (w' := (wX cI q (up2 σ 23 (y3.toNatClampNeg) 99))) 23 gX_23 b2 aX_23 dX2_weighSets_16 ?_
      refine s_iinc E (v := (y3 + 1)) (lv' := [(0, .ref (q 19)), (1, .ref (q 3)), (2, .ref (q 7)), (3, .int (y3 + 1))]) 3 rfl dX2_weighSets_17 ki_1 rfl rfl rfl rfl (by decide) ?_
      refine s_goto E 2 dX2_weighSets_20 (by decide) ?_
      exact ih (up2 σ 23 (y3.toNatClampNeg) 99) (y3 + 1) z h hK
noncomputable def f_X2_weighSets_L73 (x3 : Int32) (x4 : Int32) (x5 : Int32) (x6 : Int32) : Nat → (Nat → Nat → Int32) → Int32 → Option (Nat → Nat → Int32)
  | 0, _, _ => none
  | n + 1, σ, y7 =>
    (if x6 ≤ y7 then (some σ) else (if 256 ≤ (y7 ||| x6) then (some σ) else (chk y7 256 (chk (y7 ||| x6) 256 (chk y7 256 (chk x3 8 (chk (y7 ||| x6) 256 (chk y7 256 (chk (y7 ||| x6) 256 (f_X2_weighSets_L73 x3 x4 x5 x6 n (up2 (up2 (up2 σ 20 ((y7 ||| x6).toNatClampNeg) (((σ 20 (y7.toNatClampNeg)) + x4) + (x5 * 65536))) 21 ((y7 ||| x6).toNatClampNeg) ((σ 21 (y7.toNatClampNeg)) + (σ 5 (x3.toNatClampNeg)))) 22 ((y7 ||| x6).toNatClampNeg) ((σ 22 (y7.toNatClampNeg)) + 1)) (y7 + 1)))))))))))
set_option maxRecDepth 100000 in
set_option maxHeartbeats 4000000 in
theorem w_X2_weighSets_L73 (E : EV p s m args meth c dC dI cI cZ cX2_weighSets 8 RX2 none) (q : Nat → Nat) (x3 : Int32) (x4 : Int32) (x5 : Int32) (x6 : Int32) : ∀ (n : Nat) (σ : Nat → Nat → Int32) (y7 : Int32) (z : (Nat → Nat → Int32)), f_X2_weighSets_L73 x3 x4 x5 x6 n σ y7 = some z → GG p l e rm_X2_weighSets s m args below meth c Q A dC dI 8 (wX cI q z) 166 [(0, .ref (q 19)), (1, .ref (q 3)), (2, .ref (q 7)), (3, .int x3), (4, .int x4), (5, .int x5), (6, .int x6)] [] → GG p l e rm_X2_weighSets s m args below meth c Q A dC dI 8 (wX cI q σ) 73 [(0, .ref (q 19)), (1, .ref (q 3)), (2, .ref (q 7)), (3, .int x3), (4, .int x4), (5, .int x5), (6, .int x6), (7, .int y7)] [] := by
  intro n
  induction n with
  | zero =>
    intro σ y7 z h
    rw [f_X2_weighSets_L73] at h
    cases h
  | succ n ih =>
    intro σ y7 z h hK
    rw [f_X2_weighSets_L73] at h
    refine s_iload E 7 rfl dX2_weighSets_73 ?_
    refine s_iload E 6 rfl dX2_weighSets_75 ?_
    refine s_icmp_ge E 166 dX2_weighSets_77 (by decide) (fun c7 => ?_) (fun c7 => ?_)
    · have h := (if_pos c7).symm.trans h
      refine s_sub E (lv' := [(0, .ref (q 19)), (1, .ref (q 3)), (2, .ref (q 7)), (3, .int x3), (4, .int x4), (5, .int x5), (6, .int x6)]) [0, 1, 2, 3, 4, 5, 6] rfl ?_
      obtain rfl := Option.some.inj h
      exact hK
    · have h := (if_neg c7).symm.trans h
      refine s_iload E 7 rfl dX2_weighSets_80 ?_
      refine s_iload E 6 rfl dX2_weighSets_82 ?_
      refine s_ior E dX2_weighSets_84 ?_
      refine s_sipush E (v := 256) dX2_weighSets_85 ks_256 ?_
      refine s_icmp_ge E 166 dX2_weighSets_88 (by decide) (fun c8 => ?_) (fun c8 => ?_)
      · have h := (if_pos c8).symm.trans h
        refine s_sub E (lv' := [(0, .ref (q 19)), (1, .ref (q 3)), (2, .ref (q 7)), (3, .int x3), (4, .int x4), (5, .int x5), (6, .int x6)]) [0, 1, 2, 3, 4, 5, 6] rfl ?_
        obtain rfl := Option.some.inj h
        exact hK
      · have h := (if_neg c8).symm.trans h
        refine s_aload_n E 0 rfl dX2_weighSets_91 rfl ?_
        refine s_get E (v := .ref (q 20)) 19 0 in_X2 gX_19 rfl (by decide) m_f_X2_11 rfl dX2_weighSets_92 ?_
        refine s_iload E 7 rfl dX2_weighSets_95 ?_
        refine s_iload E 6 rfl dX2_weighSets_97 ?_
        refine s_ior E dX2_weighSets_99 ?_
        refine s_aload_n E 0 rfl dX2_weighSets_100 rfl ?_
        refine s_get E (v := .ref (q 20)) 19 0 in_X2 gX_19 rfl (by decide) m_f_X2_11 rfl dX2_weighSets_101 ?_
        refine s_iload E 7 rfl dX2_weighSets_104 ?_
        obtain ⟨b9, h⟩ := chk_some h
        refine s_iald E (v := (σ 20 (y7.toNatClampNeg))) 20 gX_20 b9 rfl dX2_weighSets_106 ?_
        refine s_iload E 4 rfl dX2_weighSets_107 ?_
        refine s_iadd E dX2_weighSets_109 ?_
        refine s_iload E 5 rfl dX2_weighSets_110 ?_
        refine s_ldc E (v := (65536)) m_c_X2_136 dX2_weighSets_112 ?_
        refine s_imul E dX2_weighSets_114 ?_
        refine s_iadd E dX2_weighSets_115 ?_
        obtain ⟨b10, h⟩ := chk_some h
        refine s_iast E (w' := (wX cI q (up2 σ 20 ((y7 ||| x6).toNatClampNeg) (((σ 20 (y7.toNatClampNeg)) + x4) + (x5 * 65536))))) 20 gX_20 b10 aX_20 dX2_weighSets_116 ?_
        refine s_aload_n E 0 rfl dX2_weighSets_117 rfl ?_
        refine s_get E (v := .ref (q 21)) 19 1 in_X2 gX_19 rfl (by decide) m_f_X2_15 rfl dX2_weighSets_118 ?_
        refine s_iload E 7 rfl dX2_weighSets_121 ?_
        refine s_iload E 6 rfl dX2_weighSets_123 ?_
        refine s_ior E dX2_weighSets_125 ?_
        refine s_aload_n E 0 rfl dX2_weighSets_126 rfl ?_
        refine s_get E (v := .ref (q 21)) 19 1 in_X2 gX_19 rfl (by decide) m_f_X2_15 rfl dX2_weighSets_127 ?_
        refine s_iload E 7 rfl dX2_weighSets_130 ?_
        obtain ⟨b11, h⟩ := chk_some h
        refine s_iald E (v := (σ 21 (y7.toNatClampNeg))) 21 gX_21 b11 (up2_n rfl) dX2_weighSets_132 ?_
        refine s_aload_n E 1 rfl dX2_weighSets_133 rfl ?_
        refine s_get E (v := .ref (q 5)) 3 7 in_X0 gX_3 rfl (by decide) m_f_X2_137 rfl dX2_weighSets_134 ?_
        refine s_iload_n E 3 rfl dX2_weighSets_137 rfl ?_
        obtain ⟨b12, h⟩ := chk_some h
        refine s_iald E (v := (σ 5 (x3.toNatClampNeg))) 5 gX_5 b12 (up2_n rfl) dX2_weighSets_138 ?_
        refine s_iadd E dX2_weighSets_139 ?_
        obtain ⟨b13, h⟩ := chk_some h
        refine s_iast E (w' := (wX cI q (up2 (up2 σ 20 ((y7 ||| x6).toNatClampNeg) (((σ 20 (y7.toNatClampNeg)) + x4) + (x5 * 65536))) 21 ((y7 ||| x6).toNatClampNeg) ((σ 21 (y7.toNatClampNeg)) + (σ 5 (x3.toNatClampNeg)))))) 21 gX_21 b13 aX_21 dX2_weighSets_140 ?_
        refine s_aload_n E 0 rfl dX2_weighSets_141 rfl ?_
        refine s_get E (v := .ref (q 22)) 19 2 in_X2 gX_19 rfl (by decide) m_f_X2_18 rfl dX2_weighSets_142 ?_
        refine s_iload E 7 rfl dX2_weighSets_145 ?_
        refine s_iload E 6 rfl dX2_weighSets_147 ?_
        refine s_ior E dX2_weighSets_149 ?_
        refine s_aload_n E 0 rfl dX2_weighSets_150 rfl ?_
        refine s_get E (v := .ref (q 22)) 19 2 in_X2 gX_19 rfl (by decide) m_f_X2_18 rfl dX2_weighSets_151 ?_
        refine s_iload E 7 rfl dX2_weighSets_154 ?_
        obtain ⟨b14, h⟩ := chk_some h
        refine s_iald E (v := (σ 22 (y7.toNatClampNeg))) 22 gX_22 b14 ((up2_n rfl).trans (up2_n rfl)) dX2_weighSets_156 ?_
        refine s_iconst E (v := 1) dX2_weighSets_157 ki_1 ?_
        refine s_iadd E dX2_weighSets_158 ?_
        obtain ⟨b15, h⟩ := chk_some h
        refine s_iast E (w' := (wX cI q (up2 (up2 (up2 σ 20 ((y7 ||| x6).toNatClampNeg) (((σ 20 (y7.toNatClampNeg)) + x4) + (x5 * 65536))) 21 ((y7 ||| x6).toNatClampNeg) ((σ 21 (y7.toNatClampNeg)) + (σ 5 (x3.toNatClampNeg)))) 22 ((y7 ||| x6).toNatClampNeg) ((σ 22 (y7.toNatClampNeg)) + 1)))) 22 gX_22 b15 aX_22 dX2_weighSets_159 ?_
        refine s_iinc E (v := (y7 + 1)) (lv' := [(0, .ref (q 19)), (1, .ref (q 3)), (2, .ref (q 7)), (3, .int x3), (4, .int x4), (5, .int x5), (6, .int x6), (7, .int (y7 + 1))]) 7 rfl dX2_weighSets_160 ki_1 rfl rfl rfl rfl (by decide) ?_
        refine s_goto E 73 dX2_weighSets_163 (by decide) ?_
        exact ih (up2 (up2 (up2 σ 20 ((y7 ||| x6).toNatClampNeg) (((σ 20 (y7.toNatClampNeg)) + x4) + (x5 * 65536))) 21 ((y7 ||| x6).toNatClampNeg) ((σ 21 (y7.toNatClampNeg)) + (σ 5 (x3.toNatClampNeg)))) 22 ((y7 ||| x6).toNatClampNeg) ((σ 22 (y7.toNatClampNeg)) + 1)) (y7 + 1) z h hK
noncomputable def f_X2_weighSets_L32 : Nat → (Nat → Nat → Int32) → Int32 → Option (Nat → Nat → Int32)
  | 0, _, _ => none
  | n + 1, σ, y3 =>
    (if (σ 3 5) ≤ y3 then (some σ) else (chk y3 8 (chk y3 8 ((f_X2_weighSets_L73 y3 (σ 4 (y3.toNatClampNeg)) (f_X4_poundsAfter (σ 4 (y3.toNatClampNeg)) (σ 9 (y3.toNatClampNeg)) (σ 7 4)) (shl 1 y3) fuel σ 0).bind fun u16 => (f_X2_weighSets_L32 n u16 (y3 + 1))))))
set_option maxRecDepth 100000 in
set_option maxHeartbeats 4000000 in
theorem w_X2_weighSets_L32 (E : EV p s m args meth c dC dI cI cZ cX2_weighSets 8 RX2 none) (q : Nat → Nat) : ∀ (n : Nat) (σ : Nat → Nat → Int32) (y3 : Int32) (z : (Nat → Nat → Int32)), f_X2_weighSets_L32 n σ y3 = some z → GG p l e rm_X2_weighSets s m args below meth c Q A dC dI 8 (wX cI q z) 172 [(0, .ref (q 19)), (1, .ref (q 3)), (2, .ref (q 7))] [] → GG p l e rm_X2_weighSets s m args below meth c Q A dC dI 8 (wX cI q σ) 32 [(0, .ref (q 19)), (1, .ref (q 3)), (2, .ref (q 7)), (3, .int y3)] [] := by
  intro n
  induction n with
  | zero =>
    intro σ y3 z h
    rw [f_X2_weighSets_L32] at h
    cases h
  | succ n ih =>
    intro σ y3 z h hK
    rw [f_X2_weighSets_L32] at h
    refine s_iload_n E 3 rfl dX2_weighSets_32 rfl ?_
    refine s_aload_n E 1 rfl dX2_weighSets_33 rfl ?_
    refine s_geti E (y := (σ 3 5)) 3 5 in_X0 gX_3 rfl (by decide) m_f_X2_104 rfl rfl dX2_weighSets_34 ?_
    refine s_icmp_ge E 172 dX2_weighSets_37 (by decide) (fun c4 => ?_) (fun c4 => ?_)
    · have h := (if_pos c4).symm.trans h
      refine s_sub E (lv' := [(0, .ref (q 19)), (1, .ref (q 3)), (2, .ref (q 7))]) [0, 1, 2] rfl ?_
      obtain rfl := Option.some.inj h
      exact hK
    · have h := (if_neg c4).symm.trans h
      refine s_aload_n E 1 rfl dX2_weighSets_40 rfl ?_
      refine s_get E (v := .ref (q 4)) 3 6 in_X0 gX_3 rfl (by decide) m_f_X2_123 rfl dX2_weighSets_41 ?_
      refine s_iload_n E 3 rfl dX2_weighSets_44 rfl ?_
      obtain ⟨b5, h⟩ := chk_some h
      refine s_iald E (v := (σ 4 (y3.toNatClampNeg))) 4 gX_4 b5 rfl dX2_weighSets_45 ?_
      refine s_istore E (lv' := [(0, .ref (q 19)), (1, .ref (q 3)), (2, .ref (q 7)), (3, .int y3), (4, .int (σ 4 (y3.toNatClampNeg)))]) dX2_weighSets_46 rfl rfl rfl (by decide) ?_
      refine s_iload E 4 rfl dX2_weighSets_48 ?_
      refine s_aload_n E 2 rfl dX2_weighSets_50 rfl ?_
      refine s_get E (v := .ref (q 9)) 7 1 in_X1 gX_7 rfl (by decide) m_f_X2_126 rfl dX2_weighSets_51 ?_
      refine s_iload_n E 3 rfl dX2_weighSets_54 rfl ?_
      obtain ⟨b6, h⟩ := chk_some h
      refine s_iald E (v := (σ 9 (y3.toNatClampNeg))) 9 gX_9 b6 rfl dX2_weighSets_55 ?_
      refine s_aload_n E 2 rfl dX2_weighSets_56 rfl ?_
      refine s_geti E (y := (σ 7 4)) 7 4 in_X1 gX_7 rfl (by decide) m_f_X2_129 rfl rfl dX2_weighSets_57 ?_
      refine s_callSNi E kf_X4_poundsAfter nst_X2_132 (c_X4_poundsAfter (wX cI q σ) (σ 4 (y3.toNatClampNeg)) (σ 9 (y3.toNatClampNeg)) (σ 7 4)) ⟨rfl, rfl, by decide, by decide⟩ rfl rfl (Nat.le_of_ble_eq_true rfl) dX2_weighSets_60 ?_
      refine s_istore E (lv' := [(0, .ref (q 19)), (1, .ref (q 3)), (2, .ref (q 7)), (3, .int y3), (4, .int (σ 4 (y3.toNatClampNeg))), (5, .int (f_X4_poundsAfter (σ 4 (y3.toNatClampNeg)) (σ 9 (y3.toNatClampNeg)) (σ 7 4)))]) dX2_weighSets_63 rfl rfl rfl (by decide) ?_
      refine s_iconst E (v := 1) dX2_weighSets_65 ki_1 ?_
      refine s_iload_n E 3 rfl dX2_weighSets_66 rfl ?_
      refine s_ishl E dX2_weighSets_67 ?_
      refine s_istore E (lv' := [(0, .ref (q 19)), (1, .ref (q 3)), (2, .ref (q 7)), (3, .int y3), (4, .int (σ 4 (y3.toNatClampNeg))), (5, .int (f_X4_poundsAfter (σ 4 (y3.toNatClampNeg)) (σ 9 (y3.toNatClampNeg)) (σ 7 4))), (6, .int (shl 1 y3))]) dX2_weighSets_68 rfl rfl rfl (by decide) ?_
      refine s_iconst E (v := 0) dX2_weighSets_70 ki_0 ?_
      refine s_istore E (lv' := [(0, .ref (q 19)), (1, .ref (q 3)), (2, .ref (q 7)), (3, .int y3), (4, .int (σ 4 (y3.toNatClampNeg))), (5, .int (f_X4_poundsAfter (σ 4 (y3.toNatClampNeg)) (σ 9 (y3.toNatClampNeg)) (σ 7 4))), (6, .int (shl 1 y3)), (7, .int 0)]) dX2_weighSets_71 rfl rfl rfl (by decide) ?_
      obtain ⟨u16, e16, h⟩ := bnd_some h
      refine w_X2_weighSets_L73 E q y3 (σ 4 (y3.toNatClampNeg)) (f_X4_poundsAfter (σ 4 (y3.toNatClampNeg)) (σ 9 (y3.toNatClampNeg)) (σ 7 4)) (shl 1 y3) fuel σ 0 u16 e16 ?_
      refine s_iinc E (v := (y3 + 1)) (lv' := [(0, .ref (q 19)), (1, .ref (q 3)), (2, .ref (q 7)), (3, .int (y3 + 1)), (4, .int (σ 4 (y3.toNatClampNeg))), (5, .int (f_X4_poundsAfter (σ 4 (y3.toNatClampNeg)) (σ 9 (y3.toNatClampNeg)) (σ 7 4))), (6, .int (shl 1 y3))]) 3 rfl dX2_weighSets_166 ki_1 rfl rfl rfl rfl (by decide) ?_
      refine s_goto E 32 dX2_weighSets_169 (by decide) ?_
      refine s_sub E (lv' := [(0, .ref (q 19)), (1, .ref (q 3)), (2, .ref (q 7)), (3, .int (y3 + 1))]) [0, 1, 2, 3] rfl ?_
      exact ih u16 (y3 + 1) z h hK
noncomputable def f_X2_weighSets (σ : Nat → Nat → Int32) : Option (Nat → Nat → Int32) :=
  ((f_X2_weighSets_L2 fuel σ 0).bind fun u3 => ((f_X2_weighSets_L32 fuel (up2 u3 23 0 0) 0).bind fun u17 => (some u17)))
set_option maxRecDepth 100000 in
set_option maxHeartbeats 4000000 in
theorem c_X2_weighSets (q : Nat → Nat) (σ : Nat → Nat → Int32) (z : (Nat → Nat → Int32)) (h : f_X2_weighSets σ = some z) : CT l dC dI cI cZ A yX2_weighSets cX2_weighSets 8 none rm_X2_weighSets [.ref (q 19), .ref (q 3), .ref (q 7)] (wX cI q σ) (wX cI q z) none := by
  refine b_met (by decide) (Nat.le_of_ble_eq_true rfl) ?_
  intro p e s m below meth c E
  have E : EV p s m _ meth c dC dI cI cZ cX2_weighSets 8 RX2 none := E
  show GG p l e rm_X2_weighSets s m _ below meth c _ A dC dI 8 (wX cI q σ) 0 [(0, .ref (q 19)), (1, .ref (q 3)), (2, .ref (q 7))] []
  unfold f_X2_weighSets at h
  refine s_iconst E (v := 0) dX2_weighSets_0 ki_0 ?_
  refine s_istore_n E (lv' := [(0, .ref (q 19)), (1, .ref (q 3)), (2, .ref (q 7)), (3, .int 0)]) dX2_weighSets_1 rfl rfl rfl rfl (by decide) ?_
  obtain ⟨u3, e3, h⟩ := bnd_some h
  refine w_X2_weighSets_L2 E q fuel σ 0 u3 e3 ?_
  refine s_aload_n E 0 rfl dX2_weighSets_23 rfl ?_
  refine s_get E (v := .ref (q 23)) 19 3 in_X2 gX_19 rfl (by decide) m_f_X2_21 rfl dX2_weighSets_24 ?_
  refine s_iconst E (v := 0) dX2_weighSets_27 ki_0 ?_
  refine s_iconst E (v := 0) dX2_weighSets_28 ki_0 ?_
  refine s_iast E (i := 0) (w' := (wX cI q (up2 u3 23 0 0))) 23 gX_23 vin_0_256 aX_23 dX2_weighSets_29 ?_
  refine s_iconst E (v := 0) dX2_weighSets_30 ki_0 ?_
  refine s_istore_n E (lv' := [(0, .ref (q 19)), (1, .ref (q 3)), (2, .ref (q 7)), (3, .int 0)]) dX2_weighSets_31 rfl rfl rfl rfl (by decide) ?_
  obtain ⟨u17, e17, h⟩ := bnd_some h
  refine w_X2_weighSets_L32 E q fuel (up2 u3 23 0 0) 0 u17 e17 ?_
  obtain rfl := Option.some.inj h
  exact s_vret E rfl dX2_weighSets_172
end
abbrev rm_X2_pullOf : Room := { frames := 0, cells := 0, slots := 0, locals := 0 }
section
noncomputable def f_X2_pullOf (σ : Nat → Nat → Int32) (x1 : Int32) (x2 : Int32) : Option Int32 :=
  (chk x1 3 (chk x1 3 (chk x2 256 (some ((σ 27 (x1.toNatClampNeg)) + ((σ 26 (x1.toNatClampNeg)) * (σ 20 (x2.toNatClampNeg))))))))
set_option maxRecDepth 100000 in
set_option maxHeartbeats 4000000 in
theorem c_X2_pullOf (q : Nat → Nat) (σ : Nat → Nat → Int32) (x1 : Int32) (x2 : Int32) (z : Int32) (h : f_X2_pullOf σ x1 x2 = some z) : CT l dC dI cI cZ A yX2_pullOf cX2_pullOf 3 (some .int) rm_X2_pullOf [.ref (q 19), .int x1, .int x2] (wX cI q σ) (wX cI q σ) (some (.int z)) := by
  refine b_met (by decide) (Nat.le_of_ble_eq_true rfl) ?_
  intro p e s m below meth c E
  have E : EV p s m _ meth c dC dI cI cZ cX2_pullOf 3 RX2 (some .int) := E
  show GG p l e rm_X2_pullOf s m _ below meth c _ A dC dI 3 (wX cI q σ) 0 [(0, .ref (q 19)), (1, .int x1), (2, .int x2)] []
  unfold f_X2_pullOf at h
  refine s_aload_n E 0 rfl dX2_pullOf_0 rfl ?_
  refine s_get E (v := .ref (q 27)) 19 7 in_X2 gX_19 rfl (by decide) m_f_X2_33 rfl dX2_pullOf_1 ?_
  refine s_iload_n E 1 rfl dX2_pullOf_4 rfl ?_
  obtain ⟨b1, h⟩ := chk_some h
  refine s_iald E (v := (σ 27 (x1.toNatClampNeg))) 27 gX_27 b1 rfl dX2_pullOf_5 ?_
  refine s_aload_n E 0 rfl dX2_pullOf_6 rfl ?_
  refine s_get E (v := .ref (q 26)) 19 6 in_X2 gX_19 rfl (by decide) m_f_X2_30 rfl dX2_pullOf_7 ?_
  refine s_iload_n E 1 rfl dX2_pullOf_10 rfl ?_
  obtain ⟨b2, h⟩ := chk_some h
  refine s_iald E (v := (σ 26 (x1.toNatClampNeg))) 26 gX_26 b2 rfl dX2_pullOf_11 ?_
  refine s_aload_n E 0 rfl dX2_pullOf_12 rfl ?_
  refine s_get E (v := .ref (q 20)) 19 0 in_X2 gX_19 rfl (by decide) m_f_X2_11 rfl dX2_pullOf_13 ?_
  refine s_iload_n E 2 rfl dX2_pullOf_16 rfl ?_
  obtain ⟨b3, h⟩ := chk_some h
  refine s_iald E (v := (σ 20 (x2.toNatClampNeg))) 20 gX_20 b3 rfl dX2_pullOf_17 ?_
  refine s_imul E dX2_pullOf_18 ?_
  refine s_iadd E dX2_pullOf_19 ?_
  obtain rfl := Option.some.inj h
  exact s_iret E rfl rfl dX2_pullOf_20
end
abbrev rm_X2_noteChoice : Room := { frames := 1, cells := 0, slots := 0, locals := 24 }
section
noncomputable def f_X2_noteChoice (σ : Nat → Nat → Int32) (x1 : Int32) (x2 : Int32) : Option (Nat → Nat → Int32) :=
  (if x1 = 0 then (some σ) else (chk x1 256 (chk x1 256 (chk x1 256 (if (σ 19 12) < (((σ 21 (x1.toNatClampNeg)) * 16) + (σ 22 (x1.toNatClampNeg))) then (some (up2 (up2 (up2 σ 23 (x1.toNatClampNeg) 1) 19 12 (((σ 21 (x1.toNatClampNeg)) * 16) + (σ 22 (x1.toNatClampNeg)))) 19 13 x2)) else (if (((σ 21 (x1.toNatClampNeg)) * 16) + (σ 22 (x1.toNatClampNeg))) = (σ 19 12) then (if (f_X2_isAhead x2 (σ 19 13)) = 0 then (some (up2 σ 23 (x1.toNatClampNeg) 1)) else (some (up2 (up2 (up2 σ 23 (x1.toNatClampNeg) 1) 19 12 (((σ 21 (x1.toNatClampNeg)) * 16) + (σ 22 (x1.toNatClampNeg)))) 19 13 x2))) else (some (up2 σ 23 (x1.toNatClampNeg) 1))))))))
set_option maxRecDepth 100000 in
set_option maxHeartbeats 4000000 in
theorem c_X2_noteChoice (q : Nat → Nat) (σ : Nat → Nat → Int32) (x1 : Int32) (x2 : Int32) (z : (Nat → Nat → Int32)) (h : f_X2_noteChoice σ x1 x2 = some z) : CT l dC dI cI cZ A yX2_noteChoice cX2_noteChoice 4 none rm_X2_noteChoice [.ref (q 19), .int x1, .int x2] (wX cI q σ) (wX cI q z) none := by
  refine b_met (by decide) (Nat.le_of_ble_eq_true rfl) ?_
  intro p e s m below meth c E
  have E : EV p s m _ meth c dC dI cI cZ cX2_noteChoice 4 RX2 none := E
  show GG p l e rm_X2_noteChoice s m _ below meth c _ A dC dI 4 (wX cI q σ) 0 [(0, .ref (q 19)), (1, .int x1), (2, .int x2)] []
  unfold f_X2_noteChoice at h
  refine s_iload_n E 1 rfl dX2_noteChoice_0 rfl ?_
  refine s_if_ne E 5 dX2_noteChoice_1 (by decide) (fun c1 => ?_) (fun c1 => ?_)
  · have h := (if_pos c1).symm.trans h
    obtain rfl := Option.some.inj h
    exact s_vret E rfl dX2_noteChoice_4
  · have h := (if_neg c1).symm.trans h
    refine s_aload_n E 0 rfl dX2_noteChoice_5 rfl ?_
    refine s_get E (v := .ref (q 23)) 19 3 in_X2 gX_19 rfl (by decide) m_f_X2_21 rfl dX2_noteChoice_6 ?_
    refine s_iload_n E 1 rfl dX2_noteChoice_9 rfl ?_
    refine s_iconst E (v := 1) dX2_noteChoice_10 ki_1 ?_
    obtain ⟨b2, h⟩ := chk_some h
    refine s_iast E (w' := (wX cI q (up2 σ 23 (x1.toNatClampNeg) 1))) 23 gX_23 b2 aX_23 dX2_noteChoice_11 ?_
    refine s_aload_n E 0 rfl dX2_noteChoice_12 rfl ?_
    refine s_get E (v := .ref (q 21)) 19 1 in_X2 gX_19 rfl (by decide) m_f_X2_15 rfl dX2_noteChoice_13 ?_
    refine s_iload_n E 1 rfl dX2_noteChoice_16 rfl ?_
    obtain ⟨b3, h⟩ := chk_some h
    refine s_iald E (v := (σ 21 (x1.toNatClampNeg))) 21 gX_21 b3 (up2_n rfl) dX2_noteChoice_17 ?_
    refine s_bipush E (v := 16) dX2_noteChoice_18 kb_16 ?_
    refine s_imul E dX2_noteChoice_20 ?_
    refine s_aload_n E 0 rfl dX2_noteChoice_21 rfl ?_
    refine s_get E (v := .ref (q 22)) 19 2 in_X2 gX_19 rfl (by decide) m_f_X2_18 rfl dX2_noteChoice_22 ?_
    refine s_iload_n E 1 rfl dX2_noteChoice_25 rfl ?_
    obtain ⟨b4, h⟩ := chk_some h
    refine s_iald E (v := (σ 22 (x1.toNatClampNeg))) 22 gX_22 b4 (up2_n rfl) dX2_noteChoice_26 ?_
    refine s_iadd E dX2_noteChoice_27 ?_
    refine s_istore_n E (lv' := [(0, .ref (q 19)), (1, .int x1), (2, .int x2), (3, .int (((σ 21 (x1.toNatClampNeg)) * 16) + (σ 22 (x1.toNatClampNeg))))]) dX2_noteChoice_28 rfl rfl rfl rfl (by decide) ?_
    refine s_iload_n E 3 rfl dX2_noteChoice_29 rfl ?_
    refine s_aload_n E 0 rfl dX2_noteChoice_30 rfl ?_
    refine s_geti E (y := (σ 19 12)) 19 12 in_X2 gX_19 rfl (by decide) m_f_X2_49 rfl (up2_n rfl) dX2_noteChoice_31 ?_
    refine s_icmp_gt E 56 dX2_noteChoice_34 (by decide) (fun c5 => ?_) (fun c5 => ?_)
    · have h := (if_pos c5).symm.trans h
      refine s_aload_n E 0 rfl dX2_noteChoice_56 rfl ?_
      refine s_iload_n E 3 rfl dX2_noteChoice_57 rfl ?_
      refine s_put E (w' := (wX cI q (up2 (up2 σ 23 (x1.toNatClampNeg) 1) 19 12 (((σ 21 (x1.toNatClampNeg)) * 16) + (σ 22 (x1.toNatClampNeg)))))) (v := .int (((σ 21 (x1.toNatClampNeg)) * 16) + (σ 22 (x1.toNatClampNeg)))) 19 12 tyX2 tyX2_ok nmX2 in_X2 gX_19 rfl (by decide) m_f_X2_49 rfl (tyX2_ok 12 (by decide)) rfl rfl (Nat.le_of_ble_eq_true rfl) fX_19_12 dX2_noteChoice_58 ?_
      refine s_aload_n E 0 rfl dX2_noteChoice_61 rfl ?_
      refine s_iload_n E 2 rfl dX2_noteChoice_62 rfl ?_
      refine s_put E (w' := (wX cI q (up2 (up2 (up2 σ 23 (x1.toNatClampNeg) 1) 19 12 (((σ 21 (x1.toNatClampNeg)) * 16) + (σ 22 (x1.toNatClampNeg)))) 19 13 x2))) (v := .int x2) 19 13 tyX2 tyX2_ok nmX2 in_X2 gX_19 rfl (by decide) m_f_X2_52 rfl (tyX2_ok 13 (by decide)) rfl rfl (Nat.le_of_ble_eq_true rfl) fX_19_13 dX2_noteChoice_63 ?_
      obtain rfl := Option.some.inj h
      exact s_vret E rfl dX2_noteChoice_66
    · have h := (if_neg c5).symm.trans h
      refine s_iload_n E 3 rfl dX2_noteChoice_37 rfl ?_
      refine s_aload_n E 0 rfl dX2_noteChoice_38 rfl ?_
      refine s_geti E (y := (σ 19 12)) 19 12 in_X2 gX_19 rfl (by decide) m_f_X2_49 rfl (up2_n rfl) dX2_noteChoice_39 ?_
      refine s_icmp_ne E 66 dX2_noteChoice_42 (by decide) (fun c6 => ?_) (fun c6 => ?_)
      · have h := (if_pos c6).symm.trans h
        refine s_iload_n E 2 rfl dX2_noteChoice_45 rfl ?_
        refine s_aload_n E 0 rfl dX2_noteChoice_46 rfl ?_
        refine s_geti E (y := (σ 19 13)) 19 13 in_X2 gX_19 rfl (by decide) m_f_X2_52 rfl (up2_n rfl) dX2_noteChoice_47 ?_
        refine s_callSi E kf_X2_isAhead m_l_X2_162 (c_X2_isAhead (wX cI q (up2 σ 23 (x1.toNatClampNeg) 1)) x2 (σ 19 13)) ⟨rfl, rfl, by decide, by decide⟩ rfl rfl (Nat.le_of_ble_eq_true rfl) dX2_noteChoice_50 ?_
        refine s_if_eq E 66 dX2_noteChoice_53 (by decide) (fun c7 => ?_) (fun c7 => ?_)
        · have h := (if_pos c7).symm.trans h
          obtain rfl := Option.some.inj h
          exact s_vret E rfl dX2_noteChoice_66
        · have h := (if_neg c7).symm.trans h
          refine s_aload_n E 0 rfl dX2_noteChoice_56 rfl ?_
          refine s_iload_n E 3 rfl dX2_noteChoice_57 rfl ?_
          refine s_put E (w' := (wX cI q (up2 (up2 σ 23 (x1.toNatClampNeg) 1) 19 12 (((σ 21 (x1.toNatClampNeg)) * 16) + (σ 22 (x1.toNatClampNeg)))))) (v := .int (((σ 21 (x1.toNatClampNeg)) * 16) + (σ 22 (x1.toNatClampNeg)))) 19 12 tyX2 tyX2_ok nmX2 in_X2 gX_19 rfl (by decide) m_f_X2_49 rfl (tyX2_ok 12 (by decide)) rfl rfl (Nat.le_of_ble_eq_true rfl) fX_19_12 dX2_noteChoice_58 ?_
          refine s_aload_n E 0 rfl dX2_noteChoice_61 rfl ?_
          refine s_iload_n E 2 rfl dX2_noteChoice_62 rfl ?_
          refine s_put E (w' := (wX cI q (up2 (up2 (up2 σ 23 (x1.toNatClampNeg) 1) 19 12 (((σ 21 (x1.toNatClampNeg)) * 16) + (σ 22 (x1.toNatClampNeg)))) 19 13 x2))) (v := .int x2) 19 13 tyX2 tyX2_ok nmX2 in_X2 gX_19 rfl (by decide) m_f_X2_52 rfl (tyX2_ok 13 (by decide)) rfl rfl (Nat.le_of_ble_eq_true rfl) fX_19_13 dX2_noteChoice_63 ?_
          obtain rfl := Option.some.inj h
          exact s_vret E rfl dX2_noteChoice_66
      · have h := (if_neg c6).symm.trans h
        obtain rfl := Option.some.inj h
        exact s_vret E rfl dX2_noteChoice_66
end
abbrev rm_X2_noteMakeWeight : Room := { frames := 1, cells := 0, slots := 0, locals := 21 }
section
noncomputable def f_X2_noteMakeWeight (σ : Nat → Nat → Int32) (x1 : Int32) (x2 : Int32) (x3 : Int32) : Option (Nat → Nat → Int32) :=
  (chk x1 256 (if (σ 21 (x1.toNatClampNeg)) ≤ (σ 24 0) then (some σ) else (if x3 < 1 then (some σ) else (if ((x2 &&& 65535) * 65537) = x2 then (chz x3 (if (rem (x2 &&& 65535) x3) = 0 then (chz x3 (if ((x2 &&& 65535) / x3) < 1 then (some σ) else (if 99 < ((x2 &&& 65535) / x3) then (some σ) else (chk ((x2 &&& 65535) / x3) 100 (chk x1 256 (chk ((x2 &&& 65535) / x3) 100 (some (up2 σ 24 (((x2 &&& 65535) / x3).toNatClampNeg) (if (σ 24 (((x2 &&& 65535) / x3).toNatClampNeg)) < (σ 21 (x1.toNatClampNeg)) then (σ 21 (x1.toNatClampNeg)) else (σ 24 (((x2 &&& 65535) / x3).toNatClampNeg))))))))))) else (some σ))) else (some σ)))))
set_option maxRecDepth 100000 in
set_option maxHeartbeats 4000000 in
theorem c_X2_noteMakeWeight (q : Nat → Nat) (σ : Nat → Nat → Int32) (x1 : Int32) (x2 : Int32) (x3 : Int32) (z : (Nat → Nat → Int32)) (h : f_X2_noteMakeWeight σ x1 x2 x3 = some z) : CT l dC dI cI cZ A yX2_noteMakeWeight cX2_noteMakeWeight 6 none rm_X2_noteMakeWeight [.ref (q 19), .int x1, .int x2, .int x3] (wX cI q σ) (wX cI q z) none := by
  refine b_met (by decide) (Nat.le_of_ble_eq_true rfl) ?_
  intro p e s m below meth c E
  have E : EV p s m _ meth c dC dI cI cZ cX2_noteMakeWeight 6 RX2 none := E
  show GG p l e rm_X2_noteMakeWeight s m _ below meth c _ A dC dI 6 (wX cI q σ) 0 [(0, .ref (q 19)), (1, .int x1), (2, .int x2), (3, .int x3)] []
  unfold f_X2_noteMakeWeight at h
  refine s_iload_n E 2 rfl dX2_noteMakeWeight_0 rfl ?_
  refine s_ldc E (v := (65535)) m_c_X2_161 dX2_noteMakeWeight_1 ?_
  refine s_iand E dX2_noteMakeWeight_3 ?_
  refine s_istore E (lv' := [(0, .ref (q 19)), (1, .int x1), (2, .int x2), (3, .int x3), (4, .int (x2 &&& 65535))]) dX2_noteMakeWeight_4 rfl rfl rfl (by decide) ?_
  refine s_aload_n E 0 rfl dX2_noteMakeWeight_6 rfl ?_
  refine s_get E (v := .ref (q 21)) 19 1 in_X2 gX_19 rfl (by decide) m_f_X2_15 rfl dX2_noteMakeWeight_7 ?_
  refine s_iload_n E 1 rfl dX2_noteMakeWeight_10 rfl ?_
  obtain ⟨b1, h⟩ := chk_some h
  refine s_iald E (v := (σ 21 (x1.toNatClampNeg))) 21 gX_21 b1 rfl dX2_noteMakeWeight_11 ?_
  refine s_aload_n E 0 rfl dX2_noteMakeWeight_12 rfl ?_
  refine s_get E (v := .ref (q 24)) 19 4 in_X2 gX_19 rfl (by decide) m_f_X2_24 rfl dX2_noteMakeWeight_13 ?_
  refine s_iconst E (v := 0) dX2_noteMakeWeight_16 ki_0 ?_
  refine s_iald E (i := 0) (v := (σ 24 0)) 24 gX_24 vin_0_100 rfl dX2_noteMakeWeight_17 ?_
  refine s_icmp_le E 42 dX2_noteMakeWeight_18 (by decide) (fun c2 => ?_) (fun c2 => ?_)
  · have h := (if_pos c2).symm.trans h
    obtain rfl := Option.some.inj h
    exact s_vret E rfl dX2_noteMakeWeight_42
  · have h := (if_neg c2).symm.trans h
    refine s_iload_n E 3 rfl dX2_noteMakeWeight_21 rfl ?_
    refine s_iconst E (v := 1) dX2_noteMakeWeight_22 ki_1 ?_
    refine s_icmp_lt E 42 dX2_noteMakeWeight_23 (by decide) (fun c3 => ?_) (fun c3 => ?_)
    · have h := (if_pos c3).symm.trans h
      obtain rfl := Option.some.inj h
      exact s_vret E rfl dX2_noteMakeWeight_42
    · have h := (if_neg c3).symm.trans h
      refine s_iload E 4 rfl dX2_noteMakeWeight_26 ?_
      refine s_ldc E (v := (65537)) m_c_X2_118 dX2_noteMakeWeight_28 ?_
      refine s_imul E dX2_noteMakeWeight_30 ?_
      refine s_iload_n E 2 rfl dX2_noteMakeWeight_31 rfl ?_
      refine s_icmp_ne E 42 dX2_noteMakeWeight_32 (by decide) (fun c4 => ?_) (fun c4 => ?_)
      · have h := (if_pos c4).symm.trans h
        refine s_iload E 4 rfl dX2_noteMakeWeight_35 ?_
        refine s_iload_n E 3 rfl dX2_noteMakeWeight_37 rfl ?_
        obtain ⟨b5, h⟩ := chz_some h
        refine s_irem E dX2_noteMakeWeight_38 b5 ?_
        refine s_if_eq E 43 dX2_noteMakeWeight_39 (by decide) (fun c6 => ?_) (fun c6 => ?_)
        · have h := (if_pos c6).symm.trans h
          refine s_iload E 4 rfl dX2_noteMakeWeight_43 ?_
          refine s_iload_n E 3 rfl dX2_noteMakeWeight_45 rfl ?_
          obtain ⟨b7, h⟩ := chz_some h
          refine s_idiv E dX2_noteMakeWeight_46 b7 ?_
          refine s_istore E (lv' := [(0, .ref (q 19)), (1, .int x1), (2, .int x2), (3, .int x3), (4, .int (x2 &&& 65535)), (5, .int ((x2 &&& 65535) / x3))]) dX2_noteMakeWeight_47 rfl rfl rfl (by decide) ?_
          refine s_iload E 5 rfl dX2_noteMakeWeight_49 ?_
          refine s_iconst E (v := 1) dX2_noteMakeWeight_51 ki_1 ?_
          refine s_icmp_lt E 85 dX2_noteMakeWeight_52 (by decide) (fun c8 => ?_) (fun c8 => ?_)
          · have h := (if_pos c8).symm.trans h
            obtain rfl := Option.some.inj h
            exact s_vret E rfl dX2_noteMakeWeight_85
          · have h := (if_neg c8).symm.trans h
            refine s_iload E 5 rfl dX2_noteMakeWeight_55 ?_
            refine s_bipush E (v := 99) dX2_noteMakeWeight_57 kb_99 ?_
            refine s_icmp_gt E 85 dX2_noteMakeWeight_59 (by decide) (fun c9 => ?_) (fun c9 => ?_)
            · have h := (if_pos c9).symm.trans h
              obtain rfl := Option.some.inj h
              exact s_vret E rfl dX2_noteMakeWeight_85
            · have h := (if_neg c9).symm.trans h
              refine s_aload_n E 0 rfl dX2_noteMakeWeight_62 rfl ?_
              refine s_get E (v := .ref (q 24)) 19 4 in_X2 gX_19 rfl (by decide) m_f_X2_24 rfl dX2_noteMakeWeight_63 ?_
              refine s_iload E 5 rfl dX2_noteMakeWeight_66 ?_
              refine s_aload_n E 0 rfl dX2_noteMakeWeight_68 rfl ?_
              refine s_get E (v := .ref (q 24)) 19 4 in_X2 gX_19 rfl (by decide) m_f_X2_24 rfl dX2_noteMakeWeight_69 ?_
              refine s_iload E 5 rfl dX2_noteMakeWeight_72 ?_
              obtain ⟨b10, h⟩ := chk_some h
              refine s_iald E (v := (σ 24 (((x2 &&& 65535) / x3).toNatClampNeg))) 24 gX_24 b10 rfl dX2_noteMakeWeight_74 ?_
              refine s_aload_n E 0 rfl dX2_noteMakeWeight_75 rfl ?_
              refine s_get E (v := .ref (q 21)) 19 1 in_X2 gX_19 rfl (by decide) m_f_X2_15 rfl dX2_noteMakeWeight_76 ?_
              refine s_iload_n E 1 rfl dX2_noteMakeWeight_79 rfl ?_
              obtain ⟨b11, h⟩ := chk_some h
              refine s_iald E (v := (σ 21 (x1.toNatClampNeg))) 21 gX_21 b11 rfl dX2_noteMakeWeight_80 ?_
              refine s_mmax E m_l_X2_69 (by decide) (Nat.le_of_ble_eq_true rfl) dX2_noteMakeWeight_81 ?_
              obtain ⟨b12, h⟩ := chk_some h
              refine s_iast E (w' := (wX cI q (up2 σ 24 (((x2 &&& 65535) / x3).toNatClampNeg) (if (σ 24 (((x2 &&& 65535) / x3).toNatClampNeg)) < (σ 21 (x1.toNatClampNeg)) then (σ 21 (x1.toNatClampNeg)) else (σ 24 (((x2 &&& 65535) / x3).toNatClampNeg)))))) 24 gX_24 b12 aX_24 dX2_noteMakeWeight_84 ?_
              obtain rfl := Option.some.inj h
              exact s_vret E rfl dX2_noteMakeWeight_85
        · have h := (if_neg c6).symm.trans h
          obtain rfl := Option.some.inj h
          exact s_vret E rfl dX2_noteMakeWeight_42
      · have h := (if_neg c4).symm.trans h
        obtain rfl := Option.some.inj h
        exact s_vret E rfl dX2_noteMakeWeight_42
end
abbrev rm_X2_tryLast : Room := { frames := 2, cells := 0, slots := 0, locals := 47 }
section
noncomputable def f_X2_tryLast_J120_23 (σ : Nat → Nat → Int32) (x6 : Int32) (t7 : Int32) (rec : (Nat → Nat → Int32) → Int32 → Option (Nat → Nat → Int32)) : Option (Nat → Nat → Int32) :=
  (if t7 = 0 then (rec σ (-1)) else (rec σ ((t7 - 1) &&& x6)))
set_option maxRecDepth 100000 in
set_option maxHeartbeats 4000000 in
theorem w_X2_tryLast_J120_23 (E : EV p s m args meth c dC dI cI cZ cX2_tryLast 9 RX2 none) (q : Nat → Nat) (σ : Nat → Nat → Int32) (x1 : Int32) (x2 : Int32) (x3 : Int32) (x4 : Int32) (x5 : Int32) (x6 : Int32) (t7 : Int32) (z : (Nat → Nat → Int32)) (rec : (Nat → Nat → Int32) → Int32 → Option (Nat → Nat → Int32)) (hrec : ∀ (σ : Nat → Nat → Int32) (y7 : Int32), rec σ y7 = some z → GG p l e rm_X2_tryLast s m args below meth c Q A dC dI 9 (wX cI q σ) 23 [(0, .ref (q 19)), (1, .int x1), (2, .int x2), (3, .int x3), (4, .int x4), (5, .int x5), (6, .int x6), (7, .int y7)] []) (hK : GG p l e rm_X2_tryLast s m args below meth c Q A dC dI 9 (wX cI q z) 141 [(0, .ref (q 19)), (1, .int x1), (2, .int x2), (3, .int x3), (4, .int x4), (5, .int x5), (6, .int x6)] []) (h : f_X2_tryLast_J120_23 σ x6 t7 rec = some z) : GG p l e rm_X2_tryLast s m args below meth c Q A dC dI 9 (wX cI q σ) 120 [(0, .ref (q 19)), (1, .int x1), (2, .int x2), (3, .int x3), (4, .int x4), (5, .int x5), (6, .int x6), (7, .int t7)] [] := by
  unfold f_X2_tryLast_J120_23 at h
  refine s_iload E 7 rfl dX2_tryLast_120 ?_
  refine s_if_ne E 129 dX2_tryLast_122 (by decide) (fun c8 => ?_) (fun c8 => ?_)
  · have h := (if_pos c8).symm.trans h
    refine s_iconst E (v := (-1)) dX2_tryLast_125 ki_m1 ?_
    refine s_goto E 136 dX2_tryLast_126 (by decide) ?_
    refine s_istore E (lv' := [(0, .ref (q 19)), (1, .int x1), (2, .int x2), (3, .int x3), (4, .int x4), (5, .int x5), (6, .int x6), (7, .int (-1))]) dX2_tryLast_136 rfl rfl rfl (by decide) ?_
    refine s_goto E 23 dX2_tryLast_138 (by decide) ?_
    exact hrec σ (-1) h
  · have h := (if_neg c8).symm.trans h
    refine s_iload E 7 rfl dX2_tryLast_129 ?_
    refine s_iconst E (v := 1) dX2_tryLast_131 ki_1 ?_
    refine s_isub E dX2_tryLast_132 ?_
    refine s_iload E 6 rfl dX2_tryLast_133 ?_
    refine s_iand E dX2_tryLast_135 ?_
    refine s_istore E (lv' := [(0, .ref (q 19)), (1, .int x1), (2, .int x2), (3, .int x3), (4, .int x4), (5, .int x5), (6, .int x6), (7, .int ((t7 - 1) &&& x6))]) dX2_tryLast_136 rfl rfl rfl (by decide) ?_
    refine s_goto E 23 dX2_tryLast_138 (by decide) ?_
    exact hrec σ ((t7 - 1) &&& x6) h
noncomputable def f_X2_tryLast_L23 (x1 : Int32) (x2 : Int32) (x3 : Int32) (x4 : Int32) (x5 : Int32) (x6 : Int32) : Nat → (Nat → Nat → Int32) → Int32 → Option (Nat → Nat → Int32)
  | 0, _, _ => none
  | n + 1, σ, y7 =>
    (if y7 < 0 then (some σ) else ((f_X2_pullOf σ x1 y7).bind fun u3 => (if x4 = 0 then (if (x3 - u3) = 0 then (chk y7 256 (if (σ 19 9) < (σ 22 (y7.toNatClampNeg)) then (f_X2_tryLast_J120_23 σ x6 y7 (f_X2_tryLast_L23 x1 x2 x3 x4 x5 x6 n)) else ((f_X2_noteChoice σ (x5 ||| y7) (x2 ||| (shl y7 (8 * x1)))).bind fun u9 => (f_X2_tryLast_J120_23 u9 x6 y7 (f_X2_tryLast_L23 x1 x2 x3 x4 x5 x6 n))))) else (f_X2_tryLast_J120_23 σ x6 y7 (f_X2_tryLast_L23 x1 x2 x3 x4 x5 x6 n))) else (if (x3 - u3) ≤ 0 then (f_X2_tryLast_J120_23 σ x6 y7 (f_X2_tryLast_L23 x1 x2 x3 x4 x5 x6 n)) else (chk y7 256 (if (σ 19 9) ≤ (σ 22 (y7.toNatClampNeg)) then (f_X2_tryLast_J120_23 σ x6 y7 (f_X2_tryLast_L23 x1 x2 x3 x4 x5 x6 n)) else (chk x1 3 ((f_X2_noteMakeWeight σ (x5 ||| y7) (x3 - u3) (σ 26 (x1.toNatClampNeg))).bind fun u14 => (f_X2_tryLast_J120_23 u14 x6 y7 (f_X2_tryLast_L23 x1 x2 x3 x4 x5 x6 n))))))))))
set_option maxRecDepth 100000 in
set_option maxHeartbeats 4000000 in
theorem w_X2_tryLast_L23 (E : EV p s m args meth c dC dI cI cZ cX2_tryLast 9 RX2 none) (q : Nat → Nat) (x1 : Int32) (x2 : Int32) (x3 : Int32) (x4 : Int32) (x5 : Int32) (x6 : Int32) : ∀ (n : Nat) (σ : Nat → Nat → Int32) (y7 : Int32) (z : (Nat → Nat → Int32)), f_X2_tryLast_L23 x1 x2 x3 x4 x5 x6 n σ y7 = some z → GG p l e rm_X2_tryLast s m args below meth c Q A dC dI 9 (wX cI q z) 141 [(0, .ref (q 19)), (1, .int x1), (2, .int x2), (3, .int x3), (4, .int x4), (5, .int x5), (6, .int x6)] [] → GG p l e rm_X2_tryLast s m args below meth c Q A dC dI 9 (wX cI q σ) 23 [(0, .ref (q 19)), (1, .int x1), (2, .int x2), (3, .int x3), (4, .int x4), (5, .int x5), (6, .int x6), (7, .int y7)] [] := by
  intro n
  induction n with
  | zero =>
    intro σ y7 z h
    rw [f_X2_tryLast_L23] at h
    cases h
  | succ n ih =>
    intro σ y7 z h hK
    rw [f_X2_tryLast_L23] at h
    refine s_iload E 7 rfl dX2_tryLast_23 ?_
    refine s_if_lt E 141 dX2_tryLast_25 (by decide) (fun c2 => ?_) (fun c2 => ?_)
    · have h := (if_pos c2).symm.trans h
      refine s_sub E (lv' := [(0, .ref (q 19)), (1, .int x1), (2, .int x2), (3, .int x3), (4, .int x4), (5, .int x5), (6, .int x6)]) [0, 1, 2, 3, 4, 5, 6] rfl ?_
      obtain rfl := Option.some.inj h
      exact hK
    · have h := (if_neg c2).symm.trans h
      refine s_iload_n E 3 rfl dX2_tryLast_28 rfl ?_
      refine s_aload_n E 0 rfl dX2_tryLast_29 rfl ?_
      refine s_iload_n E 1 rfl dX2_tryLast_30 rfl ?_
      refine s_iload E 7 rfl dX2_tryLast_31 ?_
      obtain ⟨u3, e3, h⟩ := bnd_some h
      refine s_callVi E kf_X2_pullOf m_l_X2_140 (c_X2_pullOf q σ x1 y7 u3 e3) ⟨rfl, rfl, by decide, by decide⟩ (q0 := 19) rfl rfl rfl rfl rfl (Nat.le_of_ble_eq_true rfl) dX2_tryLast_33 ?_
      refine s_isub E dX2_tryLast_36 ?_
      refine s_istore E (lv' := [(0, .ref (q 19)), (1, .int x1), (2, .int x2), (3, .int x3), (4, .int x4), (5, .int x5), (6, .int x6), (7, .int y7), (8, .int (x3 - u3))]) dX2_tryLast_37 rfl rfl rfl (by decide) ?_
      refine s_iload E 4 rfl dX2_tryLast_39 ?_
      refine s_if_eq E 83 dX2_tryLast_41 (by decide) (fun c4 => ?_) (fun c4 => ?_)
      · have h := (if_pos c4).symm.trans h
        refine s_iload E 8 rfl dX2_tryLast_83 ?_
        refine s_if_ne E 120 dX2_tryLast_85 (by decide) (fun c5 => ?_) (fun c5 => ?_)
        · have h := (if_pos c5).symm.trans h
          refine s_aload_n E 0 rfl dX2_tryLast_88 rfl ?_
          refine s_get E (v := .ref (q 22)) 19 2 in_X2 gX_19 rfl (by decide) m_f_X2_18 rfl dX2_tryLast_89 ?_
          refine s_iload E 7 rfl dX2_tryLast_92 ?_
          obtain ⟨b6, h⟩ := chk_some h
          refine s_iald E (v := (σ 22 (y7.toNatClampNeg))) 22 gX_22 b6 rfl dX2_tryLast_94 ?_
          refine s_aload_n E 0 rfl dX2_tryLast_95 rfl ?_
          refine s_geti E (y := (σ 19 9)) 19 9 in_X2 gX_19 rfl (by decide) m_f_X2_40 rfl rfl dX2_tryLast_96 ?_
          refine s_icmp_gt E 120 dX2_tryLast_99 (by decide) (fun c7 => ?_) (fun c7 => ?_)
          · have h := (if_pos c7).symm.trans h
            refine s_sub E (lv' := [(0, .ref (q 19)), (1, .int x1), (2, .int x2), (3, .int x3), (4, .int x4), (5, .int x5), (6, .int x6), (7, .int y7)]) [0, 1, 2, 3, 4, 5, 6, 7] rfl ?_
            exact w_X2_tryLast_J120_23 E q σ x1 x2 x3 x4 x5 x6 y7 z _ (fun σ y7 h => ih σ y7 z h hK) hK h
          · have h := (if_neg c7).symm.trans h
            refine s_aload_n E 0 rfl dX2_tryLast_102 rfl ?_
            refine s_iload E 5 rfl dX2_tryLast_103 ?_
            refine s_iload E 7 rfl dX2_tryLast_105 ?_
            refine s_ior E dX2_tryLast_107 ?_
            refine s_iload_n E 2 rfl dX2_tryLast_108 rfl ?_
            refine s_iload E 7 rfl dX2_tryLast_109 ?_
            refine s_bipush E (v := 8) dX2_tryLast_111 kb_8 ?_
            refine s_iload_n E 1 rfl dX2_tryLast_113 rfl ?_
            refine s_imul E dX2_tryLast_114 ?_
            refine s_ishl E dX2_tryLast_115 ?_
            refine s_ior E dX2_tryLast_116 ?_
            obtain ⟨u9, e9, h⟩ := bnd_some h
            refine s_callVv E kf_X2_noteChoice m_l_X2_157 (c_X2_noteChoice q σ (x5 ||| y7) (x2 ||| (shl y7 (8 * x1))) u9 e9) ⟨rfl, rfl, by decide, by decide⟩ (q0 := 19) rfl rfl rfl rfl rfl (Nat.le_of_ble_eq_true rfl) dX2_tryLast_117 ?_
            refine s_sub E (lv' := [(0, .ref (q 19)), (1, .int x1), (2, .int x2), (3, .int x3), (4, .int x4), (5, .int x5), (6, .int x6), (7, .int y7)]) [0, 1, 2, 3, 4, 5, 6, 7] rfl ?_
            exact w_X2_tryLast_J120_23 E q u9 x1 x2 x3 x4 x5 x6 y7 z _ (fun σ y7 h => ih σ y7 z h hK) hK h
        · have h := (if_neg c5).symm.trans h
          refine s_sub E (lv' := [(0, .ref (q 19)), (1, .int x1), (2, .int x2), (3, .int x3), (4, .int x4), (5, .int x5), (6, .int x6), (7, .int y7)]) [0, 1, 2, 3, 4, 5, 6, 7] rfl ?_
          exact w_X2_tryLast_J120_23 E q σ x1 x2 x3 x4 x5 x6 y7 z _ (fun σ y7 h => ih σ y7 z h hK) hK h
      · have h := (if_neg c4).symm.trans h
        refine s_iload E 8 rfl dX2_tryLast_44 ?_
        refine s_if_le E 120 dX2_tryLast_46 (by decide) (fun c10 => ?_) (fun c10 => ?_)
        · have h := (if_pos c10).symm.trans h
          refine s_sub E (lv' := [(0, .ref (q 19)), (1, .int x1), (2, .int x2), (3, .int x3), (4, .int x4), (5, .int x5), (6, .int x6), (7, .int y7)]) [0, 1, 2, 3, 4, 5, 6, 7] rfl ?_
          exact w_X2_tryLast_J120_23 E q σ x1 x2 x3 x4 x5 x6 y7 z _ (fun σ y7 h => ih σ y7 z h hK) hK h
        · have h := (if_neg c10).symm.trans h
          refine s_aload_n E 0 rfl dX2_tryLast_49 rfl ?_
          refine s_get E (v := .ref (q 22)) 19 2 in_X2 gX_19 rfl (by decide) m_f_X2_18 rfl dX2_tryLast_50 ?_
          refine s_iload E 7 rfl dX2_tryLast_53 ?_
          obtain ⟨b11, h⟩ := chk_some h
          refine s_iald E (v := (σ 22 (y7.toNatClampNeg))) 22 gX_22 b11 rfl dX2_tryLast_55 ?_
          refine s_aload_n E 0 rfl dX2_tryLast_56 rfl ?_
          refine s_geti E (y := (σ 19 9)) 19 9 in_X2 gX_19 rfl (by decide) m_f_X2_40 rfl rfl dX2_tryLast_57 ?_
          refine s_icmp_ge E 120 dX2_tryLast_60 (by decide) (fun c12 => ?_) (fun c12 => ?_)
          · have h := (if_pos c12).symm.trans h
            refine s_sub E (lv' := [(0, .ref (q 19)), (1, .int x1), (2, .int x2), (3, .int x3), (4, .int x4), (5, .int x5), (6, .int x6), (7, .int y7)]) [0, 1, 2, 3, 4, 5, 6, 7] rfl ?_
            exact w_X2_tryLast_J120_23 E q σ x1 x2 x3 x4 x5 x6 y7 z _ (fun σ y7 h => ih σ y7 z h hK) hK h
          · have h := (if_neg c12).symm.trans h
            refine s_aload_n E 0 rfl dX2_tryLast_63 rfl ?_
            refine s_iload E 5 rfl dX2_tryLast_64 ?_
            refine s_iload E 7 rfl dX2_tryLast_66 ?_
            refine s_ior E dX2_tryLast_68 ?_
            refine s_iload E 8 rfl dX2_tryLast_69 ?_
            refine s_aload_n E 0 rfl dX2_tryLast_71 rfl ?_
            refine s_get E (v := .ref (q 26)) 19 6 in_X2 gX_19 rfl (by decide) m_f_X2_30 rfl dX2_tryLast_72 ?_
            refine s_iload_n E 1 rfl dX2_tryLast_75 rfl ?_
            obtain ⟨b13, h⟩ := chk_some h
            refine s_iald E (v := (σ 26 (x1.toNatClampNeg))) 26 gX_26 b13 rfl dX2_tryLast_76 ?_
            obtain ⟨u14, e14, h⟩ := bnd_some h
            refine s_callVv E kf_X2_noteMakeWeight m_l_X2_153 (c_X2_noteMakeWeight q σ (x5 ||| y7) (x3 - u3) (σ 26 (x1.toNatClampNeg)) u14 e14) ⟨rfl, rfl, by decide, by decide⟩ (q0 := 19) rfl rfl rfl rfl rfl (Nat.le_of_ble_eq_true rfl) dX2_tryLast_77 ?_
            refine s_goto E 120 dX2_tryLast_80 (by decide) ?_
            refine s_sub E (lv' := [(0, .ref (q 19)), (1, .int x1), (2, .int x2), (3, .int x3), (4, .int x4), (5, .int x5), (6, .int x6), (7, .int y7)]) [0, 1, 2, 3, 4, 5, 6, 7] rfl ?_
            exact w_X2_tryLast_J120_23 E q u14 x1 x2 x3 x4 x5 x6 y7 z _ (fun σ y7 h => ih σ y7 z h hK) hK h
noncomputable def f_X2_tryLast (σ : Nat → Nat → Int32) (x1 : Int32) (x2 : Int32) (x3 : Int32) (x4 : Int32) : Option (Nat → Nat → Int32) :=
  (chk x1 3 ((f_X2_tryLast_L23 x1 x2 x3 x4 (f_X4_members x2) ((σ 25 (x1.toNatClampNeg)) &&& ((f_X4_members x2) ^^^ (-1))) fuel σ ((σ 25 (x1.toNatClampNeg)) &&& ((f_X4_members x2) ^^^ (-1)))).bind fun u15 => (some u15)))
set_option maxRecDepth 100000 in
set_option maxHeartbeats 4000000 in
theorem c_X2_tryLast (q : Nat → Nat) (σ : Nat → Nat → Int32) (x1 : Int32) (x2 : Int32) (x3 : Int32) (x4 : Int32) (z : (Nat → Nat → Int32)) (h : f_X2_tryLast σ x1 x2 x3 x4 = some z) : CT l dC dI cI cZ A yX2_tryLast cX2_tryLast 9 none rm_X2_tryLast [.ref (q 19), .int x1, .int x2, .int x3, .int x4] (wX cI q σ) (wX cI q z) none := by
  refine b_met (by decide) (Nat.le_of_ble_eq_true rfl) ?_
  intro p e s m below meth c E
  have E : EV p s m _ meth c dC dI cI cZ cX2_tryLast 9 RX2 none := E
  show GG p l e rm_X2_tryLast s m _ below meth c _ A dC dI 9 (wX cI q σ) 0 [(0, .ref (q 19)), (1, .int x1), (2, .int x2), (3, .int x3), (4, .int x4)] []
  unfold f_X2_tryLast at h
  refine s_iload_n E 2 rfl dX2_tryLast_0 rfl ?_
  refine s_callSNi E kf_X4_members nst_X2_150 (c_X4_members (wX cI q σ) x2) ⟨rfl, rfl, by decide, by decide⟩ rfl rfl (Nat.le_of_ble_eq_true rfl) dX2_tryLast_1 ?_
  refine s_istore E (lv' := [(0, .ref (q 19)), (1, .int x1), (2, .int x2), (3, .int x3), (4, .int x4), (5, .int (f_X4_members x2))]) dX2_tryLast_4 rfl rfl rfl (by decide) ?_
  refine s_aload_n E 0 rfl dX2_tryLast_6 rfl ?_
  refine s_get E (v := .ref (q 25)) 19 5 in_X2 gX_19 rfl (by decide) m_f_X2_27 rfl dX2_tryLast_7 ?_
  refine s_iload_n E 1 rfl dX2_tryLast_10 rfl ?_
  obtain ⟨b1, h⟩ := chk_some h
  refine s_iald E (v := (σ 25 (x1.toNatClampNeg))) 25 gX_25 b1 rfl dX2_tryLast_11 ?_
  refine s_iload E 5 rfl dX2_tryLast_12 ?_
  refine s_iconst E (v := (-1)) dX2_tryLast_14 ki_m1 ?_
  refine s_ixor E dX2_tryLast_15 ?_
  refine s_iand E dX2_tryLast_16 ?_
  refine s_istore E (lv' := [(0, .ref (q 19)), (1, .int x1), (2, .int x2), (3, .int x3), (4, .int x4), (5, .int (f_X4_members x2)), (6, .int ((σ 25 (x1.toNatClampNeg)) &&& ((f_X4_members x2) ^^^ (-1))))]) dX2_tryLast_17 rfl rfl rfl (by decide) ?_
  refine s_iload E 6 rfl dX2_tryLast_19 ?_
  refine s_istore E (lv' := [(0, .ref (q 19)), (1, .int x1), (2, .int x2), (3, .int x3), (4, .int x4), (5, .int (f_X4_members x2)), (6, .int ((σ 25 (x1.toNatClampNeg)) &&& ((f_X4_members x2) ^^^ (-1)))), (7, .int ((σ 25 (x1.toNatClampNeg)) &&& ((f_X4_members x2) ^^^ (-1))))]) dX2_tryLast_21 rfl rfl rfl (by decide) ?_
  obtain ⟨u15, e15, h⟩ := bnd_some h
  refine w_X2_tryLast_L23 E q x1 x2 x3 x4 (f_X4_members x2) ((σ 25 (x1.toNatClampNeg)) &&& ((f_X4_members x2) ^^^ (-1))) fuel σ ((σ 25 (x1.toNatClampNeg)) &&& ((f_X4_members x2) ^^^ (-1))) u15 e15 ?_
  obtain rfl := Option.some.inj h
  exact s_vret E rfl dX2_tryLast_141
end
abbrev rm_X2_trySecond : Room := { frames := 3, cells := 0, slots := 0, locals := 75 }
section
noncomputable def f_X2_trySecond_J81_32 (σ : Nat → Nat → Int32) (x6 : Int32) (t7 : Int32) (rec : (Nat → Nat → Int32) → Int32 → Option (Nat → Nat → Int32)) : Option (Nat → Nat → Int32) :=
  (if t7 = 0 then (rec σ (-1)) else (rec σ ((t7 - 1) &&& x6)))
set_option maxRecDepth 100000 in
set_option maxHeartbeats 4000000 in
theorem w_X2_trySecond_J81_32 (E : EV p s m args meth c dC dI cI cZ cX2_trySecond 8 RX2 none) (q : Nat → Nat) (σ : Nat → Nat → Int32) (x1 : Int32) (x2 : Int32) (x3 : Int32) (x4 : Int32) (x5 : Int32) (x6 : Int32) (t7 : Int32) (z : (Nat → Nat → Int32)) (rec : (Nat → Nat → Int32) → Int32 → Option (Nat → Nat → Int32)) (hrec : ∀ (σ : Nat → Nat → Int32) (y7 : Int32), rec σ y7 = some z → GG p l e rm_X2_trySecond s m args below meth c Q A dC dI 8 (wX cI q σ) 32 [(0, .ref (q 19)), (1, .int x1), (2, .int x2), (3, .int x3), (4, .int x4), (5, .int x5), (6, .int x6), (7, .int y7)] []) (hK : GG p l e rm_X2_trySecond s m args below meth c Q A dC dI 8 (wX cI q z) 102 [(0, .ref (q 19)), (1, .int x1), (2, .int x2), (3, .int x3), (4, .int x4), (5, .int x5), (6, .int x6)] []) (h : f_X2_trySecond_J81_32 σ x6 t7 rec = some z) : GG p l e rm_X2_trySecond s m args below meth c Q A dC dI 8 (wX cI q σ) 81 [(0, .ref (q 19)), (1, .int x1), (2, .int x2), (3, .int x3), (4, .int x4), (5, .int x5), (6, .int x6), (7, .int t7)] [] := by
  unfold f_X2_trySecond_J81_32 at h
  refine s_iload E 7 rfl dX2_trySecond_81 ?_
  refine s_if_ne E 90 dX2_trySecond_83 (by decide) (fun c6 => ?_) (fun c6 => ?_)
  · have h := (if_pos c6).symm.trans h
    refine s_iconst E (v := (-1)) dX2_trySecond_86 ki_m1 ?_
    refine s_goto E 97 dX2_trySecond_87 (by decide) ?_
    refine s_istore E (lv' := [(0, .ref (q 19)), (1, .int x1), (2, .int x2), (3, .int x3), (4, .int x4), (5, .int x5), (6, .int x6), (7, .int (-1))]) dX2_trySecond_97 rfl rfl rfl (by decide) ?_
    refine s_goto E 32 dX2_trySecond_99 (by decide) ?_
    exact hrec σ (-1) h
  · have h := (if_neg c6).symm.trans h
    refine s_iload E 7 rfl dX2_trySecond_90 ?_
    refine s_iconst E (v := 1) dX2_trySecond_92 ki_1 ?_
    refine s_isub E dX2_trySecond_93 ?_
    refine s_iload E 6 rfl dX2_trySecond_94 ?_
    refine s_iand E dX2_trySecond_96 ?_
    refine s_istore E (lv' := [(0, .ref (q 19)), (1, .int x1), (2, .int x2), (3, .int x3), (4, .int x4), (5, .int x5), (6, .int x6), (7, .int ((t7 - 1) &&& x6))]) dX2_trySecond_97 rfl rfl rfl (by decide) ?_
    refine s_goto E 32 dX2_trySecond_99 (by decide) ?_
    exact hrec σ ((t7 - 1) &&& x6) h
noncomputable def f_X2_trySecond_L32 (x1 : Int32) (x2 : Int32) (x3 : Int32) (x4 : Int32) (x5 : Int32) (x6 : Int32) : Nat → (Nat → Nat → Int32) → Int32 → Option (Nat → Nat → Int32)
  | 0, _, _ => none
  | n + 1, σ, y7 =>
    (if y7 < 0 then (some σ) else (chk y7 256 (if (σ 19 9) < (σ 22 (y7.toNatClampNeg)) then (f_X2_trySecond_J81_32 σ x6 y7 (f_X2_trySecond_L32 x1 x2 x3 x4 x5 x6 n)) else ((f_X2_pullOf σ x5 y7).bind fun u7 => (if u7 = x3 then ((f_X2_tryLast σ x1 (x2 ||| (shl y7 (8 * x5))) x3 x4).bind fun u9 => (f_X2_trySecond_J81_32 u9 x6 y7 (f_X2_trySecond_L32 x1 x2 x3 x4 x5 x6 n))) else (f_X2_trySecond_J81_32 σ x6 y7 (f_X2_trySecond_L32 x1 x2 x3 x4 x5 x6 n)))))))
set_option maxRecDepth 100000 in
set_option maxHeartbeats 4000000 in
theorem w_X2_trySecond_L32 (E : EV p s m args meth c dC dI cI cZ cX2_trySecond 8 RX2 none) (q : Nat → Nat) (x1 : Int32) (x2 : Int32) (x3 : Int32) (x4 : Int32) (x5 : Int32) (x6 : Int32) : ∀ (n : Nat) (σ : Nat → Nat → Int32) (y7 : Int32) (z : (Nat → Nat → Int32)), f_X2_trySecond_L32 x1 x2 x3 x4 x5 x6 n σ y7 = some z → GG p l e rm_X2_trySecond s m args below meth c Q A dC dI 8 (wX cI q z) 102 [(0, .ref (q 19)), (1, .int x1), (2, .int x2), (3, .int x3), (4, .int x4), (5, .int x5), (6, .int x6)] [] → GG p l e rm_X2_trySecond s m args below meth c Q A dC dI 8 (wX cI q σ) 32 [(0, .ref (q 19)), (1, .int x1), (2, .int x2), (3, .int x3), (4, .int x4), (5, .int x5), (6, .int x6), (7, .int y7)] [] := by
  intro n
  induction n with
  | zero =>
    intro σ y7 z h
    rw [f_X2_trySecond_L32] at h
    cases h
  | succ n ih =>
    intro σ y7 z h hK
    rw [f_X2_trySecond_L32] at h
    refine s_iload E 7 rfl dX2_trySecond_32 ?_
    refine s_if_lt E 102 dX2_trySecond_34 (by decide) (fun c3 => ?_) (fun c3 => ?_)
    · have h := (if_pos c3).symm.trans h
      refine s_sub E (lv' := [(0, .ref (q 19)), (1, .int x1), (2, .int x2), (3, .int x3), (4, .int x4), (5, .int x5), (6, .int x6)]) [0, 1, 2, 3, 4, 5, 6] rfl ?_
      obtain rfl := Option.some.inj h
      exact hK
    · have h := (if_neg c3).symm.trans h
      refine s_aload_n E 0 rfl dX2_trySecond_37 rfl ?_
      refine s_get E (v := .ref (q 22)) 19 2 in_X2 gX_19 rfl (by decide) m_f_X2_18 rfl dX2_trySecond_38 ?_
      refine s_iload E 7 rfl dX2_trySecond_41 ?_
      obtain ⟨b4, h⟩ := chk_some h
      refine s_iald E (v := (σ 22 (y7.toNatClampNeg))) 22 gX_22 b4 rfl dX2_trySecond_43 ?_
      refine s_aload_n E 0 rfl dX2_trySecond_44 rfl ?_
      refine s_geti E (y := (σ 19 9)) 19 9 in_X2 gX_19 rfl (by decide) m_f_X2_40 rfl rfl dX2_trySecond_45 ?_
      refine s_icmp_gt E 81 dX2_trySecond_48 (by decide) (fun c5 => ?_) (fun c5 => ?_)
      · have h := (if_pos c5).symm.trans h
        exact w_X2_trySecond_J81_32 E q σ x1 x2 x3 x4 x5 x6 y7 z _ (fun σ y7 h => ih σ y7 z h hK) hK h
      · have h := (if_neg c5).symm.trans h
        refine s_aload_n E 0 rfl dX2_trySecond_51 rfl ?_
        refine s_iload E 5 rfl dX2_trySecond_52 ?_
        refine s_iload E 7 rfl dX2_trySecond_54 ?_
        obtain ⟨u7, e7, h⟩ := bnd_some h
        refine s_callVi E kf_X2_pullOf m_l_X2_140 (c_X2_pullOf q σ x5 y7 u7 e7) ⟨rfl, rfl, by decide, by decide⟩ (q0 := 19) rfl rfl rfl rfl rfl (Nat.le_of_ble_eq_true rfl) dX2_trySecond_56 ?_
        refine s_iload_n E 3 rfl dX2_trySecond_59 rfl ?_
        refine s_icmp_ne E 81 dX2_trySecond_60 (by decide) (fun c8 => ?_) (fun c8 => ?_)
        · have h := (if_pos c8).symm.trans h
          refine s_aload_n E 0 rfl dX2_trySecond_63 rfl ?_
          refine s_iload_n E 1 rfl dX2_trySecond_64 rfl ?_
          refine s_iload_n E 2 rfl dX2_trySecond_65 rfl ?_
          refine s_iload E 7 rfl dX2_trySecond_66 ?_
          refine s_bipush E (v := 8) dX2_trySecond_68 kb_8 ?_
          refine s_iload E 5 rfl dX2_trySecond_70 ?_
          refine s_imul E dX2_trySecond_72 ?_
          refine s_ishl E dX2_trySecond_73 ?_
          refine s_ior E dX2_trySecond_74 ?_
          refine s_iload_n E 3 rfl dX2_trySecond_75 rfl ?_
          refine s_iload E 4 rfl dX2_trySecond_76 ?_
          obtain ⟨u9, e9, h⟩ := bnd_some h
          refine s_callVv E kf_X2_tryLast m_l_X2_143 (c_X2_tryLast q σ x1 (x2 ||| (shl y7 (8 * x5))) x3 x4 u9 e9) ⟨rfl, rfl, by decide, by decide⟩ (q0 := 19) rfl rfl rfl rfl rfl (Nat.le_of_ble_eq_true rfl) dX2_trySecond_78 ?_
          exact w_X2_trySecond_J81_32 E q u9 x1 x2 x3 x4 x5 x6 y7 z _ (fun σ y7 h => ih σ y7 z h hK) hK h
        · have h := (if_neg c8).symm.trans h
          exact w_X2_trySecond_J81_32 E q σ x1 x2 x3 x4 x5 x6 y7 z _ (fun σ y7 h => ih σ y7 z h hK) hK h
noncomputable def f_X2_trySecond_J10 (σ : Nat → Nat → Int32) (t1 : Int32) (t2 : Int32) (t3 : Int32) (t4 : Int32) (s0 : Int32) : Option (Nat → Nat → Int32) :=
  (chk s0 3 ((f_X2_trySecond_L32 t1 t2 t3 t4 s0 ((σ 25 (s0.toNatClampNeg)) &&& ((f_X4_members t2) ^^^ (-1))) fuel σ ((σ 25 (s0.toNatClampNeg)) &&& ((f_X4_members t2) ^^^ (-1)))).bind fun u10 => (some u10)))
set_option maxRecDepth 100000 in
set_option maxHeartbeats 4000000 in
theorem w_X2_trySecond_J10 (E : EV p s m args meth c dC dI cI cZ cX2_trySecond 8 RX2 none) (q : Nat → Nat) (σ : Nat → Nat → Int32) (t1 : Int32) (t2 : Int32) (t3 : Int32) (t4 : Int32) (s0 : Int32) (z : (Nat → Nat → Int32)) (h : f_X2_trySecond_J10 σ t1 t2 t3 t4 s0 = some z) : GG p l e rm_X2_trySecond s m args below meth c (MQ below (CQ dC dI none (wX cI q z) A) args s 0 0 A) A dC dI 8 (wX cI q σ) 10 [(0, .ref (q 19)), (1, .int t1), (2, .int t2), (3, .int t3), (4, .int t4)] [.int s0] := by
  unfold f_X2_trySecond_J10 at h
  refine s_istore E (lv' := [(0, .ref (q 19)), (1, .int t1), (2, .int t2), (3, .int t3), (4, .int t4), (5, .int s0)]) dX2_trySecond_10 rfl rfl rfl (by decide) ?_
  refine s_aload_n E 0 rfl dX2_trySecond_12 rfl ?_
  refine s_get E (v := .ref (q 25)) 19 5 in_X2 gX_19 rfl (by decide) m_f_X2_27 rfl dX2_trySecond_13 ?_
  refine s_iload E 5 rfl dX2_trySecond_16 ?_
  obtain ⟨b2, h⟩ := chk_some h
  refine s_iald E (v := (σ 25 (s0.toNatClampNeg))) 25 gX_25 b2 rfl dX2_trySecond_18 ?_
  refine s_iload_n E 2 rfl dX2_trySecond_19 rfl ?_
  refine s_callSNi E kf_X4_members nst_X2_150 (c_X4_members (wX cI q σ) t2) ⟨rfl, rfl, by decide, by decide⟩ rfl rfl (Nat.le_of_ble_eq_true rfl) dX2_trySecond_20 ?_
  refine s_iconst E (v := (-1)) dX2_trySecond_23 ki_m1 ?_
  refine s_ixor E dX2_trySecond_24 ?_
  refine s_iand E dX2_trySecond_25 ?_
  refine s_istore E (lv' := [(0, .ref (q 19)), (1, .int t1), (2, .int t2), (3, .int t3), (4, .int t4), (5, .int s0), (6, .int ((σ 25 (s0.toNatClampNeg)) &&& ((f_X4_members t2) ^^^ (-1))))]) dX2_trySecond_26 rfl rfl rfl (by decide) ?_
  refine s_iload E 6 rfl dX2_trySecond_28 ?_
  refine s_istore E (lv' := [(0, .ref (q 19)), (1, .int t1), (2, .int t2), (3, .int t3), (4, .int t4), (5, .int s0), (6, .int ((σ 25 (s0.toNatClampNeg)) &&& ((f_X4_members t2) ^^^ (-1)))), (7, .int ((σ 25 (s0.toNatClampNeg)) &&& ((f_X4_members t2) ^^^ (-1))))]) dX2_trySecond_30 rfl rfl rfl (by decide) ?_
  obtain ⟨u10, e10, h⟩ := bnd_some h
  refine w_X2_trySecond_L32 E q t1 t2 t3 t4 s0 ((σ 25 (s0.toNatClampNeg)) &&& ((f_X4_members t2) ^^^ (-1))) fuel σ ((σ 25 (s0.toNatClampNeg)) &&& ((f_X4_members t2) ^^^ (-1))) u10 e10 ?_
  obtain rfl := Option.some.inj h
  exact s_vret E rfl dX2_trySecond_102
noncomputable def f_X2_trySecond (σ : Nat → Nat → Int32) (x1 : Int32) (x2 : Int32) (x3 : Int32) (x4 : Int32) : Option (Nat → Nat → Int32) :=
  (if x1 = 2 then (f_X2_trySecond_J10 σ x1 x2 x3 x4 1) else (f_X2_trySecond_J10 σ x1 x2 x3 x4 2))
set_option maxRecDepth 100000 in
set_option maxHeartbeats 4000000 in
theorem c_X2_trySecond (q : Nat → Nat) (σ : Nat → Nat → Int32) (x1 : Int32) (x2 : Int32) (x3 : Int32) (x4 : Int32) (z : (Nat → Nat → Int32)) (h : f_X2_trySecond σ x1 x2 x3 x4 = some z) : CT l dC dI cI cZ A yX2_trySecond cX2_trySecond 8 none rm_X2_trySecond [.ref (q 19), .int x1, .int x2, .int x3, .int x4] (wX cI q σ) (wX cI q z) none := by
  refine b_met (by decide) (Nat.le_of_ble_eq_true rfl) ?_
  intro p e s m below meth c E
  have E : EV p s m _ meth c dC dI cI cZ cX2_trySecond 8 RX2 none := E
  show GG p l e rm_X2_trySecond s m _ below meth c _ A dC dI 8 (wX cI q σ) 0 [(0, .ref (q 19)), (1, .int x1), (2, .int x2), (3, .int x3), (4, .int x4)] []
  unfold f_X2_trySecond at h
  refine s_iload_n E 1 rfl dX2_trySecond_0 rfl ?_
  refine s_iconst E (v := 2) dX2_trySecond_1 ki_2 ?_
  refine s_icmp_ne E 9 dX2_trySecond_2 (by decide) (fun c1 => ?_) (fun c1 => ?_)
  · have h := (if_pos c1).symm.trans h
    refine s_iconst E (v := 1) dX2_trySecond_5 ki_1 ?_
    refine s_goto E 10 dX2_trySecond_6 (by decide) ?_
    exact w_X2_trySecond_J10 E q σ x1 x2 x3 x4 1 z h
  · have h := (if_neg c1).symm.trans h
    refine s_iconst E (v := 2) dX2_trySecond_9 ki_2 ?_
    exact w_X2_trySecond_J10 E q σ x1 x2 x3 x4 2 z h
end
abbrev rm_X2_searchWithLast : Room := { frames := 4, cells := 0, slots := 0, locals := 102 }
section
noncomputable def f_X2_searchWithLast_J91_22 (σ : Nat → Nat → Int32) (x4 : Int32) (t5 : Int32) (rec : (Nat → Nat → Int32) → Int32 → Option (Nat → Nat → Int32)) : Option (Nat → Nat → Int32) :=
  (if t5 = 0 then (rec σ (-1)) else (rec σ ((t5 - 1) &&& x4)))
set_option maxRecDepth 100000 in
set_option maxHeartbeats 4000000 in
theorem w_X2_searchWithLast_J91_22 (E : EV p s m args meth c dC dI cI cZ cX2_searchWithLast 7 RX2 none) (q : Nat → Nat) (σ : Nat → Nat → Int32) (x1 : Int32) (x2 : Int32) (x3 : Int32) (x4 : Int32) (t5 : Int32) (z : (Nat → Nat → Int32)) (rec : (Nat → Nat → Int32) → Int32 → Option (Nat → Nat → Int32)) (hrec : ∀ (σ : Nat → Nat → Int32) (y5 : Int32), rec σ y5 = some z → GG p l e rm_X2_searchWithLast s m args below meth c Q A dC dI 7 (wX cI q σ) 22 [(0, .ref (q 19)), (1, .int x1), (2, .int x2), (3, .int x3), (4, .int x4), (5, .int y5)] []) (hK : GG p l e rm_X2_searchWithLast s m args below meth c Q A dC dI 7 (wX cI q z) 112 [(0, .ref (q 19)), (1, .int x1), (2, .int x2), (3, .int x3), (4, .int x4)] []) (h : f_X2_searchWithLast_J91_22 σ x4 t5 rec = some z) : GG p l e rm_X2_searchWithLast s m args below meth c Q A dC dI 7 (wX cI q σ) 91 [(0, .ref (q 19)), (1, .int x1), (2, .int x2), (3, .int x3), (4, .int x4), (5, .int t5)] [] := by
  unfold f_X2_searchWithLast_J91_22 at h
  refine s_iload E 5 rfl dX2_searchWithLast_91 ?_
  refine s_if_ne E 100 dX2_searchWithLast_93 (by decide) (fun c6 => ?_) (fun c6 => ?_)
  · have h := (if_pos c6).symm.trans h
    refine s_iconst E (v := (-1)) dX2_searchWithLast_96 ki_m1 ?_
    refine s_goto E 107 dX2_searchWithLast_97 (by decide) ?_
    refine s_istore E (lv' := [(0, .ref (q 19)), (1, .int x1), (2, .int x2), (3, .int x3), (4, .int x4), (5, .int (-1))]) dX2_searchWithLast_107 rfl rfl rfl (by decide) ?_
    refine s_goto E 22 dX2_searchWithLast_109 (by decide) ?_
    exact hrec σ (-1) h
  · have h := (if_neg c6).symm.trans h
    refine s_iload E 5 rfl dX2_searchWithLast_100 ?_
    refine s_iconst E (v := 1) dX2_searchWithLast_102 ki_1 ?_
    refine s_isub E dX2_searchWithLast_103 ?_
    refine s_iload E 4 rfl dX2_searchWithLast_104 ?_
    refine s_iand E dX2_searchWithLast_106 ?_
    refine s_istore E (lv' := [(0, .ref (q 19)), (1, .int x1), (2, .int x2), (3, .int x3), (4, .int x4), (5, .int ((t5 - 1) &&& x4))]) dX2_searchWithLast_107 rfl rfl rfl (by decide) ?_
    refine s_goto E 22 dX2_searchWithLast_109 (by decide) ?_
    exact hrec σ ((t5 - 1) &&& x4) h
noncomputable def f_X2_searchWithLast_L22 (x1 : Int32) (x2 : Int32) (x3 : Int32) (x4 : Int32) : Nat → (Nat → Nat → Int32) → Int32 → Option (Nat → Nat → Int32)
  | 0, _, _ => none
  | n + 1, σ, y5 =>
    (if y5 < 0 then (some σ) else (chk y5 256 (if (σ 19 9) < (σ 22 (y5.toNatClampNeg)) then (f_X2_searchWithLast_J91_22 σ x4 y5 (f_X2_searchWithLast_L22 x1 x2 x3 x4 n)) else (if (σ 19 8) = 2 then ((f_X2_pullOf σ x3 y5).bind fun u8 => ((f_X2_tryLast σ x1 (shl y5 (8 * x3)) u8 x2).bind fun u9 => (f_X2_searchWithLast_J91_22 u9 x4 y5 (f_X2_searchWithLast_L22 x1 x2 x3 x4 n)))) else ((f_X2_pullOf σ x3 y5).bind fun u10 => ((f_X2_trySecond σ x1 (shl y5 (8 * x3)) u10 x2).bind fun u11 => (f_X2_searchWithLast_J91_22 u11 x4 y5 (f_X2_searchWithLast_L22 x1 x2 x3 x4 n))))))))
set_option maxRecDepth 100000 in
set_option maxHeartbeats 4000000 in
theorem w_X2_searchWithLast_L22 (E : EV p s m args meth c dC dI cI cZ cX2_searchWithLast 7 RX2 none) (q : Nat → Nat) (x1 : Int32) (x2 : Int32) (x3 : Int32) (x4 : Int32) : ∀ (n : Nat) (σ : Nat → Nat → Int32) (y5 : Int32) (z : (Nat → Nat → Int32)), f_X2_searchWithLast_L22 x1 x2 x3 x4 n σ y5 = some z → GG p l e rm_X2_searchWithLast s m args below meth c Q A dC dI 7 (wX cI q z) 112 [(0, .ref (q 19)), (1, .int x1), (2, .int x2), (3, .int x3), (4, .int x4)] [] → GG p l e rm_X2_searchWithLast s m args below meth c Q A dC dI 7 (wX cI q σ) 22 [(0, .ref (q 19)), (1, .int x1), (2, .int x2), (3, .int x3), (4, .int x4), (5, .int y5)] [] := by
  intro n
  induction n with
  | zero =>
    intro σ y5 z h
    rw [f_X2_searchWithLast_L22] at h
    cases h
  | succ n ih =>
    intro σ y5 z h hK
    rw [f_X2_searchWithLast_L22] at h
    refine s_iload E 5 rfl dX2_searchWithLast_22 ?_
    refine s_if_lt E 112 dX2_searchWithLast_24 (by decide) (fun c3 => ?_) (fun c3 => ?_)
    · have h := (if_pos c3).symm.trans h
      refine s_sub E (lv' := [(0, .ref (q 19)), (1, .int x1), (2, .int x2), (3, .int x3), (4, .int x4)]) [0, 1, 2, 3, 4] rfl ?_
      obtain rfl := Option.some.inj h
      exact hK
    · have h := (if_neg c3).symm.trans h
      refine s_aload_n E 0 rfl dX2_searchWithLast_27 rfl ?_
      refine s_get E (v := .ref (q 22)) 19 2 in_X2 gX_19 rfl (by decide) m_f_X2_18 rfl dX2_searchWithLast_28 ?_
      refine s_iload E 5 rfl dX2_searchWithLast_31 ?_
      obtain ⟨b4, h⟩ := chk_some h
      refine s_iald E (v := (σ 22 (y5.toNatClampNeg))) 22 gX_22 b4 rfl dX2_searchWithLast_33 ?_
      refine s_aload_n E 0 rfl dX2_searchWithLast_34 rfl ?_
      refine s_geti E (y := (σ 19 9)) 19 9 in_X2 gX_19 rfl (by decide) m_f_X2_40 rfl rfl dX2_searchWithLast_35 ?_
      refine s_icmp_gt E 91 dX2_searchWithLast_38 (by decide) (fun c5 => ?_) (fun c5 => ?_)
      · have h := (if_pos c5).symm.trans h
        exact w_X2_searchWithLast_J91_22 E q σ x1 x2 x3 x4 y5 z _ (fun σ y5 h => ih σ y5 z h hK) hK h
      · have h := (if_neg c5).symm.trans h
        refine s_iload E 5 rfl dX2_searchWithLast_41 ?_
        refine s_bipush E (v := 8) dX2_searchWithLast_43 kb_8 ?_
        refine s_iload_n E 3 rfl dX2_searchWithLast_45 rfl ?_
        refine s_imul E dX2_searchWithLast_46 ?_
        refine s_ishl E dX2_searchWithLast_47 ?_
        refine s_istore E (lv' := [(0, .ref (q 19)), (1, .int x1), (2, .int x2), (3, .int x3), (4, .int x4), (5, .int y5), (6, .int (shl y5 (8 * x3)))]) dX2_searchWithLast_48 rfl rfl rfl (by decide) ?_
        refine s_aload_n E 0 rfl dX2_searchWithLast_50 rfl ?_
        refine s_geti E (y := (σ 19 8)) 19 8 in_X2 gX_19 rfl (by decide) m_f_X2_36 rfl rfl dX2_searchWithLast_51 ?_
        refine s_iconst E (v := 2) dX2_searchWithLast_54 ki_2 ?_
        refine s_icmp_ne E 76 dX2_searchWithLast_55 (by decide) (fun c7 => ?_) (fun c7 => ?_)
        · have h := (if_pos c7).symm.trans h
          refine s_aload_n E 0 rfl dX2_searchWithLast_58 rfl ?_
          refine s_iload_n E 1 rfl dX2_searchWithLast_59 rfl ?_
          refine s_iload E 6 rfl dX2_searchWithLast_60 ?_
          refine s_aload_n E 0 rfl dX2_searchWithLast_62 rfl ?_
          refine s_iload_n E 3 rfl dX2_searchWithLast_63 rfl ?_
          refine s_iload E 5 rfl dX2_searchWithLast_64 ?_
          obtain ⟨u8, e8, h⟩ := bnd_some h
          refine s_callVi E kf_X2_pullOf m_l_X2_140 (c_X2_pullOf q σ x3 y5 u8 e8) ⟨rfl, rfl, by decide, by decide⟩ (q0 := 19) rfl rfl rfl rfl rfl (Nat.le_of_ble_eq_true rfl) dX2_searchWithLast_66 ?_
          refine s_iload_n E 2 rfl dX2_searchWithLast_69 rfl ?_
          obtain ⟨u9, e9, h⟩ := bnd_some h
          refine s_callVv E kf_X2_tryLast m_l_X2_143 (c_X2_tryLast q σ x1 (shl y5 (8 * x3)) u8 x2 u9 e9) ⟨rfl, rfl, by decide, by decide⟩ (q0 := 19) rfl rfl rfl rfl rfl (Nat.le_of_ble_eq_true rfl) dX2_searchWithLast_70 ?_
          refine s_goto E 91 dX2_searchWithLast_73 (by decide) ?_
          refine s_sub E (lv' := [(0, .ref (q 19)), (1, .int x1), (2, .int x2), (3, .int x3), (4, .int x4), (5, .int y5)]) [0, 1, 2, 3, 4, 5] rfl ?_
          exact w_X2_searchWithLast_J91_22 E q u9 x1 x2 x3 x4 y5 z _ (fun σ y5 h => ih σ y5 z h hK) hK h
        · have h := (if_neg c7).symm.trans h
          refine s_aload_n E 0 rfl dX2_searchWithLast_76 rfl ?_
          refine s_iload_n E 1 rfl dX2_searchWithLast_77 rfl ?_
          refine s_iload E 6 rfl dX2_searchWithLast_78 ?_
          refine s_aload_n E 0 rfl dX2_searchWithLast_80 rfl ?_
          refine s_iload_n E 3 rfl dX2_searchWithLast_81 rfl ?_
          refine s_iload E 5 rfl dX2_searchWithLast_82 ?_
          obtain ⟨u10, e10, h⟩ := bnd_some h
          refine s_callVi E kf_X2_pullOf m_l_X2_140 (c_X2_pullOf q σ x3 y5 u10 e10) ⟨rfl, rfl, by decide, by decide⟩ (q0 := 19) rfl rfl rfl rfl rfl (Nat.le_of_ble_eq_true rfl) dX2_searchWithLast_84 ?_
          refine s_iload_n E 2 rfl dX2_searchWithLast_87 rfl ?_
          obtain ⟨u11, e11, h⟩ := bnd_some h
          refine s_callVv E kf_X2_trySecond m_l_X2_147 (c_X2_trySecond q σ x1 (shl y5 (8 * x3)) u10 x2 u11 e11) ⟨rfl, rfl, by decide, by decide⟩ (q0 := 19) rfl rfl rfl rfl rfl (Nat.le_of_ble_eq_true rfl) dX2_searchWithLast_88 ?_
          refine s_sub E (lv' := [(0, .ref (q 19)), (1, .int x1), (2, .int x2), (3, .int x3), (4, .int x4), (5, .int y5)]) [0, 1, 2, 3, 4, 5] rfl ?_
          exact w_X2_searchWithLast_J91_22 E q u11 x1 x2 x3 x4 y5 z _ (fun σ y5 h => ih σ y5 z h hK) hK h
noncomputable def f_X2_searchWithLast_J9 (σ : Nat → Nat → Int32) (t1 : Int32) (t2 : Int32) (s0 : Int32) : Option (Nat → Nat → Int32) :=
  (chk s0 3 ((f_X2_searchWithLast_L22 t1 t2 s0 (σ 25 (s0.toNatClampNeg)) fuel σ (σ 25 (s0.toNatClampNeg))).bind fun u12 => (some u12)))
set_option maxRecDepth 100000 in
set_option maxHeartbeats 4000000 in
theorem w_X2_searchWithLast_J9 (E : EV p s m args meth c dC dI cI cZ cX2_searchWithLast 7 RX2 none) (q : Nat → Nat) (σ : Nat → Nat → Int32) (t1 : Int32) (t2 : Int32) (s0 : Int32) (z : (Nat → Nat → Int32)) (h : f_X2_searchWithLast_J9 σ t1 t2 s0 = some z) : GG p l e rm_X2_searchWithLast s m args below meth c (MQ below (CQ dC dI none (wX cI q z) A) args s 0 0 A) A dC dI 7 (wX cI q σ) 9 [(0, .ref (q 19)), (1, .int t1), (2, .int t2)] [.int s0] := by
  unfold f_X2_searchWithLast_J9 at h
  refine s_istore_n E (lv' := [(0, .ref (q 19)), (1, .int t1), (2, .int t2), (3, .int s0)]) dX2_searchWithLast_9 rfl rfl rfl rfl (by decide) ?_
  refine s_aload_n E 0 rfl dX2_searchWithLast_10 rfl ?_
  refine s_get E (v := .ref (q 25)) 19 5 in_X2 gX_19 rfl (by decide) m_f_X2_27 rfl dX2_searchWithLast_11 ?_
  refine s_iload_n E 3 rfl dX2_searchWithLast_14 rfl ?_
  obtain ⟨b2, h⟩ := chk_some h
  refine s_iald E (v := (σ 25 (s0.toNatClampNeg))) 25 gX_25 b2 rfl dX2_searchWithLast_15 ?_
  refine s_istore E (lv' := [(0, .ref (q 19)), (1, .int t1), (2, .int t2), (3, .int s0), (4, .int (σ 25 (s0.toNatClampNeg)))]) dX2_searchWithLast_16 rfl rfl rfl (by decide) ?_
  refine s_iload E 4 rfl dX2_searchWithLast_18 ?_
  refine s_istore E (lv' := [(0, .ref (q 19)), (1, .int t1), (2, .int t2), (3, .int s0), (4, .int (σ 25 (s0.toNatClampNeg))), (5, .int (σ 25 (s0.toNatClampNeg)))]) dX2_searchWithLast_20 rfl rfl rfl (by decide) ?_
  obtain ⟨u12, e12, h⟩ := bnd_some h
  refine w_X2_searchWithLast_L22 E q t1 t2 s0 (σ 25 (s0.toNatClampNeg)) fuel σ (σ 25 (s0.toNatClampNeg)) u12 e12 ?_
  obtain rfl := Option.some.inj h
  exact s_vret E rfl dX2_searchWithLast_112
noncomputable def f_X2_searchWithLast (σ : Nat → Nat → Int32) (x1 : Int32) (x2 : Int32) : Option (Nat → Nat → Int32) :=
  (if x1 = 0 then (f_X2_searchWithLast_J9 σ x1 x2 1) else (f_X2_searchWithLast_J9 σ x1 x2 0))
set_option maxRecDepth 100000 in
set_option maxHeartbeats 4000000 in
theorem c_X2_searchWithLast (q : Nat → Nat) (σ : Nat → Nat → Int32) (x1 : Int32) (x2 : Int32) (z : (Nat → Nat → Int32)) (h : f_X2_searchWithLast σ x1 x2 = some z) : CT l dC dI cI cZ A yX2_searchWithLast cX2_searchWithLast 7 none rm_X2_searchWithLast [.ref (q 19), .int x1, .int x2] (wX cI q σ) (wX cI q z) none := by
  refine b_met (by decide) (Nat.le_of_ble_eq_true rfl) ?_
  intro p e s m below meth c E
  have E : EV p s m _ meth c dC dI cI cZ cX2_searchWithLast 7 RX2 none := E
  show GG p l e rm_X2_searchWithLast s m _ below meth c _ A dC dI 7 (wX cI q σ) 0 [(0, .ref (q 19)), (1, .int x1), (2, .int x2)] []
  unfold f_X2_searchWithLast at h
  refine s_iload_n E 1 rfl dX2_searchWithLast_0 rfl ?_
  refine s_if_ne E 8 dX2_searchWithLast_1 (by decide) (fun c1 => ?_) (fun c1 => ?_)
  · have h := (if_pos c1).symm.trans h
    refine s_iconst E (v := 1) dX2_searchWithLast_4 ki_1 ?_
    refine s_goto E 9 dX2_searchWithLast_5 (by decide) ?_
    exact w_X2_searchWithLast_J9 E q σ x1 x2 1 z h
  · have h := (if_neg c1).symm.trans h
    refine s_iconst E (v := 0) dX2_searchWithLast_8 ki_0 ?_
    exact w_X2_searchWithLast_J9 E q σ x1 x2 0 z h
end
abbrev rm_X2_findChoices : Room := { frames := 5, cells := 0, slots := 0, locals := 128 }
section
noncomputable def f_X2_findChoices (σ : Nat → Nat → Int32) : Option (Nat → Nat → Int32) :=
  (if (σ 19 14) = 0 then ((f_X2_prepare σ).bind fun u2 => ((f_X2_weighSets u2).bind fun u3 => ((f_X2_searchWithLast (up2 (up2 u3 19 12 (-1)) 19 13 0) ((u3 19 8) - 1) 0).bind fun u4 => (some (up2 u4 19 14 1))))) else (some σ))
set_option maxRecDepth 100000 in
set_option maxHeartbeats 4000000 in
theorem c_X2_findChoices (q : Nat → Nat) (σ : Nat → Nat → Int32) (z : (Nat → Nat → Int32)) (h : f_X2_findChoices σ = some z) : CT l dC dI cI cZ A yX2_findChoices cX2_findChoices 3 none rm_X2_findChoices [.ref (q 19), .ref (q 3), .ref (q 7)] (wX cI q σ) (wX cI q z) none := by
  refine b_met (by decide) (Nat.le_of_ble_eq_true rfl) ?_
  intro p e s m below meth c E
  have E : EV p s m _ meth c dC dI cI cZ cX2_findChoices 3 RX2 none := E
  show GG p l e rm_X2_findChoices s m _ below meth c _ A dC dI 3 (wX cI q σ) 0 [(0, .ref (q 19)), (1, .ref (q 3)), (2, .ref (q 7))] []
  unfold f_X2_findChoices at h
  refine s_aload_n E 0 rfl dX2_findChoices_0 rfl ?_
  refine s_geti E (y := (σ 19 14)) 19 14 in_X2 gX_19 rfl (by decide) m_f_X2_55 rfl rfl dX2_findChoices_1 ?_
  refine s_if_eq E 8 dX2_findChoices_4 (by decide) (fun c1 => ?_) (fun c1 => ?_)
  · have h := (if_pos c1).symm.trans h
    refine s_aload_n E 0 rfl dX2_findChoices_8 rfl ?_
    refine s_aload_n E 1 rfl dX2_findChoices_9 rfl ?_
    refine s_aload_n E 2 rfl dX2_findChoices_10 rfl ?_
    obtain ⟨u2, e2, h⟩ := bnd_some h
    refine s_callVv E kf_X2_prepare m_l_X2_83 (c_X2_prepare q σ u2 e2) ⟨rfl, rfl, by decide, by decide⟩ (q0 := 19) rfl rfl rfl rfl rfl (Nat.le_of_ble_eq_true rfl) dX2_findChoices_11 ?_
    refine s_aload_n E 0 rfl dX2_findChoices_14 rfl ?_
    refine s_aload_n E 1 rfl dX2_findChoices_15 rfl ?_
    refine s_aload_n E 2 rfl dX2_findChoices_16 rfl ?_
    obtain ⟨u3, e3, h⟩ := bnd_some h
    refine s_callVv E kf_X2_weighSets m_l_X2_87 (c_X2_weighSets q u2 u3 e3) ⟨rfl, rfl, by decide, by decide⟩ (q0 := 19) rfl rfl rfl rfl rfl (Nat.le_of_ble_eq_true rfl) dX2_findChoices_17 ?_
    refine s_aload_n E 0 rfl dX2_findChoices_20 rfl ?_
    refine s_iconst E (v := (-1)) dX2_findChoices_21 ki_m1 ?_
    refine s_put E (w' := (wX cI q (up2 u3 19 12 (-1)))) (v := .int (-1)) 19 12 tyX2 tyX2_ok nmX2 in_X2 gX_19 rfl (by decide) m_f_X2_49 rfl (tyX2_ok 12 (by decide)) rfl rfl (Nat.le_of_ble_eq_true rfl) fX_19_12 dX2_findChoices_22 ?_
    refine s_aload_n E 0 rfl dX2_findChoices_25 rfl ?_
    refine s_iconst E (v := 0) dX2_findChoices_26 ki_0 ?_
    refine s_put E (w' := (wX cI q (up2 (up2 u3 19 12 (-1)) 19 13 0))) (v := .int 0) 19 13 tyX2 tyX2_ok nmX2 in_X2 gX_19 rfl (by decide) m_f_X2_52 rfl (tyX2_ok 13 (by decide)) rfl rfl (Nat.le_of_ble_eq_true rfl) fX_19_13 dX2_findChoices_27 ?_
    refine s_aload_n E 0 rfl dX2_findChoices_30 rfl ?_
    refine s_aload_n E 0 rfl dX2_findChoices_31 rfl ?_
    refine s_geti E (y := (u3 19 8)) 19 8 in_X2 gX_19 rfl (by decide) m_f_X2_36 rfl ((up2_m rfl).trans (up2_m rfl)) dX2_findChoices_32 ?_
    refine s_iconst E (v := 1) dX2_findChoices_35 ki_1 ?_
    refine s_isub E dX2_findChoices_36 ?_
    refine s_iconst E (v := 0) dX2_findChoices_37 ki_0 ?_
    obtain ⟨u4, e4, h⟩ := bnd_some h
    refine s_callVv E kf_X2_searchWithLast m_l_X2_90 (c_X2_searchWithLast q (up2 (up2 u3 19 12 (-1)) 19 13 0) ((u3 19 8) - 1) 0 u4 e4) ⟨rfl, rfl, by decide, by decide⟩ (q0 := 19) rfl rfl rfl rfl rfl (Nat.le_of_ble_eq_true rfl) dX2_findChoices_38 ?_
    refine s_aload_n E 0 rfl dX2_findChoices_41 rfl ?_
    refine s_iconst E (v := 1) dX2_findChoices_42 ki_1 ?_
    refine s_put E (w' := (wX cI q (up2 u4 19 14 1))) (v := .int 1) 19 14 tyX2 tyX2_ok nmX2 in_X2 gX_19 rfl (by decide) m_f_X2_55 rfl (tyX2_ok 14 (by decide)) rfl rfl (Nat.le_of_ble_eq_true rfl) fX_19_14 dX2_findChoices_43 ?_
    obtain rfl := Option.some.inj h
    exact s_vret E rfl dX2_findChoices_46
  · have h := (if_neg c1).symm.trans h
    obtain rfl := Option.some.inj h
    exact s_vret E rfl dX2_findChoices_7
end
abbrev rm_X2_hasChoice : Room := { frames := 0, cells := 0, slots := 0, locals := 0 }
section
noncomputable def f_X2_hasChoice (σ : Nat → Nat → Int32) : Int32 :=
  (if (σ 19 12) = (-1) then 0 else 1)
set_option maxRecDepth 100000 in
set_option maxHeartbeats 4000000 in
theorem c_X2_hasChoice (q : Nat → Nat) (σ : Nat → Nat → Int32) : CT l dC dI cI cZ A yX2_hasChoice cX2_hasChoice 1 (some .boolean) rm_X2_hasChoice [.ref (q 19)] (wX cI q σ) (wX cI q σ) (some (.int (f_X2_hasChoice σ))) := by
  refine b_met (by decide) (Nat.le_of_ble_eq_true rfl) ?_
  intro p e s m below meth c E
  have E : EV p s m _ meth c dC dI cI cZ cX2_hasChoice 1 RX2 (some .boolean) := E
  generalize h : f_X2_hasChoice σ = z
  show GG p l e rm_X2_hasChoice s m _ below meth c _ A dC dI 1 (wX cI q σ) 0 [(0, .ref (q 19))] []
  unfold f_X2_hasChoice at h
  refine s_aload_n E 0 rfl dX2_hasChoice_0 rfl ?_
  refine s_geti E (y := (σ 19 12)) 19 12 in_X2 gX_19 rfl (by decide) m_f_X2_49 rfl rfl dX2_hasChoice_1 ?_
  refine s_iconst E (v := (-1)) dX2_hasChoice_4 ki_m1 ?_
  refine s_icmp_eq E 12 dX2_hasChoice_5 (by decide) (fun c1 => ?_) (fun c1 => ?_)
  · have h := (if_pos c1).symm.trans h
    refine s_iconst E (v := 0) dX2_hasChoice_12 ki_0 ?_
    subst h
    exact s_zret E rfl rfl rfl dX2_hasChoice_13
  · have h := (if_neg c1).symm.trans h
    refine s_iconst E (v := 1) dX2_hasChoice_8 ki_1 ?_
    refine s_goto E 13 dX2_hasChoice_9 (by decide) ?_
    subst h
    exact s_zret E rfl rfl rfl dX2_hasChoice_13
end
abbrev rm_X2_bestFares : Room := { frames := 1, cells := 0, slots := 0, locals := 20 }
section
noncomputable def f_X2_bestFares (σ : Nat → Nat → Int32) : Int32 :=
  (if (f_X2_hasChoice σ) = 0 then 0 else ((σ 19 12) / 16))
set_option maxRecDepth 100000 in
set_option maxHeartbeats 4000000 in
theorem c_X2_bestFares (q : Nat → Nat) (σ : Nat → Nat → Int32) : CT l dC dI cI cZ A yX2_bestFares cX2_bestFares 1 (some .int) rm_X2_bestFares [.ref (q 19)] (wX cI q σ) (wX cI q σ) (some (.int (f_X2_bestFares σ))) := by
  refine b_met (by decide) (Nat.le_of_ble_eq_true rfl) ?_
  intro p e s m below meth c E
  have E : EV p s m _ meth c dC dI cI cZ cX2_bestFares 1 RX2 (some .int) := E
  generalize h : f_X2_bestFares σ = z
  show GG p l e rm_X2_bestFares s m _ below meth c _ A dC dI 1 (wX cI q σ) 0 [(0, .ref (q 19))] []
  unfold f_X2_bestFares at h
  refine s_aload_n E 0 rfl dX2_bestFares_0 rfl ?_
  refine s_callVi E kf_X2_hasChoice m_l_X2_65 (c_X2_hasChoice q σ) ⟨rfl, rfl, by decide, by decide⟩ (q0 := 19) rfl rfl rfl rfl rfl (Nat.le_of_ble_eq_true rfl) dX2_bestFares_1 ?_
  refine s_if_eq E 17 dX2_bestFares_4 (by decide) (fun c1 => ?_) (fun c1 => ?_)
  · have h := (if_pos c1).symm.trans h
    refine s_iconst E (v := 0) dX2_bestFares_17 ki_0 ?_
    subst h
    exact s_iret E rfl rfl dX2_bestFares_18
  · have h := (if_neg c1).symm.trans h
    refine s_aload_n E 0 rfl dX2_bestFares_7 rfl ?_
    refine s_geti E (y := (σ 19 12)) 19 12 in_X2 gX_19 rfl (by decide) m_f_X2_49 rfl rfl dX2_bestFares_8 ?_
    refine s_bipush E (v := 16) dX2_bestFares_11 kb_16 ?_
    refine s_idiv E dX2_bestFares_13 nez_16 ?_
    refine s_goto E 18 dX2_bestFares_14 (by decide) ?_
    subst h
    exact s_iret E rfl rfl dX2_bestFares_18
end
abbrev rm_X2_faresWithout : Room := { frames := 1, cells := 0, slots := 0, locals := 21 }
section
noncomputable def f_X2_faresWithout_L4 (σ : Nat → Nat → Int32) (x1 : Int32) : Nat → Int32 → Int32 → Option Int32
  | 0, _, _ => none
  | n + 1, y2, y3 =>
    (if (σ 19 10) ≤ y3 then (some y2) else (chk y3 256 (if (σ 23 (y3.toNatClampNeg)) = 1 then (if ((shr y3 x1) &&& 1) = 0 then (chk y3 256 (f_X2_faresWithout_L4 σ x1 n (if y2 < (σ 21 (y3.toNatClampNeg)) then (σ 21 (y3.toNatClampNeg)) else y2) (y3 + 1))) else (f_X2_faresWithout_L4 σ x1 n y2 (y3 + 1))) else (f_X2_faresWithout_L4 σ x1 n y2 (y3 + 1)))))
set_option maxRecDepth 100000 in
set_option maxHeartbeats 4000000 in
theorem w_X2_faresWithout_L4 (E : EV p s m args meth c dC dI cI cZ cX2_faresWithout 4 RX2 (some .int)) (q : Nat → Nat) (σ : Nat → Nat → Int32) (x1 : Int32) : ∀ (n : Nat) (y2 y3 : Int32) (z : Int32), f_X2_faresWithout_L4 σ x1 n y2 y3 = some z → GG p l e rm_X2_faresWithout s m args below meth c Q A dC dI 4 (wX cI q σ) 47 [(0, .ref (q 19)), (1, .int x1), (2, .int z)] [] → GG p l e rm_X2_faresWithout s m args below meth c Q A dC dI 4 (wX cI q σ) 4 [(0, .ref (q 19)), (1, .int x1), (2, .int y2), (3, .int y3)] [] := by
  intro n
  induction n with
  | zero =>
    intro y2 y3 z h
    rw [f_X2_faresWithout_L4] at h
    cases h
  | succ n ih =>
    intro y2 y3 z h hK
    rw [f_X2_faresWithout_L4] at h
    refine s_iload_n E 3 rfl dX2_faresWithout_4 rfl ?_
    refine s_aload_n E 0 rfl dX2_faresWithout_5 rfl ?_
    refine s_geti E (y := (σ 19 10)) 19 10 in_X2 gX_19 rfl (by decide) m_f_X2_43 rfl rfl dX2_faresWithout_6 ?_
    refine s_icmp_ge E 47 dX2_faresWithout_9 (by decide) (fun c1 => ?_) (fun c1 => ?_)
    · have h := (if_pos c1).symm.trans h
      refine s_sub E (lv' := [(0, .ref (q 19)), (1, .int x1), (2, .int y2)]) [0, 1, 2] rfl ?_
      obtain rfl := Option.some.inj h
      exact hK
    · have h := (if_neg c1).symm.trans h
      refine s_aload_n E 0 rfl dX2_faresWithout_12 rfl ?_
      refine s_get E (v := .ref (q 23)) 19 3 in_X2 gX_19 rfl (by decide) m_f_X2_21 rfl dX2_faresWithout_13 ?_
      refine s_iload_n E 3 rfl dX2_faresWithout_16 rfl ?_
      obtain ⟨b2, h⟩ := chk_some h
      refine s_iald E (v := (σ 23 (y3.toNatClampNeg))) 23 gX_23 b2 rfl dX2_faresWithout_17 ?_
      refine s_iconst E (v := 1) dX2_faresWithout_18 ki_1 ?_
      refine s_icmp_ne E 41 dX2_faresWithout_19 (by decide) (fun c3 => ?_) (fun c3 => ?_)
      · have h := (if_pos c3).symm.trans h
        refine s_iload_n E 3 rfl dX2_faresWithout_22 rfl ?_
        refine s_iload_n E 1 rfl dX2_faresWithout_23 rfl ?_
        refine s_ishr E dX2_faresWithout_24 ?_
        refine s_iconst E (v := 1) dX2_faresWithout_25 ki_1 ?_
        refine s_iand E dX2_faresWithout_26 ?_
        refine s_if_ne E 41 dX2_faresWithout_27 (by decide) (fun c4 => ?_) (fun c4 => ?_)
        · have h := (if_pos c4).symm.trans h
          refine s_iload_n E 2 rfl dX2_faresWithout_30 rfl ?_
          refine s_aload_n E 0 rfl dX2_faresWithout_31 rfl ?_
          refine s_get E (v := .ref (q 21)) 19 1 in_X2 gX_19 rfl (by decide) m_f_X2_15 rfl dX2_faresWithout_32 ?_
          refine s_iload_n E 3 rfl dX2_faresWithout_35 rfl ?_
          obtain ⟨b5, h⟩ := chk_some h
          refine s_iald E (v := (σ 21 (y3.toNatClampNeg))) 21 gX_21 b5 rfl dX2_faresWithout_36 ?_
          refine s_mmax E m_l_X2_69 (by decide) (Nat.le_of_ble_eq_true rfl) dX2_faresWithout_37 ?_
          refine s_istore_n E (lv' := [(0, .ref (q 19)), (1, .int x1), (2, .int (if y2 < (σ 21 (y3.toNatClampNeg)) then (σ 21 (y3.toNatClampNeg)) else y2)), (3, .int y3)]) dX2_faresWithout_40 rfl rfl rfl rfl (by decide) ?_
          refine s_iinc E (v := (y3 + 1)) (lv' := [(0, .ref (q 19)), (1, .int x1), (2, .int (if y2 < (σ 21 (y3.toNatClampNeg)) then (σ 21 (y3.toNatClampNeg)) else y2)), (3, .int (y3 + 1))]) 3 rfl dX2_faresWithout_41 ki_1 rfl rfl rfl rfl (by decide) ?_
          refine s_goto E 4 dX2_faresWithout_44 (by decide) ?_
          exact ih (if y2 < (σ 21 (y3.toNatClampNeg)) then (σ 21 (y3.toNatClampNeg)) else y2) (y3 + 1) z h hK
        · have h := (if_neg c4).symm.trans h
          refine s_iinc E (v := (y3 + 1)) (lv' := [(0, .ref (q 19)), (1, .int x1), (2, .int y2), (3, .int (y3 + 1))]) 3 rfl dX2_faresWithout_41 ki_1 rfl rfl rfl rfl (by decide) ?_
          refine s_goto E 4 dX2_faresWithout_44 (by decide) ?_
          exact ih y2 (y3 + 1) z h hK
      · have h := (if_neg c3).symm.trans h
        refine s_iinc E (v := (y3 + 1)) (lv' := [(0, .ref (q 19)), (1, .int x1), (2, .int y2), (3, .int (y3 + 1))]) 3 rfl dX2_faresWithout_41 ki_1 rfl rfl rfl rfl (by decide) ?_
        refine s_goto E 4 dX2_faresWithout_44 (by decide) ?_
        exact ih y2 (y3 + 1) z h hK
noncomputable def f_X2_faresWithout (σ : Nat → Nat → Int32) (x1 : Int32) : Option Int32 :=
  ((f_X2_faresWithout_L4 σ x1 fuel 0 1).bind fun u6 => (some u6))
set_option maxRecDepth 100000 in
set_option maxHeartbeats 4000000 in
theorem c_X2_faresWithout (q : Nat → Nat) (σ : Nat → Nat → Int32) (x1 : Int32) (z : Int32) (h : f_X2_faresWithout σ x1 = some z) : CT l dC dI cI cZ A yX2_faresWithout cX2_faresWithout 4 (some .int) rm_X2_faresWithout [.ref (q 19), .int x1] (wX cI q σ) (wX cI q σ) (some (.int z)) := by
  refine b_met (by decide) (Nat.le_of_ble_eq_true rfl) ?_
  intro p e s m below meth c E
  have E : EV p s m _ meth c dC dI cI cZ cX2_faresWithout 4 RX2 (some .int) := E
  show GG p l e rm_X2_faresWithout s m _ below meth c _ A dC dI 4 (wX cI q σ) 0 [(0, .ref (q 19)), (1, .int x1)] []
  unfold f_X2_faresWithout at h
  refine s_iconst E (v := 0) dX2_faresWithout_0 ki_0 ?_
  refine s_istore_n E (lv' := [(0, .ref (q 19)), (1, .int x1), (2, .int 0)]) dX2_faresWithout_1 rfl rfl rfl rfl (by decide) ?_
  refine s_iconst E (v := 1) dX2_faresWithout_2 ki_1 ?_
  refine s_istore_n E (lv' := [(0, .ref (q 19)), (1, .int x1), (2, .int 0), (3, .int 1)]) dX2_faresWithout_3 rfl rfl rfl rfl (by decide) ?_
  obtain ⟨u6, e6, h⟩ := bnd_some h
  refine w_X2_faresWithout_L4 E q σ x1 fuel 0 1 u6 e6 ?_
  refine s_iload_n E 2 rfl dX2_faresWithout_47 rfl ?_
  obtain rfl := Option.some.inj h
  exact s_iret E rfl rfl dX2_faresWithout_48
end
abbrev rm_X2_findMakeWeights : Room := { frames := 5, cells := 0, slots := 0, locals := 128 }
section
noncomputable def f_X2_findMakeWeights_L10 : Nat → (Nat → Nat → Int32) → Int32 → Option (Nat → Nat → Int32)
  | 0, _, _ => none
  | n + 1, σ, y1 =>
    (if 99 < y1 then (some σ) else (chk y1 100 (f_X2_findMakeWeights_L10 n (up2 σ 24 (y1.toNatClampNeg) (f_X2_bestFares σ)) (y1 + 1))))
set_option maxRecDepth 100000 in
set_option maxHeartbeats 4000000 in
theorem w_X2_findMakeWeights_L10 (E : EV p s m args meth c dC dI cI cZ cX2_findMakeWeights 2 RX2 none) (q : Nat → Nat) : ∀ (n : Nat) (σ : Nat → Nat → Int32) (y1 : Int32) (z : (Nat → Nat → Int32)), f_X2_findMakeWeights_L10 n σ y1 = some z → GG p l e rm_X2_findMakeWeights s m args below meth c Q A dC dI 2 (wX cI q z) 32 [(0, .ref (q 19))] [] → GG p l e rm_X2_findMakeWeights s m args below meth c Q A dC dI 2 (wX cI q σ) 10 [(0, .ref (q 19)), (1, .int y1)] [] := by
  intro n
  induction n with
  | zero =>
    intro σ y1 z h
    rw [f_X2_findMakeWeights_L10] at h
    cases h
  | succ n ih =>
    intro σ y1 z h hK
    rw [f_X2_findMakeWeights_L10] at h
    refine s_iload_n E 1 rfl dX2_findMakeWeights_10 rfl ?_
    refine s_bipush E (v := 99) dX2_findMakeWeights_11 kb_99 ?_
    refine s_icmp_gt E 32 dX2_findMakeWeights_13 (by decide) (fun c2 => ?_) (fun c2 => ?_)
    · have h := (if_pos c2).symm.trans h
      refine s_sub E (lv' := [(0, .ref (q 19))]) [0] rfl ?_
      obtain rfl := Option.some.inj h
      exact hK
    · have h := (if_neg c2).symm.trans h
      refine s_aload_n E 0 rfl dX2_findMakeWeights_16 rfl ?_
      refine s_get E (v := .ref (q 24)) 19 4 in_X2 gX_19 rfl (by decide) m_f_X2_24 rfl dX2_findMakeWeights_17 ?_
      refine s_iload_n E 1 rfl dX2_findMakeWeights_20 rfl ?_
      refine s_aload_n E 0 rfl dX2_findMakeWeights_21 rfl ?_
      refine s_callVi E kf_X2_bestFares m_l_X2_75 (c_X2_bestFares q σ) ⟨rfl, rfl, by decide, by decide⟩ (q0 := 19) rfl rfl rfl rfl rfl (Nat.le_of_ble_eq_true rfl) dX2_findMakeWeights_22 ?_
      obtain ⟨b3, h⟩ := chk_some h
      refine s_iast E (w' := (wX cI q (up2 σ 24 (y1.toNatClampNeg) (f_X2_bestFares σ)))) 24 gX_24 b3 aX_24 dX2_findMakeWeights_25 ?_
      refine s_iinc E (v := (y1 + 1)) (lv' := [(0, .ref (q 19)), (1, .int (y1 + 1))]) 1 rfl dX2_findMakeWeights_26 ki_1 rfl rfl rfl rfl (by decide) ?_
      refine s_goto E 10 dX2_findMakeWeights_29 (by decide) ?_
      exact ih (up2 σ 24 (y1.toNatClampNeg) (f_X2_bestFares σ)) (y1 + 1) z h hK
noncomputable def f_X2_findMakeWeights_L34 : Nat → (Nat → Nat → Int32) → Int32 → Option (Nat → Nat → Int32)
  | 0, _, _ => none
  | n + 1, σ, y1 =>
    (if (σ 19 8) ≤ y1 then (some σ) else ((f_X2_searchWithLast σ y1 1).bind fun u6 => (f_X2_findMakeWeights_L34 n u6 (y1 + 1))))
set_option maxRecDepth 100000 in
set_option maxHeartbeats 4000000 in
theorem w_X2_findMakeWeights_L34 (E : EV p s m args meth c dC dI cI cZ cX2_findMakeWeights 2 RX2 none) (q : Nat → Nat) : ∀ (n : Nat) (σ : Nat → Nat → Int32) (y1 : Int32) (z : (Nat → Nat → Int32)), f_X2_findMakeWeights_L34 n σ y1 = some z → GG p l e rm_X2_findMakeWeights s m args below meth c Q A dC dI 2 (wX cI q z) 54 [(0, .ref (q 19))] [] → GG p l e rm_X2_findMakeWeights s m args below meth c Q A dC dI 2 (wX cI q σ) 34 [(0, .ref (q 19)), (1, .int y1)] [] := by
  intro n
  induction n with
  | zero =>
    intro σ y1 z h
    rw [f_X2_findMakeWeights_L34] at h
    cases h
  | succ n ih =>
    intro σ y1 z h hK
    rw [f_X2_findMakeWeights_L34] at h
    refine s_iload_n E 1 rfl dX2_findMakeWeights_34 rfl ?_
    refine s_aload_n E 0 rfl dX2_findMakeWeights_35 rfl ?_
    refine s_geti E (y := (σ 19 8)) 19 8 in_X2 gX_19 rfl (by decide) m_f_X2_36 rfl rfl dX2_findMakeWeights_36 ?_
    refine s_icmp_ge E 54 dX2_findMakeWeights_39 (by decide) (fun c5 => ?_) (fun c5 => ?_)
    · have h := (if_pos c5).symm.trans h
      refine s_sub E (lv' := [(0, .ref (q 19))]) [0] rfl ?_
      obtain rfl := Option.some.inj h
      exact hK
    · have h := (if_neg c5).symm.trans h
      refine s_aload_n E 0 rfl dX2_findMakeWeights_42 rfl ?_
      refine s_iload_n E 1 rfl dX2_findMakeWeights_43 rfl ?_
      refine s_iconst E (v := 1) dX2_findMakeWeights_44 ki_1 ?_
      obtain ⟨u6, e6, h⟩ := bnd_some h
      refine s_callVv E kf_X2_searchWithLast m_l_X2_90 (c_X2_searchWithLast q σ y1 1 u6 e6) ⟨rfl, rfl, by decide, by decide⟩ (q0 := 19) rfl rfl rfl rfl rfl (Nat.le_of_ble_eq_true rfl) dX2_findMakeWeights_45 ?_
      refine s_iinc E (v := (y1 + 1)) (lv' := [(0, .ref (q 19)), (1, .int (y1 + 1))]) 1 rfl dX2_findMakeWeights_48 ki_1 rfl rfl rfl rfl (by decide) ?_
      refine s_goto E 34 dX2_findMakeWeights_51 (by decide) ?_
      exact ih u6 (y1 + 1) z h hK
noncomputable def f_X2_findMakeWeights (σ : Nat → Nat → Int32) : Option (Nat → Nat → Int32) :=
  (if (σ 19 16) = 0 then ((f_X2_findMakeWeights_L10 fuel σ 0).bind fun u4 => ((f_X2_findMakeWeights_L34 fuel u4 0).bind fun u7 => (some (up2 u7 19 16 1)))) else (some σ))
set_option maxRecDepth 100000 in
set_option maxHeartbeats 4000000 in
theorem c_X2_findMakeWeights (q : Nat → Nat) (σ : Nat → Nat → Int32) (z : (Nat → Nat → Int32)) (h : f_X2_findMakeWeights σ = some z) : CT l dC dI cI cZ A yX2_findMakeWeights cX2_findMakeWeights 2 none rm_X2_findMakeWeights [.ref (q 19)] (wX cI q σ) (wX cI q z) none := by
  refine b_met (by decide) (Nat.le_of_ble_eq_true rfl) ?_
  intro p e s m below meth c E
  have E : EV p s m _ meth c dC dI cI cZ cX2_findMakeWeights 2 RX2 none := E
  show GG p l e rm_X2_findMakeWeights s m _ below meth c _ A dC dI 2 (wX cI q σ) 0 [(0, .ref (q 19))] []
  unfold f_X2_findMakeWeights at h
  refine s_aload_n E 0 rfl dX2_findMakeWeights_0 rfl ?_
  refine s_geti E (y := (σ 19 16)) 19 16 in_X2 gX_19 rfl (by decide) m_f_X2_62 rfl rfl dX2_findMakeWeights_1 ?_
  refine s_if_eq E 8 dX2_findMakeWeights_4 (by decide) (fun c1 => ?_) (fun c1 => ?_)
  · have h := (if_pos c1).symm.trans h
    refine s_iconst E (v := 0) dX2_findMakeWeights_8 ki_0 ?_
    refine s_istore_n E (lv' := [(0, .ref (q 19)), (1, .int 0)]) dX2_findMakeWeights_9 rfl rfl rfl rfl (by decide) ?_
    obtain ⟨u4, e4, h⟩ := bnd_some h
    refine w_X2_findMakeWeights_L10 E q fuel σ 0 u4 e4 ?_
    refine s_iconst E (v := 0) dX2_findMakeWeights_32 ki_0 ?_
    refine s_istore_n E (lv' := [(0, .ref (q 19)), (1, .int 0)]) dX2_findMakeWeights_33 rfl rfl rfl rfl (by decide) ?_
    obtain ⟨u7, e7, h⟩ := bnd_some h
    refine w_X2_findMakeWeights_L34 E q fuel u4 0 u7 e7 ?_
    refine s_aload_n E 0 rfl dX2_findMakeWeights_54 rfl ?_
    refine s_iconst E (v := 1) dX2_findMakeWeights_55 ki_1 ?_
    refine s_put E (w' := (wX cI q (up2 u7 19 16 1))) (v := .int 1) 19 16 tyX2 tyX2_ok nmX2 in_X2 gX_19 rfl (by decide) m_f_X2_62 rfl (tyX2_ok 16 (by decide)) rfl rfl (Nat.le_of_ble_eq_true rfl) fX_19_16 dX2_findMakeWeights_56 ?_
    obtain rfl := Option.some.inj h
    exact s_vret E rfl dX2_findMakeWeights_59
  · have h := (if_neg c1).symm.trans h
    obtain rfl := Option.some.inj h
    exact s_vret E rfl dX2_findMakeWeights_7
end
abbrev rm_X2_madeBy : Room := { frames := 2, cells := 0, slots := 0, locals := 40 }
section
noncomputable def f_X2_madeBy (σ : Nat → Nat → Int32) (x1 : Int32) : Option Int32 :=
  (if x1 < 1 then (some 0) else (if x1 ≤ 99 then (chk x1 100 (some ((σ 24 (x1.toNatClampNeg)) - (f_X2_bestFares σ)))) else (some 0)))
set_option maxRecDepth 100000 in
set_option maxHeartbeats 4000000 in
theorem c_X2_madeBy (q : Nat → Nat) (σ : Nat → Nat → Int32) (x1 : Int32) (z : Int32) (h : f_X2_madeBy σ x1 = some z) : CT l dC dI cI cZ A yX2_madeBy cX2_madeBy 2 (some .int) rm_X2_madeBy [.ref (q 19), .int x1] (wX cI q σ) (wX cI q σ) (some (.int z)) := by
  refine b_met (by decide) (Nat.le_of_ble_eq_true rfl) ?_
  intro p e s m below meth c E
  have E : EV p s m _ meth c dC dI cI cZ cX2_madeBy 2 RX2 (some .int) := E
  show GG p l e rm_X2_madeBy s m _ below meth c _ A dC dI 2 (wX cI q σ) 0 [(0, .ref (q 19)), (1, .int x1)] []
  unfold f_X2_madeBy at h
  refine s_iload_n E 1 rfl dX2_madeBy_0 rfl ?_
  refine s_iconst E (v := 1) dX2_madeBy_1 ki_1 ?_
  refine s_icmp_lt E 11 dX2_madeBy_2 (by decide) (fun c1 => ?_) (fun c1 => ?_)
  · have h := (if_pos c1).symm.trans h
    refine s_iconst E (v := 0) dX2_madeBy_11 ki_0 ?_
    obtain rfl := Option.some.inj h
    exact s_iret E rfl rfl dX2_madeBy_12
  · have h := (if_neg c1).symm.trans h
    refine s_iload_n E 1 rfl dX2_madeBy_5 rfl ?_
    refine s_bipush E (v := 99) dX2_madeBy_6 kb_99 ?_
    refine s_icmp_le E 13 dX2_madeBy_8 (by decide) (fun c2 => ?_) (fun c2 => ?_)
    · have h := (if_pos c2).symm.trans h
      refine s_aload_n E 0 rfl dX2_madeBy_13 rfl ?_
      refine s_get E (v := .ref (q 24)) 19 4 in_X2 gX_19 rfl (by decide) m_f_X2_24 rfl dX2_madeBy_14 ?_
      refine s_iload_n E 1 rfl dX2_madeBy_17 rfl ?_
      obtain ⟨b3, h⟩ := chk_some h
      refine s_iald E (v := (σ 24 (x1.toNatClampNeg))) 24 gX_24 b3 rfl dX2_madeBy_18 ?_
      refine s_aload_n E 0 rfl dX2_madeBy_19 rfl ?_
      refine s_callVi E kf_X2_bestFares m_l_X2_75 (c_X2_bestFares q σ) ⟨rfl, rfl, by decide, by decide⟩ (q0 := 19) rfl rfl rfl rfl rfl (Nat.le_of_ble_eq_true rfl) dX2_madeBy_20 ?_
      refine s_isub E dX2_madeBy_23 ?_
      obtain rfl := Option.some.inj h
      exact s_iret E rfl rfl dX2_madeBy_24
    · have h := (if_neg c2).symm.trans h
      refine s_iconst E (v := 0) dX2_madeBy_11 ki_0 ?_
      obtain rfl := Option.some.inj h
      exact s_iret E rfl rfl dX2_madeBy_12
end
abbrev rm_X2_bestMakeWeight : Room := { frames := 3, cells := 0, slots := 0, locals := 61 }
section
noncomputable def f_X2_bestMakeWeight_L7 (σ : Nat → Nat → Int32) : Nat → Int32 → Int32 → Int32 → Option Int32
  | 0, _, _, _ => none
  | n + 1, y1, y2, y3 =>
    (if 99 < y3 then (some y1) else ((f_X2_madeBy σ y3).bind fun u2 => (if u2 ≤ y2 then (f_X2_bestMakeWeight_L7 σ n y1 y2 (y3 + 1)) else ((f_X2_madeBy σ y3).bind fun u4 => (f_X2_bestMakeWeight_L7 σ n y3 u4 (y3 + 1))))))
set_option maxRecDepth 100000 in
set_option maxHeartbeats 4000000 in
theorem w_X2_bestMakeWeight_L7 (E : EV p s m args meth c dC dI cI cZ cX2_bestMakeWeight 4 RX2 (some .int)) (q : Nat → Nat) (σ : Nat → Nat → Int32) : ∀ (n : Nat) (y1 y2 y3 : Int32) (z : Int32), f_X2_bestMakeWeight_L7 σ n y1 y2 y3 = some z → GG p l e rm_X2_bestMakeWeight s m args below meth c Q A dC dI 4 (wX cI q σ) 36 [(0, .ref (q 19)), (1, .int z)] [] → GG p l e rm_X2_bestMakeWeight s m args below meth c Q A dC dI 4 (wX cI q σ) 7 [(0, .ref (q 19)), (1, .int y1), (2, .int y2), (3, .int y3)] [] := by
  intro n
  induction n with
  | zero =>
    intro y1 y2 y3 z h
    rw [f_X2_bestMakeWeight_L7] at h
    cases h
  | succ n ih =>
    intro y1 y2 y3 z h hK
    rw [f_X2_bestMakeWeight_L7] at h
    refine s_iload_n E 3 rfl dX2_bestMakeWeight_7 rfl ?_
    refine s_bipush E (v := 99) dX2_bestMakeWeight_8 kb_99 ?_
    refine s_icmp_gt E 36 dX2_bestMakeWeight_10 (by decide) (fun c1 => ?_) (fun c1 => ?_)
    · have h := (if_pos c1).symm.trans h
      refine s_sub E (lv' := [(0, .ref (q 19)), (1, .int y1)]) [0, 1] rfl ?_
      obtain rfl := Option.some.inj h
      exact hK
    · have h := (if_neg c1).symm.trans h
      refine s_aload_n E 0 rfl dX2_bestMakeWeight_13 rfl ?_
      refine s_iload_n E 3 rfl dX2_bestMakeWeight_14 rfl ?_
      obtain ⟨u2, e2, h⟩ := bnd_some h
      refine s_callVi E kf_X2_madeBy m_l_X2_79 (c_X2_madeBy q σ y3 u2 e2) ⟨rfl, rfl, by decide, by decide⟩ (q0 := 19) rfl rfl rfl rfl rfl (Nat.le_of_ble_eq_true rfl) dX2_bestMakeWeight_15 ?_
      refine s_iload_n E 2 rfl dX2_bestMakeWeight_18 rfl ?_
      refine s_icmp_le E 30 dX2_bestMakeWeight_19 (by decide) (fun c3 => ?_) (fun c3 => ?_)
      · have h := (if_pos c3).symm.trans h
        refine s_iinc E (v := (y3 + 1)) (lv' := [(0, .ref (q 19)), (1, .int y1), (2, .int y2), (3, .int (y3 + 1))]) 3 rfl dX2_bestMakeWeight_30 ki_1 rfl rfl rfl rfl (by decide) ?_
        refine s_goto E 7 dX2_bestMakeWeight_33 (by decide) ?_
        exact ih y1 y2 (y3 + 1) z h hK
      · have h := (if_neg c3).symm.trans h
        refine s_aload_n E 0 rfl dX2_bestMakeWeight_22 rfl ?_
        refine s_iload_n E 3 rfl dX2_bestMakeWeight_23 rfl ?_
        obtain ⟨u4, e4, h⟩ := bnd_some h
        refine s_callVi E kf_X2_madeBy m_l_X2_79 (c_X2_madeBy q σ y3 u4 e4) ⟨rfl, rfl, by decide, by decide⟩ (q0 := 19) rfl rfl rfl rfl rfl (Nat.le_of_ble_eq_true rfl) dX2_bestMakeWeight_24 ?_
        refine s_istore_n E (lv' := [(0, .ref (q 19)), (1, .int y1), (2, .int u4), (3, .int y3)]) dX2_bestMakeWeight_27 rfl rfl rfl rfl (by decide) ?_
        refine s_iload_n E 3 rfl dX2_bestMakeWeight_28 rfl ?_
        refine s_istore_n E (lv' := [(0, .ref (q 19)), (1, .int y3), (2, .int u4), (3, .int y3)]) dX2_bestMakeWeight_29 rfl rfl rfl rfl (by decide) ?_
        refine s_iinc E (v := (y3 + 1)) (lv' := [(0, .ref (q 19)), (1, .int y3), (2, .int u4), (3, .int (y3 + 1))]) 3 rfl dX2_bestMakeWeight_30 ki_1 rfl rfl rfl rfl (by decide) ?_
        refine s_goto E 7 dX2_bestMakeWeight_33 (by decide) ?_
        exact ih y3 u4 (y3 + 1) z h hK
noncomputable def f_X2_bestMakeWeight (σ : Nat → Nat → Int32) : Option Int32 :=
  ((f_X2_bestMakeWeight_L7 σ fuel (-9) 0 1).bind fun u5 => (some u5))
set_option maxRecDepth 100000 in
set_option maxHeartbeats 4000000 in
theorem c_X2_bestMakeWeight (q : Nat → Nat) (σ : Nat → Nat → Int32) (z : Int32) (h : f_X2_bestMakeWeight σ = some z) : CT l dC dI cI cZ A yX2_bestMakeWeight cX2_bestMakeWeight 4 (some .int) rm_X2_bestMakeWeight [.ref (q 19)] (wX cI q σ) (wX cI q σ) (some (.int z)) := by
  refine b_met (by decide) (Nat.le_of_ble_eq_true rfl) ?_
  intro p e s m below meth c E
  have E : EV p s m _ meth c dC dI cI cZ cX2_bestMakeWeight 4 RX2 (some .int) := E
  show GG p l e rm_X2_bestMakeWeight s m _ below meth c _ A dC dI 4 (wX cI q σ) 0 [(0, .ref (q 19))] []
  unfold f_X2_bestMakeWeight at h
  refine s_bipush E (v := (-9)) dX2_bestMakeWeight_0 kb_m9 ?_
  refine s_istore_n E (lv' := [(0, .ref (q 19)), (1, .int (-9))]) dX2_bestMakeWeight_2 rfl rfl rfl rfl (by decide) ?_
  refine s_iconst E (v := 0) dX2_bestMakeWeight_3 ki_0 ?_
  refine s_istore_n E (lv' := [(0, .ref (q 19)), (1, .int (-9)), (2, .int 0)]) dX2_bestMakeWeight_4 rfl rfl rfl rfl (by decide) ?_
  refine s_iconst E (v := 1) dX2_bestMakeWeight_5 ki_1 ?_
  refine s_istore_n E (lv' := [(0, .ref (q 19)), (1, .int (-9)), (2, .int 0), (3, .int 1)]) dX2_bestMakeWeight_6 rfl rfl rfl rfl (by decide) ?_
  obtain ⟨u5, e5, h⟩ := bnd_some h
  refine w_X2_bestMakeWeight_L7 E q σ fuel (-9) 0 1 u5 e5 ?_
  refine s_iload_n E 1 rfl dX2_bestMakeWeight_36 rfl ?_
  obtain rfl := Option.some.inj h
  exact s_iret E rfl rfl dX2_bestMakeWeight_37
end
abbrev rm_X2_countSets : Room := { frames := 0, cells := 0, slots := 0, locals := 0 }
section
noncomputable def f_X2_countSets_L4 (σ : Nat → Nat → Int32) : Nat → Int32 → Int32 → Option Int32
  | 0, _, _ => none
  | n + 1, y1, y2 =>
    (if (σ 19 10) ≤ y2 then (some y1) else (chk y2 256 (if (σ 23 (y2.toNatClampNeg)) = 1 then (f_X2_countSets_L4 σ n (y1 + 1) (y2 + 1)) else (f_X2_countSets_L4 σ n y1 (y2 + 1)))))
set_option maxRecDepth 100000 in
set_option maxHeartbeats 4000000 in
theorem w_X2_countSets_L4 (E : EV p s m args meth c dC dI cI cZ cX2_countSets 3 RX2 (some .int)) (q : Nat → Nat) (σ : Nat → Nat → Int32) : ∀ (n : Nat) (y1 y2 : Int32) (z : Int32), f_X2_countSets_L4 σ n y1 y2 = some z → GG p l e rm_X2_countSets s m args below meth c Q A dC dI 3 (wX cI q σ) 31 [(0, .ref (q 19)), (1, .int z)] [] → GG p l e rm_X2_countSets s m args below meth c Q A dC dI 3 (wX cI q σ) 4 [(0, .ref (q 19)), (1, .int y1), (2, .int y2)] [] := by
  intro n
  induction n with
  | zero =>
    intro y1 y2 z h
    rw [f_X2_countSets_L4] at h
    cases h
  | succ n ih =>
    intro y1 y2 z h hK
    rw [f_X2_countSets_L4] at h
    refine s_iload_n E 2 rfl dX2_countSets_4 rfl ?_
    refine s_aload_n E 0 rfl dX2_countSets_5 rfl ?_
    refine s_geti E (y := (σ 19 10)) 19 10 in_X2 gX_19 rfl (by decide) m_f_X2_43 rfl rfl dX2_countSets_6 ?_
    refine s_icmp_ge E 31 dX2_countSets_9 (by decide) (fun c1 => ?_) (fun c1 => ?_)
    · have h := (if_pos c1).symm.trans h
      refine s_sub E (lv' := [(0, .ref (q 19)), (1, .int y1)]) [0, 1] rfl ?_
      obtain rfl := Option.some.inj h
      exact hK
    · have h := (if_neg c1).symm.trans h
      refine s_aload_n E 0 rfl dX2_countSets_12 rfl ?_
      refine s_get E (v := .ref (q 23)) 19 3 in_X2 gX_19 rfl (by decide) m_f_X2_21 rfl dX2_countSets_13 ?_
      refine s_iload_n E 2 rfl dX2_countSets_16 rfl ?_
      obtain ⟨b2, h⟩ := chk_some h
      refine s_iald E (v := (σ 23 (y2.toNatClampNeg))) 23 gX_23 b2 rfl dX2_countSets_17 ?_
      refine s_iconst E (v := 1) dX2_countSets_18 ki_1 ?_
      refine s_icmp_ne E 25 dX2_countSets_19 (by decide) (fun c3 => ?_) (fun c3 => ?_)
      · have h := (if_pos c3).symm.trans h
        refine s_iinc E (v := (y1 + 1)) (lv' := [(0, .ref (q 19)), (1, .int (y1 + 1)), (2, .int y2)]) 1 rfl dX2_countSets_22 ki_1 rfl rfl rfl rfl (by decide) ?_
        refine s_iinc E (v := (y2 + 1)) (lv' := [(0, .ref (q 19)), (1, .int (y1 + 1)), (2, .int (y2 + 1))]) 2 rfl dX2_countSets_25 ki_1 rfl rfl rfl rfl (by decide) ?_
        refine s_goto E 4 dX2_countSets_28 (by decide) ?_
        exact ih (y1 + 1) (y2 + 1) z h hK
      · have h := (if_neg c3).symm.trans h
        refine s_iinc E (v := (y2 + 1)) (lv' := [(0, .ref (q 19)), (1, .int y1), (2, .int (y2 + 1))]) 2 rfl dX2_countSets_25 ki_1 rfl rfl rfl rfl (by decide) ?_
        refine s_goto E 4 dX2_countSets_28 (by decide) ?_
        exact ih y1 (y2 + 1) z h hK
noncomputable def f_X2_countSets (σ : Nat → Nat → Int32) : Option Int32 :=
  ((f_X2_countSets_L4 σ fuel 0 1).bind fun u4 => (some u4))
set_option maxRecDepth 100000 in
set_option maxHeartbeats 4000000 in
theorem c_X2_countSets (q : Nat → Nat) (σ : Nat → Nat → Int32) (z : Int32) (h : f_X2_countSets σ = some z) : CT l dC dI cI cZ A yX2_countSets cX2_countSets 3 (some .int) rm_X2_countSets [.ref (q 19)] (wX cI q σ) (wX cI q σ) (some (.int z)) := by
  refine b_met (by decide) (Nat.le_of_ble_eq_true rfl) ?_
  intro p e s m below meth c E
  have E : EV p s m _ meth c dC dI cI cZ cX2_countSets 3 RX2 (some .int) := E
  show GG p l e rm_X2_countSets s m _ below meth c _ A dC dI 3 (wX cI q σ) 0 [(0, .ref (q 19))] []
  unfold f_X2_countSets at h
  refine s_iconst E (v := 0) dX2_countSets_0 ki_0 ?_
  refine s_istore_n E (lv' := [(0, .ref (q 19)), (1, .int 0)]) dX2_countSets_1 rfl rfl rfl rfl (by decide) ?_
  refine s_iconst E (v := 1) dX2_countSets_2 ki_1 ?_
  refine s_istore_n E (lv' := [(0, .ref (q 19)), (1, .int 0), (2, .int 1)]) dX2_countSets_3 rfl rfl rfl rfl (by decide) ?_
  obtain ⟨u4, e4, h⟩ := bnd_some h
  refine w_X2_countSets_L4 E q σ fuel 0 1 u4 e4 ?_
  refine s_iload_n E 1 rfl dX2_countSets_31 rfl ?_
  obtain rfl := Option.some.inj h
  exact s_iret E rfl rfl dX2_countSets_32
end
abbrev rm_X2_fewestOf : Room := { frames := 1, cells := 0, slots := 0, locals := 21 }
section
noncomputable def f_X2_fewestOf_J55_17 (x2 : Int32) (t4 : Int32) (t5 : Int32) (rec : Int32 → Int32 → Option Int32) : Option Int32 :=
  (if t5 = 0 then (rec t4 (-1)) else (rec t4 ((t5 - 1) &&& x2)))
set_option maxRecDepth 100000 in
set_option maxHeartbeats 4000000 in
theorem w_X2_fewestOf_J55_17 (E : EV p s m args meth c dC dI cI cZ cX2_fewestOf 6 RX2 (some .int)) (q : Nat → Nat) (σ : Nat → Nat → Int32) (x2 : Int32) (x3 : Int32) (t4 : Int32) (t5 : Int32) (z : Int32) (rec : Int32 → Int32 → Option Int32) (hrec : ∀ (y4 y5 : Int32), rec y4 y5 = some z → GG p l e rm_X2_fewestOf s m args below meth c Q A dC dI 6 (wX cI q σ) 17 [(0, .ref (q 19)), (2, .int x2), (3, .int x3), (4, .int y4), (5, .int y5)] []) (hK : GG p l e rm_X2_fewestOf s m args below meth c Q A dC dI 6 (wX cI q σ) 75 [(0, .ref (q 19)), (2, .int x2), (3, .int x3), (4, .int z)] []) (h : f_X2_fewestOf_J55_17 x2 t4 t5 rec = some z) : GG p l e rm_X2_fewestOf s m args below meth c Q A dC dI 6 (wX cI q σ) 55 [(0, .ref (q 19)), (2, .int x2), (3, .int x3), (4, .int t4), (5, .int t5)] [] := by
  unfold f_X2_fewestOf_J55_17 at h
  refine s_iload E 4 rfl dX2_fewestOf_55 ?_
  refine s_if_ne E 64 dX2_fewestOf_57 (by decide) (fun c5 => ?_) (fun c5 => ?_)
  · have h := (if_pos c5).symm.trans h
    refine s_iconst E (v := (-1)) dX2_fewestOf_60 ki_m1 ?_
    refine s_goto E 70 dX2_fewestOf_61 (by decide) ?_
    refine s_istore E (lv' := [(0, .ref (q 19)), (2, .int x2), (3, .int x3), (4, .int t4), (5, .int (-1))]) dX2_fewestOf_70 rfl rfl rfl (by decide) ?_
    refine s_goto E 17 dX2_fewestOf_72 (by decide) ?_
    exact hrec t4 (-1) h
  · have h := (if_neg c5).symm.trans h
    refine s_iload E 4 rfl dX2_fewestOf_64 ?_
    refine s_iconst E (v := 1) dX2_fewestOf_66 ki_1 ?_
    refine s_isub E dX2_fewestOf_67 ?_
    refine s_iload_n E 1 rfl dX2_fewestOf_68 rfl ?_
    refine s_iand E dX2_fewestOf_69 ?_
    refine s_istore E (lv' := [(0, .ref (q 19)), (2, .int x2), (3, .int x3), (4, .int t4), (5, .int ((t5 - 1) &&& x2))]) dX2_fewestOf_70 rfl rfl rfl (by decide) ?_
    refine s_goto E 17 dX2_fewestOf_72 (by decide) ?_
    exact hrec t4 ((t5 - 1) &&& x2) h
noncomputable def f_X2_fewestOf_L17 (σ : Nat → Nat → Int32) (x2 : Int32) (x3 : Int32) : Nat → Int32 → Int32 → Option Int32
  | 0, _, _ => none
  | n + 1, y4, y5 =>
    (if y5 < 0 then (some y4) else (chk (x3 ||| y5) 256 (if (σ 23 ((x3 ||| y5).toNatClampNeg)) = 1 then (chk (x2 &&& (y5 ^^^ (-1))) 256 (f_X2_fewestOf_J55_17 x2 (if (1 + (σ 23 ((x2 &&& (y5 ^^^ (-1))).toNatClampNeg))) < y4 then (1 + (σ 23 ((x2 &&& (y5 ^^^ (-1))).toNatClampNeg))) else y4) y5 (f_X2_fewestOf_L17 σ x2 x3 n))) else (f_X2_fewestOf_J55_17 x2 y4 y5 (f_X2_fewestOf_L17 σ x2 x3 n)))))
set_option maxRecDepth 100000 in
set_option maxHeartbeats 4000000 in
theorem w_X2_fewestOf_L17 (E : EV p s m args meth c dC dI cI cZ cX2_fewestOf 6 RX2 (some .int)) (q : Nat → Nat) (σ : Nat → Nat → Int32) (x2 : Int32) (x3 : Int32) : ∀ (n : Nat) (y4 y5 : Int32) (z : Int32), f_X2_fewestOf_L17 σ x2 x3 n y4 y5 = some z → GG p l e rm_X2_fewestOf s m args below meth c Q A dC dI 6 (wX cI q σ) 75 [(0, .ref (q 19)), (2, .int x2), (3, .int x3), (4, .int z)] [] → GG p l e rm_X2_fewestOf s m args below meth c Q A dC dI 6 (wX cI q σ) 17 [(0, .ref (q 19)), (2, .int x2), (3, .int x3), (4, .int y4), (5, .int y5)] [] := by
  intro n
  induction n with
  | zero =>
    intro y4 y5 z h
    rw [f_X2_fewestOf_L17] at h
    cases h
  | succ n ih =>
    intro y4 y5 z h hK
    rw [f_X2_fewestOf_L17] at h
    refine s_iload E 4 rfl dX2_fewestOf_17 ?_
    refine s_if_lt E 75 dX2_fewestOf_19 (by decide) (fun c1 => ?_) (fun c1 => ?_)
    · have h := (if_pos c1).symm.trans h
      refine s_sub E (lv' := [(0, .ref (q 19)), (2, .int x2), (3, .int x3), (4, .int y4)]) [0, 1, 2, 3] rfl ?_
      obtain rfl := Option.some.inj h
      exact hK
    · have h := (if_neg c1).symm.trans h
      refine s_aload_n E 0 rfl dX2_fewestOf_22 rfl ?_
      refine s_get E (v := .ref (q 23)) 19 3 in_X2 gX_19 rfl (by decide) m_f_X2_21 rfl dX2_fewestOf_23 ?_
      refine s_iload_n E 2 rfl dX2_fewestOf_26 rfl ?_
      refine s_iload E 4 rfl dX2_fewestOf_27 ?_
      refine s_ior E dX2_fewestOf_29 ?_
      obtain ⟨b2, h⟩ := chk_some h
      refine s_iald E (v := (σ 23 ((x3 ||| y5).toNatClampNeg))) 23 gX_23 b2 rfl dX2_fewestOf_30 ?_
      refine s_iconst E (v := 1) dX2_fewestOf_31 ki_1 ?_
      refine s_icmp_ne E 55 dX2_fewestOf_32 (by decide) (fun c3 => ?_) (fun c3 => ?_)
      · have h := (if_pos c3).symm.trans h
        refine s_iload E 3 rfl dX2_fewestOf_35 ?_
        refine s_iconst E (v := 1) dX2_fewestOf_37 ki_1 ?_
        refine s_aload_n E 0 rfl dX2_fewestOf_38 rfl ?_
        refine s_get E (v := .ref (q 23)) 19 3 in_X2 gX_19 rfl (by decide) m_f_X2_21 rfl dX2_fewestOf_39 ?_
        refine s_iload_n E 1 rfl dX2_fewestOf_42 rfl ?_
        refine s_iload E 4 rfl dX2_fewestOf_43 ?_
        refine s_iconst E (v := (-1)) dX2_fewestOf_45 ki_m1 ?_
        refine s_ixor E dX2_fewestOf_46 ?_
        refine s_iand E dX2_fewestOf_47 ?_
        obtain ⟨b4, h⟩ := chk_some h
        refine s_iald E (v := (σ 23 ((x2 &&& (y5 ^^^ (-1))).toNatClampNeg))) 23 gX_23 b4 rfl dX2_fewestOf_48 ?_
        refine s_iadd E dX2_fewestOf_49 ?_
        refine s_mmin E m_l_X2_97 (by decide) (Nat.le_of_ble_eq_true rfl) dX2_fewestOf_50 ?_
        refine s_istore E (lv' := [(0, .ref (q 19)), (2, .int x2), (3, .int x3), (4, .int (if (1 + (σ 23 ((x2 &&& (y5 ^^^ (-1))).toNatClampNeg))) < y4 then (1 + (σ 23 ((x2 &&& (y5 ^^^ (-1))).toNatClampNeg))) else y4)), (5, .int y5)]) dX2_fewestOf_53 rfl rfl rfl (by decide) ?_
        exact w_X2_fewestOf_J55_17 E q σ x2 x3 (if (1 + (σ 23 ((x2 &&& (y5 ^^^ (-1))).toNatClampNeg))) < y4 then (1 + (σ 23 ((x2 &&& (y5 ^^^ (-1))).toNatClampNeg))) else y4) y5 z _ (fun y4 y5 h => ih y4 y5 z h hK) hK h
      · have h := (if_neg c3).symm.trans h
        exact w_X2_fewestOf_J55_17 E q σ x2 x3 y4 y5 z _ (fun y4 y5 h => ih y4 y5 z h hK) hK h
noncomputable def f_X2_fewestOf (σ : Nat → Nat → Int32) (x1 : Int32) : Option Int32 :=
  ((f_X2_fewestOf_L17 σ (x1 &&& (x1 - 1)) (x1 - (x1 &&& (x1 - 1))) fuel 99 (x1 &&& (x1 - 1))).bind fun u6 => (some (if 99 < u6 then 99 else u6)))
set_option maxRecDepth 100000 in
set_option maxHeartbeats 4000000 in
theorem c_X2_fewestOf (q : Nat → Nat) (σ : Nat → Nat → Int32) (x1 : Int32) (z : Int32) (h : f_X2_fewestOf σ x1 = some z) : CT l dC dI cI cZ A yX2_fewestOf cX2_fewestOf 6 (some .int) rm_X2_fewestOf [.ref (q 19), .int x1] (wX cI q σ) (wX cI q σ) (some (.int z)) := by
  refine b_met (by decide) (Nat.le_of_ble_eq_true rfl) ?_
  intro p e s m below meth c E
  have E : EV p s m _ meth c dC dI cI cZ cX2_fewestOf 6 RX2 (some .int) := E
  show GG p l e rm_X2_fewestOf s m _ below meth c _ A dC dI 6 (wX cI q σ) 0 [(0, .ref (q 19)), (1, .int x1)] []
  unfold f_X2_fewestOf at h
  refine s_iload_n E 1 rfl dX2_fewestOf_0 rfl ?_
  refine s_iload_n E 1 rfl dX2_fewestOf_1 rfl ?_
  refine s_iconst E (v := 1) dX2_fewestOf_2 ki_1 ?_
  refine s_isub E dX2_fewestOf_3 ?_
  refine s_iand E dX2_fewestOf_4 ?_
  refine s_istore_n E (lv' := [(0, .ref (q 19)), (1, .int x1), (2, .int (x1 &&& (x1 - 1)))]) dX2_fewestOf_5 rfl rfl rfl rfl (by decide) ?_
  refine s_iload_n E 1 rfl dX2_fewestOf_6 rfl ?_
  refine s_iload_n E 2 rfl dX2_fewestOf_7 rfl ?_
  refine s_isub E dX2_fewestOf_8 ?_
  refine s_istore_n E (lv' := [(0, .ref (q 19)), (1, .int x1), (2, .int (x1 &&& (x1 - 1))), (3, .int (x1 - (x1 &&& (x1 - 1))))]) dX2_fewestOf_9 rfl rfl rfl rfl (by decide) ?_
  refine s_bipush E (v := 99) dX2_fewestOf_10 kb_99 ?_
  refine s_istore E (lv' := [(0, .ref (q 19)), (1, .int x1), (2, .int (x1 &&& (x1 - 1))), (3, .int (x1 - (x1 &&& (x1 - 1)))), (4, .int 99)]) dX2_fewestOf_12 rfl rfl rfl (by decide) ?_
  refine s_iload_n E 2 rfl dX2_fewestOf_14 rfl ?_
  refine s_istore E (lv' := [(0, .ref (q 19)), (1, .int x1), (2, .int (x1 &&& (x1 - 1))), (3, .int (x1 - (x1 &&& (x1 - 1)))), (4, .int 99), (5, .int (x1 &&& (x1 - 1)))]) dX2_fewestOf_15 rfl rfl rfl (by decide) ?_
  refine s_sub E (lv' := [(0, .ref (q 19)), (2, .int (x1 &&& (x1 - 1))), (3, .int (x1 - (x1 &&& (x1 - 1)))), (4, .int 99), (5, .int (x1 &&& (x1 - 1)))]) [0, 2, 3, 4, 5] rfl ?_
  obtain ⟨u6, e6, h⟩ := bnd_some h
  refine w_X2_fewestOf_L17 E q σ (x1 &&& (x1 - 1)) (x1 - (x1 &&& (x1 - 1))) fuel 99 (x1 &&& (x1 - 1)) u6 e6 ?_
  refine s_iload E 3 rfl dX2_fewestOf_75 ?_
  refine s_bipush E (v := 99) dX2_fewestOf_77 kb_99 ?_
  refine s_mmin E m_l_X2_97 (by decide) (Nat.le_of_ble_eq_true rfl) dX2_fewestOf_79 ?_
  obtain rfl := Option.some.inj h
  exact s_iret E rfl rfl dX2_fewestOf_82
end
abbrev rm_X2_findChains : Room := { frames := 2, cells := 0, slots := 0, locals := 46 }
section
noncomputable def f_X2_findChains_L10 : Nat → (Nat → Nat → Int32) → Int32 → Option (Nat → Nat → Int32)
  | 0, _, _ => none
  | n + 1, σ, y1 =>
    (if (σ 19 10) ≤ y1 then (some σ) else (chk y1 256 (if (σ 23 (y1.toNatClampNeg)) = 1 then (f_X2_findChains_L10 n σ (y1 + 1)) else ((f_X2_fewestOf σ y1).bind fun u5 => (chk y1 256 (f_X2_findChains_L10 n (up2 σ 23 (y1.toNatClampNeg) u5) (y1 + 1)))))))
set_option maxRecDepth 100000 in
set_option maxHeartbeats 4000000 in
theorem w_X2_findChains_L10 (E : EV p s m args meth c dC dI cI cZ cX2_findChains 2 RX2 none) (q : Nat → Nat) : ∀ (n : Nat) (σ : Nat → Nat → Int32) (y1 : Int32) (z : (Nat → Nat → Int32)), f_X2_findChains_L10 n σ y1 = some z → GG p l e rm_X2_findChains s m args below meth c Q A dC dI 2 (wX cI q z) 45 [(0, .ref (q 19))] [] → GG p l e rm_X2_findChains s m args below meth c Q A dC dI 2 (wX cI q σ) 10 [(0, .ref (q 19)), (1, .int y1)] [] := by
  intro n
  induction n with
  | zero =>
    intro σ y1 z h
    rw [f_X2_findChains_L10] at h
    cases h
  | succ n ih =>
    intro σ y1 z h hK
    rw [f_X2_findChains_L10] at h
    refine s_iload_n E 1 rfl dX2_findChains_10 rfl ?_
    refine s_aload_n E 0 rfl dX2_findChains_11 rfl ?_
    refine s_geti E (y := (σ 19 10)) 19 10 in_X2 gX_19 rfl (by decide) m_f_X2_43 rfl rfl dX2_findChains_12 ?_
    refine s_icmp_ge E 45 dX2_findChains_15 (by decide) (fun c2 => ?_) (fun c2 => ?_)
    · have h := (if_pos c2).symm.trans h
      refine s_sub E (lv' := [(0, .ref (q 19))]) [0] rfl ?_
      obtain rfl := Option.some.inj h
      exact hK
    · have h := (if_neg c2).symm.trans h
      refine s_aload_n E 0 rfl dX2_findChains_18 rfl ?_
      refine s_get E (v := .ref (q 23)) 19 3 in_X2 gX_19 rfl (by decide) m_f_X2_21 rfl dX2_findChains_19 ?_
      refine s_iload_n E 1 rfl dX2_findChains_22 rfl ?_
      obtain ⟨b3, h⟩ := chk_some h
      refine s_iald E (v := (σ 23 (y1.toNatClampNeg))) 23 gX_23 b3 rfl dX2_findChains_23 ?_
      refine s_iconst E (v := 1) dX2_findChains_24 ki_1 ?_
      refine s_icmp_eq E 39 dX2_findChains_25 (by decide) (fun c4 => ?_) (fun c4 => ?_)
      · have h := (if_pos c4).symm.trans h
        refine s_iinc E (v := (y1 + 1)) (lv' := [(0, .ref (q 19)), (1, .int (y1 + 1))]) 1 rfl dX2_findChains_39 ki_1 rfl rfl rfl rfl (by decide) ?_
        refine s_goto E 10 dX2_findChains_42 (by decide) ?_
        exact ih σ (y1 + 1) z h hK
      · have h := (if_neg c4).symm.trans h
        refine s_aload_n E 0 rfl dX2_findChains_28 rfl ?_
        refine s_get E (v := .ref (q 23)) 19 3 in_X2 gX_19 rfl (by decide) m_f_X2_21 rfl dX2_findChains_29 ?_
        refine s_iload_n E 1 rfl dX2_findChains_32 rfl ?_
        refine s_aload_n E 0 rfl dX2_findChains_33 rfl ?_
        refine s_iload_n E 1 rfl dX2_findChains_34 rfl ?_
        obtain ⟨u5, e5, h⟩ := bnd_some h
        refine s_callVi E kf_X2_fewestOf m_l_X2_94 (c_X2_fewestOf q σ y1 u5 e5) ⟨rfl, rfl, by decide, by decide⟩ (q0 := 19) rfl rfl rfl rfl rfl (Nat.le_of_ble_eq_true rfl) dX2_findChains_35 ?_
        obtain ⟨b6, h⟩ := chk_some h
        refine s_iast E (w' := (wX cI q (up2 σ 23 (y1.toNatClampNeg) u5))) 23 gX_23 b6 aX_23 dX2_findChains_38 ?_
        refine s_iinc E (v := (y1 + 1)) (lv' := [(0, .ref (q 19)), (1, .int (y1 + 1))]) 1 rfl dX2_findChains_39 ki_1 rfl rfl rfl rfl (by decide) ?_
        refine s_goto E 10 dX2_findChains_42 (by decide) ?_
        exact ih (up2 σ 23 (y1.toNatClampNeg) u5) (y1 + 1) z h hK
noncomputable def f_X2_findChains (σ : Nat → Nat → Int32) : Option (Nat → Nat → Int32) :=
  (if (σ 19 15) = 0 then ((f_X2_findChains_L10 fuel σ 1).bind fun u7 => (some (up2 u7 19 15 1))) else (some σ))
set_option maxRecDepth 100000 in
set_option maxHeartbeats 4000000 in
theorem c_X2_findChains (q : Nat → Nat) (σ : Nat → Nat → Int32) (z : (Nat → Nat → Int32)) (h : f_X2_findChains σ = some z) : CT l dC dI cI cZ A yX2_findChains cX2_findChains 2 none rm_X2_findChains [.ref (q 19)] (wX cI q σ) (wX cI q z) none := by
  refine b_met (by decide) (Nat.le_of_ble_eq_true rfl) ?_
  intro p e s m below meth c E
  have E : EV p s m _ meth c dC dI cI cZ cX2_findChains 2 RX2 none := E
  show GG p l e rm_X2_findChains s m _ below meth c _ A dC dI 2 (wX cI q σ) 0 [(0, .ref (q 19))] []
  unfold f_X2_findChains at h
  refine s_aload_n E 0 rfl dX2_findChains_0 rfl ?_
  refine s_geti E (y := (σ 19 15)) 19 15 in_X2 gX_19 rfl (by decide) m_f_X2_59 rfl rfl dX2_findChains_1 ?_
  refine s_if_eq E 8 dX2_findChains_4 (by decide) (fun c1 => ?_) (fun c1 => ?_)
  · have h := (if_pos c1).symm.trans h
    refine s_iconst E (v := 1) dX2_findChains_8 ki_1 ?_
    refine s_istore_n E (lv' := [(0, .ref (q 19)), (1, .int 1)]) dX2_findChains_9 rfl rfl rfl rfl (by decide) ?_
    obtain ⟨u7, e7, h⟩ := bnd_some h
    refine w_X2_findChains_L10 E q fuel σ 1 u7 e7 ?_
    refine s_aload_n E 0 rfl dX2_findChains_45 rfl ?_
    refine s_iconst E (v := 1) dX2_findChains_46 ki_1 ?_
    refine s_put E (w' := (wX cI q (up2 u7 19 15 1))) (v := .int 1) 19 15 tyX2 tyX2_ok nmX2 in_X2 gX_19 rfl (by decide) m_f_X2_59 rfl (tyX2_ok 15 (by decide)) rfl rfl (Nat.le_of_ble_eq_true rfl) fX_19_15 dX2_findChains_47 ?_
    obtain rfl := Option.some.inj h
    exact s_vret E rfl dX2_findChains_50
  · have h := (if_neg c1).symm.trans h
    obtain rfl := Option.some.inj h
    exact s_vret E rfl dX2_findChains_7
end
abbrev rm_X2_faresWithin : Room := { frames := 1, cells := 0, slots := 0, locals := 21 }
section
noncomputable def f_X2_faresWithin_L4 (σ : Nat → Nat → Int32) (x1 : Int32) : Nat → Int32 → Int32 → Option Int32
  | 0, _, _ => none
  | n + 1, y2, y3 =>
    (if (σ 19 10) ≤ y3 then (some y2) else (chk y3 256 (if x1 < (σ 23 (y3.toNatClampNeg)) then (f_X2_faresWithin_L4 σ x1 n y2 (y3 + 1)) else (chk y3 256 (f_X2_faresWithin_L4 σ x1 n (if y2 < (σ 21 (y3.toNatClampNeg)) then (σ 21 (y3.toNatClampNeg)) else y2) (y3 + 1))))))
set_option maxRecDepth 100000 in
set_option maxHeartbeats 4000000 in
theorem w_X2_faresWithin_L4 (E : EV p s m args meth c dC dI cI cZ cX2_faresWithin 4 RX2 (some .int)) (q : Nat → Nat) (σ : Nat → Nat → Int32) (x1 : Int32) : ∀ (n : Nat) (y2 y3 : Int32) (z : Int32), f_X2_faresWithin_L4 σ x1 n y2 y3 = some z → GG p l e rm_X2_faresWithin s m args below meth c Q A dC dI 4 (wX cI q σ) 39 [(0, .ref (q 19)), (1, .int x1), (2, .int z)] [] → GG p l e rm_X2_faresWithin s m args below meth c Q A dC dI 4 (wX cI q σ) 4 [(0, .ref (q 19)), (1, .int x1), (2, .int y2), (3, .int y3)] [] := by
  intro n
  induction n with
  | zero =>
    intro y2 y3 z h
    rw [f_X2_faresWithin_L4] at h
    cases h
  | succ n ih =>
    intro y2 y3 z h hK
    rw [f_X2_faresWithin_L4] at h
    refine s_iload_n E 3 rfl dX2_faresWithin_4 rfl ?_
    refine s_aload_n E 0 rfl dX2_faresWithin_5 rfl ?_
    refine s_geti E (y := (σ 19 10)) 19 10 in_X2 gX_19 rfl (by decide) m_f_X2_43 rfl rfl dX2_faresWithin_6 ?_
    refine s_icmp_ge E 39 dX2_faresWithin_9 (by decide) (fun c1 => ?_) (fun c1 => ?_)
    · have h := (if_pos c1).symm.trans h
      refine s_sub E (lv' := [(0, .ref (q 19)), (1, .int x1), (2, .int y2)]) [0, 1, 2] rfl ?_
      obtain rfl := Option.some.inj h
      exact hK
    · have h := (if_neg c1).symm.trans h
      refine s_aload_n E 0 rfl dX2_faresWithin_12 rfl ?_
      refine s_get E (v := .ref (q 23)) 19 3 in_X2 gX_19 rfl (by decide) m_f_X2_21 rfl dX2_faresWithin_13 ?_
      refine s_iload_n E 3 rfl dX2_faresWithin_16 rfl ?_
      obtain ⟨b2, h⟩ := chk_some h
      refine s_iald E (v := (σ 23 (y3.toNatClampNeg))) 23 gX_23 b2 rfl dX2_faresWithin_17 ?_
      refine s_iload_n E 1 rfl dX2_faresWithin_18 rfl ?_
      refine s_icmp_gt E 33 dX2_faresWithin_19 (by decide) (fun c3 => ?_) (fun c3 => ?_)
      · have h := (if_pos c3).symm.trans h
        refine s_iinc E (v := (y3 + 1)) (lv' := [(0, .ref (q 19)), (1, .int x1), (2, .int y2), (3, .int (y3 + 1))]) 3 rfl dX2_faresWithin_33 ki_1 rfl rfl rfl rfl (by decide) ?_
        refine s_goto E 4 dX2_faresWithin_36 (by decide) ?_
        exact ih y2 (y3 + 1) z h hK
      · have h := (if_neg c3).symm.trans h
        refine s_iload_n E 2 rfl dX2_faresWithin_22 rfl ?_
        refine s_aload_n E 0 rfl dX2_faresWithin_23 rfl ?_
        refine s_get E (v := .ref (q 21)) 19 1 in_X2 gX_19 rfl (by decide) m_f_X2_15 rfl dX2_faresWithin_24 ?_
        refine s_iload_n E 3 rfl dX2_faresWithin_27 rfl ?_
        obtain ⟨b4, h⟩ := chk_some h
        refine s_iald E (v := (σ 21 (y3.toNatClampNeg))) 21 gX_21 b4 rfl dX2_faresWithin_28 ?_
        refine s_mmax E m_l_X2_69 (by decide) (Nat.le_of_ble_eq_true rfl) dX2_faresWithin_29 ?_
        refine s_istore_n E (lv' := [(0, .ref (q 19)), (1, .int x1), (2, .int (if y2 < (σ 21 (y3.toNatClampNeg)) then (σ 21 (y3.toNatClampNeg)) else y2)), (3, .int y3)]) dX2_faresWithin_32 rfl rfl rfl rfl (by decide) ?_
        refine s_iinc E (v := (y3 + 1)) (lv' := [(0, .ref (q 19)), (1, .int x1), (2, .int (if y2 < (σ 21 (y3.toNatClampNeg)) then (σ 21 (y3.toNatClampNeg)) else y2)), (3, .int (y3 + 1))]) 3 rfl dX2_faresWithin_33 ki_1 rfl rfl rfl rfl (by decide) ?_
        refine s_goto E 4 dX2_faresWithin_36 (by decide) ?_
        exact ih (if y2 < (σ 21 (y3.toNatClampNeg)) then (σ 21 (y3.toNatClampNeg)) else y2) (y3 + 1) z h hK
noncomputable def f_X2_faresWithin (σ : Nat → Nat → Int32) (x1 : Int32) : Option Int32 :=
  ((f_X2_faresWithin_L4 σ x1 fuel 0 1).bind fun u5 => (some u5))
set_option maxRecDepth 100000 in
set_option maxHeartbeats 4000000 in
theorem c_X2_faresWithin (q : Nat → Nat) (σ : Nat → Nat → Int32) (x1 : Int32) (z : Int32) (h : f_X2_faresWithin σ x1 = some z) : CT l dC dI cI cZ A yX2_faresWithin cX2_faresWithin 4 (some .int) rm_X2_faresWithin [.ref (q 19), .int x1] (wX cI q σ) (wX cI q σ) (some (.int z)) := by
  refine b_met (by decide) (Nat.le_of_ble_eq_true rfl) ?_
  intro p e s m below meth c E
  have E : EV p s m _ meth c dC dI cI cZ cX2_faresWithin 4 RX2 (some .int) := E
  show GG p l e rm_X2_faresWithin s m _ below meth c _ A dC dI 4 (wX cI q σ) 0 [(0, .ref (q 19)), (1, .int x1)] []
  unfold f_X2_faresWithin at h
  refine s_iconst E (v := 0) dX2_faresWithin_0 ki_0 ?_
  refine s_istore_n E (lv' := [(0, .ref (q 19)), (1, .int x1), (2, .int 0)]) dX2_faresWithin_1 rfl rfl rfl rfl (by decide) ?_
  refine s_iconst E (v := 1) dX2_faresWithin_2 ki_1 ?_
  refine s_istore_n E (lv' := [(0, .ref (q 19)), (1, .int x1), (2, .int 0), (3, .int 1)]) dX2_faresWithin_3 rfl rfl rfl rfl (by decide) ?_
  obtain ⟨u5, e5, h⟩ := bnd_some h
  refine w_X2_faresWithin_L4 E q σ x1 fuel 0 1 u5 e5 ?_
  refine s_iload_n E 2 rfl dX2_faresWithin_39 rfl ?_
  obtain rfl := Option.some.inj h
  exact s_iret E rfl rfl dX2_faresWithin_40
end
abbrev rm_X2_fewestForAll : Room := { frames := 0, cells := 0, slots := 0, locals := 0 }
section
noncomputable def f_X2_fewestForAll (σ : Nat → Nat → Int32) : Option Int32 :=
  (chk ((σ 19 11) &&& 255) 256 (if (σ 23 (((σ 19 11) &&& 255).toNatClampNeg)) = 99 then (some (-9)) else (some (σ 23 (((σ 19 11) &&& 255).toNatClampNeg)))))
set_option maxRecDepth 100000 in
set_option maxHeartbeats 4000000 in
theorem c_X2_fewestForAll (q : Nat → Nat) (σ : Nat → Nat → Int32) (z : Int32) (h : f_X2_fewestForAll σ = some z) : CT l dC dI cI cZ A yX2_fewestForAll cX2_fewestForAll 2 (some .int) rm_X2_fewestForAll [.ref (q 19)] (wX cI q σ) (wX cI q σ) (some (.int z)) := by
  refine b_met (by decide) (Nat.le_of_ble_eq_true rfl) ?_
  intro p e s m below meth c E
  have E : EV p s m _ meth c dC dI cI cZ cX2_fewestForAll 2 RX2 (some .int) := E
  show GG p l e rm_X2_fewestForAll s m _ below meth c _ A dC dI 2 (wX cI q σ) 0 [(0, .ref (q 19))] []
  unfold f_X2_fewestForAll at h
  refine s_aload_n E 0 rfl dX2_fewestForAll_0 rfl ?_
  refine s_get E (v := .ref (q 23)) 19 3 in_X2 gX_19 rfl (by decide) m_f_X2_21 rfl dX2_fewestForAll_1 ?_
  refine s_aload_n E 0 rfl dX2_fewestForAll_4 rfl ?_
  refine s_geti E (y := (σ 19 11)) 19 11 in_X2 gX_19 rfl (by decide) m_f_X2_46 rfl rfl dX2_fewestForAll_5 ?_
  refine s_sipush E (v := 255) dX2_fewestForAll_8 ks_255 ?_
  refine s_iand E dX2_fewestForAll_11 ?_
  obtain ⟨b1, h⟩ := chk_some h
  refine s_iald E (v := (σ 23 (((σ 19 11) &&& 255).toNatClampNeg))) 23 gX_23 b1 rfl dX2_fewestForAll_12 ?_
  refine s_istore_n E (lv' := [(0, .ref (q 19)), (1, .int (σ 23 (((σ 19 11) &&& 255).toNatClampNeg)))]) dX2_fewestForAll_13 rfl rfl rfl rfl (by decide) ?_
  refine s_iload_n E 1 rfl dX2_fewestForAll_14 rfl ?_
  refine s_bipush E (v := 99) dX2_fewestForAll_15 kb_99 ?_
  refine s_icmp_ne E 25 dX2_fewestForAll_17 (by decide) (fun c2 => ?_) (fun c2 => ?_)
  · have h := (if_pos c2).symm.trans h
    refine s_bipush E (v := (-9)) dX2_fewestForAll_20 kb_m9 ?_
    refine s_goto E 26 dX2_fewestForAll_22 (by decide) ?_
    obtain rfl := Option.some.inj h
    exact s_iret E rfl rfl dX2_fewestForAll_26
  · have h := (if_neg c2).symm.trans h
    refine s_iload_n E 1 rfl dX2_fewestForAll_25 rfl ?_
    obtain rfl := Option.some.inj h
    exact s_iret E rfl rfl dX2_fewestForAll_26
end
end
