section
-- ===== PART A: goes FIRST, ahead of the names: the tables' words, and 'selects' of the private methods out of them =====
/-- a private method of a class that the tables say can be made, by its rows of tables_1 -/
def lw_okq (q : MethodName × Nat) : Prop := (q.1.cls ≠ "java/lang/invoke/MethodHandle" ∧ q.1.cls ≠ "java/lang/invoke/VarHandle") ∧ Cond.instantiable q.1.cls q.2 ∈ tables_1 ∧ Cond.privateMethod q.1 ∈ tables_1 ∧ Cond.instanceMethod q.1 ∈ tables_1
theorem lw_p0 : lw_okq (⟨"FerriesLevel$Script", "mayStand", "(I)Z"⟩, 2) := ⟨⟨by decide +kernel, by decide +kernel⟩, List.mem_of_getElem? (i := 18) (by decide +kernel), List.mem_of_getElem? (i := 216) (by decide +kernel), List.mem_of_getElem? (i := 217) (by decide +kernel)⟩
theorem lw_p1 : lw_okq (⟨"FerriesLevel$Script", "mayStandInPerson", "(I)Z"⟩, 2) := ⟨⟨by decide +kernel, by decide +kernel⟩, List.mem_of_getElem? (i := 18) (by decide +kernel), List.mem_of_getElem? (i := 220) (by decide +kernel), List.mem_of_getElem? (i := 221) (by decide +kernel)⟩
theorem lw_p2 : lw_okq (⟨"FerriesLevel$Script", "byteAt", "(I)I"⟩, 2) := ⟨⟨by decide +kernel, by decide +kernel⟩, List.mem_of_getElem? (i := 18) (by decide +kernel), List.mem_of_getElem? (i := 224) (by decide +kernel), List.mem_of_getElem? (i := 225) (by decide +kernel)⟩
theorem lw_p3 : lw_okq (⟨"FerriesLevel$Script", "isFigure", "(III)Z"⟩, 2) := ⟨⟨by decide +kernel, by decide +kernel⟩, List.mem_of_getElem? (i := 18) (by decide +kernel), List.mem_of_getElem? (i := 232) (by decide +kernel), List.mem_of_getElem? (i := 233) (by decide +kernel)⟩
theorem lw_p4 : lw_okq (⟨"FerriesLevel$Planner", "prepare", "(LFerriesLevel$Craft;LFerriesLevel$Log;)V"⟩, 17) := ⟨⟨by decide +kernel, by decide +kernel⟩, List.mem_of_getElem? (i := 118) (by decide +kernel), List.mem_of_getElem? (i := 403) (by decide +kernel), List.mem_of_getElem? (i := 404) (by decide +kernel)⟩
theorem lw_p5 : lw_okq (⟨"FerriesLevel$Planner", "weighSets", "(LFerriesLevel$Craft;LFerriesLevel$Log;)V"⟩, 17) := ⟨⟨by decide +kernel, by decide +kernel⟩, List.mem_of_getElem? (i := 118) (by decide +kernel), List.mem_of_getElem? (i := 418) (by decide +kernel), List.mem_of_getElem? (i := 419) (by decide +kernel)⟩
theorem lw_p6 : lw_okq (⟨"FerriesLevel$Planner", "searchWithLast", "(IZ)V"⟩, 17) := ⟨⟨by decide +kernel, by decide +kernel⟩, List.mem_of_getElem? (i := 118) (by decide +kernel), List.mem_of_getElem? (i := 424) (by decide +kernel), List.mem_of_getElem? (i := 425) (by decide +kernel)⟩
theorem lw_p7 : lw_okq (⟨"FerriesLevel$Planner", "pullOf", "(II)I"⟩, 17) := ⟨⟨by decide +kernel, by decide +kernel⟩, List.mem_of_getElem? (i := 118) (by decide +kernel), List.mem_of_getElem? (i := 428) (by decide +kernel), List.mem_of_getElem? (i := 429) (by decide +kernel)⟩
theorem lw_p8 : lw_okq (⟨"FerriesLevel$Planner", "tryLast", "(IIIZ)V"⟩, 17) := ⟨⟨by decide +kernel, by decide +kernel⟩, List.mem_of_getElem? (i := 118) (by decide +kernel), List.mem_of_getElem? (i := 432) (by decide +kernel), List.mem_of_getElem? (i := 433) (by decide +kernel)⟩
theorem lw_p9 : lw_okq (⟨"FerriesLevel$Planner", "noteMakeWeight", "(III)V"⟩, 17) := ⟨⟨by decide +kernel, by decide +kernel⟩, List.mem_of_getElem? (i := 118) (by decide +kernel), List.mem_of_getElem? (i := 437) (by decide +kernel), List.mem_of_getElem? (i := 438) (by decide +kernel)⟩
theorem lw_p10 : lw_okq (⟨"FerriesLevel$Planner", "noteChoice", "(II)V"⟩, 17) := ⟨⟨by decide +kernel, by decide +kernel⟩, List.mem_of_getElem? (i := 118) (by decide +kernel), List.mem_of_getElem? (i := 443) (by decide +kernel), List.mem_of_getElem? (i := 444) (by decide +kernel)⟩
theorem lw_p11 : lw_okq (⟨"FerriesLevel$Planner", "trySecond", "(IIIZ)V"⟩, 17) := ⟨⟨by decide +kernel, by decide +kernel⟩, List.mem_of_getElem? (i := 118) (by decide +kernel), List.mem_of_getElem? (i := 451) (by decide +kernel), List.mem_of_getElem? (i := 452) (by decide +kernel)⟩
theorem lw_p12 : lw_okq (⟨"FerriesLevel$Planner", "fewestOf", "(I)I"⟩, 17) := ⟨⟨by decide +kernel, by decide +kernel⟩, List.mem_of_getElem? (i := 118) (by decide +kernel), List.mem_of_getElem? (i := 514) (by decide +kernel), List.mem_of_getElem? (i := 515) (by decide +kernel)⟩
theorem lw_p13 : lw_okq (⟨"FerriesLevel", "crewByRule", "()I"⟩, 6) := ⟨⟨by decide +kernel, by decide +kernel⟩, List.mem_of_getElem? (i := 10) (by decide +kernel), List.mem_of_getElem? (i := 535) (by decide +kernel), List.mem_of_getElem? (i := 536) (by decide +kernel)⟩
theorem lw_p14 : lw_okq (⟨"FerriesLevel", "lightestEnd", "(II)I"⟩, 6) := ⟨⟨by decide +kernel, by decide +kernel⟩, List.mem_of_getElem? (i := 10) (by decide +kernel), List.mem_of_getElem? (i := 540) (by decide +kernel), List.mem_of_getElem? (i := 541) (by decide +kernel)⟩
theorem lw_p15 : lw_okq (⟨"FerriesLevel", "boatsFitBut", "(I)Z"⟩, 6) := ⟨⟨by decide +kernel, by decide +kernel⟩, List.mem_of_getElem? (i := 10) (by decide +kernel), List.mem_of_getElem? (i := 557) (by decide +kernel), List.mem_of_getElem? (i := 558) (by decide +kernel)⟩
def lw_privs_1 : List (MethodName × Nat) := [(⟨"FerriesLevel$Script", "mayStand", "(I)Z"⟩, 2), (⟨"FerriesLevel$Script", "mayStandInPerson", "(I)Z"⟩, 2), (⟨"FerriesLevel$Script", "byteAt", "(I)I"⟩, 2), (⟨"FerriesLevel$Script", "isFigure", "(III)Z"⟩, 2), (⟨"FerriesLevel$Planner", "prepare", "(LFerriesLevel$Craft;LFerriesLevel$Log;)V"⟩, 17), (⟨"FerriesLevel$Planner", "weighSets", "(LFerriesLevel$Craft;LFerriesLevel$Log;)V"⟩, 17), (⟨"FerriesLevel$Planner", "searchWithLast", "(IZ)V"⟩, 17), (⟨"FerriesLevel$Planner", "pullOf", "(II)I"⟩, 17), (⟨"FerriesLevel$Planner", "tryLast", "(IIIZ)V"⟩, 17), (⟨"FerriesLevel$Planner", "noteMakeWeight", "(III)V"⟩, 17), (⟨"FerriesLevel$Planner", "noteChoice", "(II)V"⟩, 17), (⟨"FerriesLevel$Planner", "trySecond", "(IIIZ)V"⟩, 17), (⟨"FerriesLevel$Planner", "fewestOf", "(I)I"⟩, 17), (⟨"FerriesLevel", "crewByRule", "()I"⟩, 6), (⟨"FerriesLevel", "lightestEnd", "(II)I"⟩, 6), (⟨"FerriesLevel", "boatsFitBut", "(I)Z"⟩, 6)]
theorem lw_r1 : ∀ q ∈ lw_privs_1, lw_okq q := List.forall_mem_cons.mpr ⟨lw_p0, List.forall_mem_cons.mpr ⟨lw_p1, List.forall_mem_cons.mpr ⟨lw_p2, List.forall_mem_cons.mpr ⟨lw_p3, List.forall_mem_cons.mpr ⟨lw_p4, List.forall_mem_cons.mpr ⟨lw_p5, List.forall_mem_cons.mpr ⟨lw_p6, List.forall_mem_cons.mpr ⟨lw_p7, List.forall_mem_cons.mpr ⟨lw_p8, List.forall_mem_cons.mpr ⟨lw_p9, List.forall_mem_cons.mpr ⟨lw_p10, List.forall_mem_cons.mpr ⟨lw_p11, List.forall_mem_cons.mpr ⟨lw_p12, List.forall_mem_cons.mpr ⟨lw_p13, List.forall_mem_cons.mpr ⟨lw_p14, List.forall_mem_cons.mpr ⟨lw_p15, fun _ h => absurd h List.not_mem_nil⟩⟩⟩⟩⟩⟩⟩⟩⟩⟩⟩⟩⟩⟩⟩⟩
theorem lw_p16 : lw_okq (⟨"FerriesLevel", "claimsThatFit", "(I)I"⟩, 6) := ⟨⟨by decide +kernel, by decide +kernel⟩, List.mem_of_getElem? (i := 10) (by decide +kernel), List.mem_of_getElem? (i := 565) (by decide +kernel), List.mem_of_getElem? (i := 566) (by decide +kernel)⟩
theorem lw_p17 : lw_okq (⟨"FerriesLevel", "slotOf", "(I)LFerriesLevel$Log;"⟩, 6) := ⟨⟨by decide +kernel, by decide +kernel⟩, List.mem_of_getElem? (i := 10) (by decide +kernel), List.mem_of_getElem? (i := 581) (by decide +kernel), List.mem_of_getElem? (i := 582) (by decide +kernel)⟩
theorem lw_p18 : lw_okq (⟨"FerriesLevelModel", "readText", "()I"⟩, 29) := ⟨⟨by decide +kernel, by decide +kernel⟩, List.mem_of_getElem? (i := 597) (by decide +kernel), List.mem_of_getElem? (i := 709) (by decide +kernel), List.mem_of_getElem? (i := 710) (by decide +kernel)⟩
theorem lw_p19 : lw_okq (⟨"FerriesLevelModel", "figure", "(I)I"⟩, 29) := ⟨⟨by decide +kernel, by decide +kernel⟩, List.mem_of_getElem? (i := 597) (by decide +kernel), List.mem_of_getElem? (i := 713) (by decide +kernel), List.mem_of_getElem? (i := 714) (by decide +kernel)⟩
theorem lw_p20 : lw_okq (⟨"FerriesLevelModel", "isPerson", "(I)Z"⟩, 29) := ⟨⟨by decide +kernel, by decide +kernel⟩, List.mem_of_getElem? (i := 597) (by decide +kernel), List.mem_of_getElem? (i := 731) (by decide +kernel), List.mem_of_getElem? (i := 732) (by decide +kernel)⟩
theorem lw_p21 : lw_okq (⟨"FerriesLevelModel", "isEnd", "(I)Z"⟩, 29) := ⟨⟨by decide +kernel, by decide +kernel⟩, List.mem_of_getElem? (i := 597) (by decide +kernel), List.mem_of_getElem? (i := 749) (by decide +kernel), List.mem_of_getElem? (i := 750) (by decide +kernel)⟩
theorem lw_p22 : lw_okq (⟨"FerriesLevelModel", "willSit", "(II)Z"⟩, 29) := ⟨⟨by decide +kernel, by decide +kernel⟩, List.mem_of_getElem? (i := 597) (by decide +kernel), List.mem_of_getElem? (i := 753) (by decide +kernel), List.mem_of_getElem? (i := 754) (by decide +kernel)⟩
theorem lw_p23 : lw_okq (⟨"FerriesLevelModel", "whoAt", "(I)I"⟩, 29) := ⟨⟨by decide +kernel, by decide +kernel⟩, List.mem_of_getElem? (i := 597) (by decide +kernel), List.mem_of_getElem? (i := 757) (by decide +kernel), List.mem_of_getElem? (i := 758) (by decide +kernel)⟩
theorem lw_p24 : lw_okq (⟨"FerriesLevelModel", "laid", "()I"⟩, 29) := ⟨⟨by decide +kernel, by decide +kernel⟩, List.mem_of_getElem? (i := 597) (by decide +kernel), List.mem_of_getElem? (i := 768) (by decide +kernel), List.mem_of_getElem? (i := 769) (by decide +kernel)⟩
theorem lw_p25 : lw_okq (⟨"FerriesLevelModel", "heavy", "(IIIZ)I"⟩, 29) := ⟨⟨by decide +kernel, by decide +kernel⟩, List.mem_of_getElem? (i := 597) (by decide +kernel), List.mem_of_getElem? (i := 776) (by decide +kernel), List.mem_of_getElem? (i := 777) (by decide +kernel)⟩
theorem lw_p26 : lw_okq (⟨"FerriesLevelModel", "weightOf", "(IIZ)I"⟩, 29) := ⟨⟨by decide +kernel, by decide +kernel⟩, List.mem_of_getElem? (i := 597) (by decide +kernel), List.mem_of_getElem? (i := 780) (by decide +kernel), List.mem_of_getElem? (i := 781) (by decide +kernel)⟩
theorem lw_p27 : lw_okq (⟨"FerriesLevelModel", "offOf", "(III)I"⟩, 29) := ⟨⟨by decide +kernel, by decide +kernel⟩, List.mem_of_getElem? (i := 597) (by decide +kernel), List.mem_of_getElem? (i := 788) (by decide +kernel), List.mem_of_getElem? (i := 789) (by decide +kernel)⟩
theorem lw_p28 : lw_okq (⟨"FerriesLevelModel", "isLevel", "(IIIZ)Z"⟩, 29) := ⟨⟨by decide +kernel, by decide +kernel⟩, List.mem_of_getElem? (i := 597) (by decide +kernel), List.mem_of_getElem? (i := 796) (by decide +kernel), List.mem_of_getElem? (i := 797) (by decide +kernel)⟩
theorem lw_p29 : lw_okq (⟨"FerriesLevelModel", "isEven", "(IIIIZ)Z"⟩, 29) := ⟨⟨by decide +kernel, by decide +kernel⟩, List.mem_of_getElem? (i := 597) (by decide +kernel), List.mem_of_getElem? (i := 800) (by decide +kernel), List.mem_of_getElem? (i := 801) (by decide +kernel)⟩
theorem lw_p30 : lw_okq (⟨"FerriesLevelModel", "fares", "(I)I"⟩, 29) := ⟨⟨by decide +kernel, by decide +kernel⟩, List.mem_of_getElem? (i := 597) (by decide +kernel), List.mem_of_getElem? (i := 804) (by decide +kernel), List.mem_of_getElem? (i := 805) (by decide +kernel)⟩
theorem lw_p31 : lw_okq (⟨"FerriesLevelModel", "waiting", "()I"⟩, 29) := ⟨⟨by decide +kernel, by decide +kernel⟩, List.mem_of_getElem? (i := 597) (by decide +kernel), List.mem_of_getElem? (i := 820) (by decide +kernel), List.mem_of_getElem? (i := 821) (by decide +kernel)⟩
def lw_privs_2 : List (MethodName × Nat) := [(⟨"FerriesLevel", "claimsThatFit", "(I)I"⟩, 6), (⟨"FerriesLevel", "slotOf", "(I)LFerriesLevel$Log;"⟩, 6), (⟨"FerriesLevelModel", "readText", "()I"⟩, 29), (⟨"FerriesLevelModel", "figure", "(I)I"⟩, 29), (⟨"FerriesLevelModel", "isPerson", "(I)Z"⟩, 29), (⟨"FerriesLevelModel", "isEnd", "(I)Z"⟩, 29), (⟨"FerriesLevelModel", "willSit", "(II)Z"⟩, 29), (⟨"FerriesLevelModel", "whoAt", "(I)I"⟩, 29), (⟨"FerriesLevelModel", "laid", "()I"⟩, 29), (⟨"FerriesLevelModel", "heavy", "(IIIZ)I"⟩, 29), (⟨"FerriesLevelModel", "weightOf", "(IIZ)I"⟩, 29), (⟨"FerriesLevelModel", "offOf", "(III)I"⟩, 29), (⟨"FerriesLevelModel", "isLevel", "(IIIZ)Z"⟩, 29), (⟨"FerriesLevelModel", "isEven", "(IIIIZ)Z"⟩, 29), (⟨"FerriesLevelModel", "fares", "(I)I"⟩, 29), (⟨"FerriesLevelModel", "waiting", "()I"⟩, 29)]
theorem lw_r2 : ∀ q ∈ lw_privs_2, lw_okq q := List.forall_mem_cons.mpr ⟨lw_p16, List.forall_mem_cons.mpr ⟨lw_p17, List.forall_mem_cons.mpr ⟨lw_p18, List.forall_mem_cons.mpr ⟨lw_p19, List.forall_mem_cons.mpr ⟨lw_p20, List.forall_mem_cons.mpr ⟨lw_p21, List.forall_mem_cons.mpr ⟨lw_p22, List.forall_mem_cons.mpr ⟨lw_p23, List.forall_mem_cons.mpr ⟨lw_p24, List.forall_mem_cons.mpr ⟨lw_p25, List.forall_mem_cons.mpr ⟨lw_p26, List.forall_mem_cons.mpr ⟨lw_p27, List.forall_mem_cons.mpr ⟨lw_p28, List.forall_mem_cons.mpr ⟨lw_p29, List.forall_mem_cons.mpr ⟨lw_p30, List.forall_mem_cons.mpr ⟨lw_p31, fun _ h => absurd h List.not_mem_nil⟩⟩⟩⟩⟩⟩⟩⟩⟩⟩⟩⟩⟩⟩⟩⟩
theorem lw_p32 : lw_okq (⟨"FerriesLevelModel", "layChoices", "(I)V"⟩, 29) := ⟨⟨by decide +kernel, by decide +kernel⟩, List.mem_of_getElem? (i := 597) (by decide +kernel), List.mem_of_getElem? (i := 824) (by decide +kernel), List.mem_of_getElem? (i := 825) (by decide +kernel)⟩
theorem lw_p33 : lw_okq (⟨"FerriesLevelModel", "laySets", "(II)Z"⟩, 29) := ⟨⟨by decide +kernel, by decide +kernel⟩, List.mem_of_getElem? (i := 597) (by decide +kernel), List.mem_of_getElem? (i := 828) (by decide +kernel), List.mem_of_getElem? (i := 829) (by decide +kernel)⟩
theorem lw_p34 : lw_okq (⟨"FerriesLevelModel", "better", "(II)V"⟩, 29) := ⟨⟨by decide +kernel, by decide +kernel⟩, List.mem_of_getElem? (i := 597) (by decide +kernel), List.mem_of_getElem? (i := 832) (by decide +kernel), List.mem_of_getElem? (i := 833) (by decide +kernel)⟩
theorem lw_p35 : lw_okq (⟨"FerriesLevelModel", "layMakes", "(I)V"⟩, 29) := ⟨⟨by decide +kernel, by decide +kernel⟩, List.mem_of_getElem? (i := 597) (by decide +kernel), List.mem_of_getElem? (i := 836) (by decide +kernel), List.mem_of_getElem? (i := 837) (by decide +kernel)⟩
theorem lw_p36 : lw_okq (⟨"FerriesLevelModel", "lacks", "(II)I"⟩, 29) := ⟨⟨by decide +kernel, by decide +kernel⟩, List.mem_of_getElem? (i := 597) (by decide +kernel), List.mem_of_getElem? (i := 840) (by decide +kernel), List.mem_of_getElem? (i := 841) (by decide +kernel)⟩
theorem lw_p37 : lw_okq (⟨"FerriesLevelModel", "mostOf", "(I)I"⟩, 29) := ⟨⟨by decide +kernel, by decide +kernel⟩, List.mem_of_getElem? (i := 597) (by decide +kernel), List.mem_of_getElem? (i := 853) (by decide +kernel), List.mem_of_getElem? (i := 854) (by decide +kernel)⟩
theorem lw_p38 : lw_okq (⟨"FerriesLevelModel", "layFewest", "()V"⟩, 29) := ⟨⟨by decide +kernel, by decide +kernel⟩, List.mem_of_getElem? (i := 597) (by decide +kernel), List.mem_of_getElem? (i := 873) (by decide +kernel), List.mem_of_getElem? (i := 874) (by decide +kernel)⟩
theorem lw_p39 : lw_okq (⟨"FerriesLevelModel", "layRule", "()V"⟩, 29) := ⟨⟨by decide +kernel, by decide +kernel⟩, List.mem_of_getElem? (i := 597) (by decide +kernel), List.mem_of_getElem? (i := 885) (by decide +kernel), List.mem_of_getElem? (i := 886) (by decide +kernel)⟩
theorem lw_p40 : lw_okq (⟨"FerriesLevelModel", "allFit", "()Z"⟩, 29) := ⟨⟨by decide +kernel, by decide +kernel⟩, List.mem_of_getElem? (i := 597) (by decide +kernel), List.mem_of_getElem? (i := 901) (by decide +kernel), List.mem_of_getElem? (i := 902) (by decide +kernel)⟩
theorem lw_p41 : lw_okq (⟨"FerriesLevelModel", "mayOf", "(I)I"⟩, 29) := ⟨⟨by decide +kernel, by decide +kernel⟩, List.mem_of_getElem? (i := 597) (by decide +kernel), List.mem_of_getElem? (i := 909) (by decide +kernel), List.mem_of_getElem? (i := 910) (by decide +kernel)⟩
def lw_privs_3 : List (MethodName × Nat) := [(⟨"FerriesLevelModel", "layChoices", "(I)V"⟩, 29), (⟨"FerriesLevelModel", "laySets", "(II)Z"⟩, 29), (⟨"FerriesLevelModel", "better", "(II)V"⟩, 29), (⟨"FerriesLevelModel", "layMakes", "(I)V"⟩, 29), (⟨"FerriesLevelModel", "lacks", "(II)I"⟩, 29), (⟨"FerriesLevelModel", "mostOf", "(I)I"⟩, 29), (⟨"FerriesLevelModel", "layFewest", "()V"⟩, 29), (⟨"FerriesLevelModel", "layRule", "()V"⟩, 29), (⟨"FerriesLevelModel", "allFit", "()Z"⟩, 29), (⟨"FerriesLevelModel", "mayOf", "(I)I"⟩, 29)]
theorem lw_r3 : ∀ q ∈ lw_privs_3, lw_okq q := List.forall_mem_cons.mpr ⟨lw_p32, List.forall_mem_cons.mpr ⟨lw_p33, List.forall_mem_cons.mpr ⟨lw_p34, List.forall_mem_cons.mpr ⟨lw_p35, List.forall_mem_cons.mpr ⟨lw_p36, List.forall_mem_cons.mpr ⟨lw_p37, List.forall_mem_cons.mpr ⟨lw_p38, List.forall_mem_cons.mpr ⟨lw_p39, List.forall_mem_cons.mpr ⟨lw_p40, List.forall_mem_cons.mpr ⟨lw_p41, fun _ h => absurd h List.not_mem_nil⟩⟩⟩⟩⟩⟩⟩⟩⟩⟩
def lw_privs : List (MethodName × Nat) := lw_privs_1 ++ (lw_privs_2 ++ (lw_privs_3))
def lw_tbl : List Cond := k2_sels lw_privs ++ tables_1
theorem lw_privs_ok : ∀ q ∈ lw_privs, lw_okq q := by
  show ∀ q ∈ lw_privs_1 ++ (lw_privs_2 ++ (lw_privs_3)), lw_okq q
  exact List.forall_mem_append.mpr ⟨lw_r1, List.forall_mem_append.mpr ⟨lw_r2, lw_r3⟩⟩
end
section
def RX0 : String := "FerriesLevel$Craft"
def TX0 : u_T := fun k => match k with
  | 0 => ("FerriesLevel$Craft", "ends", "I", false)
  | 1 => ("FerriesLevel$Craft", "armA", "I", false)
  | 2 => ("FerriesLevel$Craft", "armB", "I", false)
  | 3 => ("FerriesLevel$Craft", "seats", "I", false)
  | 4 => ("FerriesLevel$Craft", "list", "I", false)
  | 5 => ("FerriesLevel$Craft", "people", "I", false)
  | 6 => ("FerriesLevel$Craft", "weight", "[I", true)
  | 7 => ("FerriesLevel$Craft", "fare", "[I", true)
  | _ => ("FerriesLevel$Craft", "wish", "[I", true)
def tyX0 : Nat → FieldType := fun k => match k with
  | 0 => .int
  | 1 => .int
  | 2 => .int
  | 3 => .int
  | 4 => .int
  | 5 => .int
  | 6 => .array .int
  | 7 => .array .int
  | _ => .array .int
theorem nmX0 : ∀ a, a < 9 → ∀ b, b < 9 → a ≠ b → (TX0 a).2.1 ≠ (TX0 b).2.1 := by decide +kernel
theorem tyX0_ok : ∀ k, k < 9 → parseFieldDescriptor (TX0 k).2.2.1 = some (tyX0 k) := by decide +kernel
abbrev cX0_init : ByteArray := prog_2_method_1_code
def yX0_init : MethodName := ⟨RX0, "<init>", "()V"⟩
abbrev cX0_readFrom : ByteArray := prog_2_method_2_code
def yX0_readFrom : MethodName := ⟨RX0, "readFrom", "(LFerriesLevel$Script;)V"⟩
abbrev cX0_hasPerson : ByteArray := prog_2_method_3_code
def yX0_hasPerson : MethodName := ⟨RX0, "hasPerson", "(I)Z"⟩
abbrev cX0_hasEnd : ByteArray := prog_2_method_4_code
def yX0_hasEnd : MethodName := ⟨RX0, "hasEnd", "(I)Z"⟩
abbrev cX0_willSit : ByteArray := prog_2_method_5_code
def yX0_willSit : MethodName := ⟨RX0, "willSit", "(II)Z"⟩
abbrev cX0_armOf : ByteArray := prog_2_method_6_code
def yX0_armOf : MethodName := ⟨RX0, "armOf", "(I)I"⟩
abbrev cX0_faresOf : ByteArray := prog_2_method_7_code
def yX0_faresOf : MethodName := ⟨RX0, "faresOf", "(I)I"⟩
abbrev cX0_loadOf : ByteArray := prog_2_method_8_code
def yX0_loadOf : MethodName := ⟨RX0, "loadOf", "(II[I[II)I"⟩
abbrev cX0_tiltOf : ByteArray := prog_2_method_9_code
def yX0_tiltOf : MethodName := ⟨RX0, "tiltOf", "(I[I[II)I"⟩
abbrev cX0_isLevel : ByteArray := prog_2_method_10_code
def yX0_isLevel : MethodName := ⟨RX0, "isLevel", "(I[ILFerriesLevel$Log;)Z"⟩
def RX1 : String := "FerriesLevel$Log"
def TX1 : u_T := fun k => match k with
  | 0 => ("FerriesLevel$Log", "crews", "[I", true)
  | 1 => ("FerriesLevel$Log", "gains", "[I", true)
  | 2 => ("FerriesLevel$Log", "claims", "[I", true)
  | 3 => ("FerriesLevel$Log", "boats", "I", false)
  | 4 => ("FerriesLevel$Log", "minutes", "I", false)
  | _ => ("FerriesLevel$Log", "filled", "Z", false)
def tyX1 : Nat → FieldType := fun k => match k with
  | 0 => .array .int
  | 1 => .array .int
  | 2 => .array .int
  | 3 => .int
  | 4 => .int
  | _ => .boolean
theorem nmX1 : ∀ a, a < 6 → ∀ b, b < 6 → a ≠ b → (TX1 a).2.1 ≠ (TX1 b).2.1 := by decide +kernel
theorem tyX1_ok : ∀ k, k < 6 → parseFieldDescriptor (TX1 k).2.2.1 = some (tyX1 k) := by decide +kernel
abbrev cX1_init : ByteArray := prog_3_method_1_code
def yX1_init : MethodName := ⟨RX1, "<init>", "()V"⟩
abbrev cX1_startAnew : ByteArray := prog_3_method_2_code
def yX1_startAnew : MethodName := ⟨RX1, "startAnew", "(LFerriesLevel$Craft;)V"⟩
abbrev cX1_copyFrom : ByteArray := prog_3_method_3_code
def yX1_copyFrom : MethodName := ⟨RX1, "copyFrom", "(LFerriesLevel$Log;)V"⟩
abbrev cX1_crewOf : ByteArray := prog_3_method_4_code
def yX1_crewOf : MethodName := ⟨RX1, "crewOf", "(I)I"⟩
abbrev cX1_laid : ByteArray := prog_3_method_5_code
def yX1_laid : MethodName := ⟨RX1, "laid", "()I"⟩
abbrev cX1_setLaid : ByteArray := prog_3_method_6_code
def yX1_setLaid : MethodName := ⟨RX1, "setLaid", "(I)V"⟩
abbrev cX1_depart : ByteArray := prog_3_method_7_code
def yX1_depart : MethodName := ⟨RX1, "depart", "()V"⟩
abbrev cX1_takeBack : ByteArray := prog_3_method_8_code
def yX1_takeBack : MethodName := ⟨RX1, "takeBack", "()V"⟩
abbrev cX1_gone : ByteArray := prog_3_method_9_code
def yX1_gone : MethodName := ⟨RX1, "gone", "()I"⟩
abbrev cX1_boatOf : ByteArray := prog_3_method_10_code
def yX1_boatOf : MethodName := ⟨RX1, "boatOf", "(I)I"⟩
abbrev cX1_placeOf : ByteArray := prog_3_method_11_code
def yX1_placeOf : MethodName := ⟨RX1, "placeOf", "(I)I"⟩
def RX2 : String := "FerriesLevel$Planner"
def TX2 : u_T := fun k => match k with
  | 0 => ("FerriesLevel$Planner", "load", "[I", true)
  | 1 => ("FerriesLevel$Planner", "fares", "[I", true)
  | 2 => ("FerriesLevel$Planner", "heads", "[I", true)
  | 3 => ("FerriesLevel$Planner", "fewest", "[I", true)
  | 4 => ("FerriesLevel$Planner", "faresMade", "[I", true)
  | 5 => ("FerriesLevel$Planner", "willing", "[I", true)
  | 6 => ("FerriesLevel$Planner", "arm", "[I", true)
  | 7 => ("FerriesLevel$Planner", "emptyPull", "[I", true)
  | 8 => ("FerriesLevel$Planner", "ends", "I", false)
  | 9 => ("FerriesLevel$Planner", "seats", "I", false)
  | 10 => ("FerriesLevel$Planner", "size", "I", false)
  | 11 => ("FerriesLevel$Planner", "waiting", "I", false)
  | 12 => ("FerriesLevel$Planner", "bestScore", "I", false)
  | 13 => ("FerriesLevel$Planner", "bestCrew", "I", false)
  | 14 => ("FerriesLevel$Planner", "choicesFound", "Z", false)
  | 15 => ("FerriesLevel$Planner", "chainsFound", "Z", false)
  | _ => ("FerriesLevel$Planner", "makeWeightsFound", "Z", false)
def tyX2 : Nat → FieldType := fun k => match k with
  | 0 => .array .int
  | 1 => .array .int
  | 2 => .array .int
  | 3 => .array .int
  | 4 => .array .int
  | 5 => .array .int
  | 6 => .array .int
  | 7 => .array .int
  | 8 => .int
  | 9 => .int
  | 10 => .int
  | 11 => .int
  | 12 => .int
  | 13 => .int
  | 14 => .boolean
  | 15 => .boolean
  | _ => .boolean
theorem nmX2 : ∀ a, a < 17 → ∀ b, b < 17 → a ≠ b → (TX2 a).2.1 ≠ (TX2 b).2.1 := by decide +kernel
theorem tyX2_ok : ∀ k, k < 17 → parseFieldDescriptor (TX2 k).2.2.1 = some (tyX2 k) := by decide +kernel
abbrev cX2_init : ByteArray := prog_4_method_1_code
def yX2_init : MethodName := ⟨RX2, "<init>", "()V"⟩
abbrev cX2_forget : ByteArray := prog_4_method_2_code
def yX2_forget : MethodName := ⟨RX2, "forget", "()V"⟩
abbrev cX2_hasChoice : ByteArray := prog_4_method_3_code
def yX2_hasChoice : MethodName := ⟨RX2, "hasChoice", "()Z"⟩
abbrev cX2_bestFares : ByteArray := prog_4_method_4_code
def yX2_bestFares : MethodName := ⟨RX2, "bestFares", "()I"⟩
abbrev cX2_faresWithout : ByteArray := prog_4_method_5_code
def yX2_faresWithout : MethodName := ⟨RX2, "faresWithout", "(I)I"⟩
abbrev cX2_countSets : ByteArray := prog_4_method_6_code
def yX2_countSets : MethodName := ⟨RX2, "countSets", "()I"⟩
abbrev cX2_faresWithin : ByteArray := prog_4_method_7_code
def yX2_faresWithin : MethodName := ⟨RX2, "faresWithin", "(I)I"⟩
abbrev cX2_fewestForAll : ByteArray := prog_4_method_8_code
def yX2_fewestForAll : MethodName := ⟨RX2, "fewestForAll", "()I"⟩
abbrev cX2_madeBy : ByteArray := prog_4_method_9_code
def yX2_madeBy : MethodName := ⟨RX2, "madeBy", "(I)I"⟩
abbrev cX2_bestMakeWeight : ByteArray := prog_4_method_10_code
def yX2_bestMakeWeight : MethodName := ⟨RX2, "bestMakeWeight", "()I"⟩
abbrev cX2_findChoices : ByteArray := prog_4_method_11_code
def yX2_findChoices : MethodName := ⟨RX2, "findChoices", "(LFerriesLevel$Craft;LFerriesLevel$Log;)V"⟩
abbrev cX2_findMakeWeights : ByteArray := prog_4_method_12_code
def yX2_findMakeWeights : MethodName := ⟨RX2, "findMakeWeights", "()V"⟩
abbrev cX2_findChains : ByteArray := prog_4_method_13_code
def yX2_findChains : MethodName := ⟨RX2, "findChains", "()V"⟩
abbrev cX2_fewestOf : ByteArray := prog_4_method_14_code
def yX2_fewestOf : MethodName := ⟨RX2, "fewestOf", "(I)I"⟩
abbrev cX2_prepare : ByteArray := prog_4_method_15_code
def yX2_prepare : MethodName := ⟨RX2, "prepare", "(LFerriesLevel$Craft;LFerriesLevel$Log;)V"⟩
abbrev cX2_weighSets : ByteArray := prog_4_method_16_code
def yX2_weighSets : MethodName := ⟨RX2, "weighSets", "(LFerriesLevel$Craft;LFerriesLevel$Log;)V"⟩
abbrev cX2_pullOf : ByteArray := prog_4_method_17_code
def yX2_pullOf : MethodName := ⟨RX2, "pullOf", "(II)I"⟩
abbrev cX2_searchWithLast : ByteArray := prog_4_method_18_code
def yX2_searchWithLast : MethodName := ⟨RX2, "searchWithLast", "(IZ)V"⟩
abbrev cX2_trySecond : ByteArray := prog_4_method_19_code
def yX2_trySecond : MethodName := ⟨RX2, "trySecond", "(IIIZ)V"⟩
abbrev cX2_tryLast : ByteArray := prog_4_method_20_code
def yX2_tryLast : MethodName := ⟨RX2, "tryLast", "(IIIZ)V"⟩
abbrev cX2_noteMakeWeight : ByteArray := prog_4_method_21_code
def yX2_noteMakeWeight : MethodName := ⟨RX2, "noteMakeWeight", "(III)V"⟩
abbrev cX2_noteChoice : ByteArray := prog_4_method_22_code
def yX2_noteChoice : MethodName := ⟨RX2, "noteChoice", "(II)V"⟩
abbrev cX2_isAhead : ByteArray := prog_4_method_23_code
def yX2_isAhead : MethodName := ⟨RX2, "isAhead", "(II)Z"⟩
def RX3 : String := "FerriesLevel$Script"
def TX3 : u_T := fun k => match k with
  | 0 => ("FerriesLevel$Script", "bytes", "[I", true)
  | _ => ("FerriesLevel$Script", "length", "I", false)
def tyX3 : Nat → FieldType := fun k => match k with
  | 0 => .array .int
  | _ => .int
theorem nmX3 : ∀ a, a < 2 → ∀ b, b < 2 → a ≠ b → (TX3 a).2.1 ≠ (TX3 b).2.1 := by decide +kernel
theorem tyX3_ok : ∀ k, k < 2 → parseFieldDescriptor (TX3 k).2.2.1 = some (tyX3 k) := by decide +kernel
abbrev cX3_init : ByteArray := prog_5_method_1_code
def yX3_init : MethodName := ⟨RX3, "<init>", "()V"⟩
abbrev cX3_append : ByteArray := prog_5_method_2_code
def yX3_append : MethodName := ⟨RX3, "append", "(IJ)V"⟩
abbrev cX3_firstFault : ByteArray := prog_5_method_3_code
def yX3_firstFault : MethodName := ⟨RX3, "firstFault", "()I"⟩
abbrev cX3_mayStand : ByteArray := prog_5_method_4_code
def yX3_mayStand : MethodName := ⟨RX3, "mayStand", "(I)Z"⟩
abbrev cX3_mayStandInPerson : ByteArray := prog_5_method_5_code
def yX3_mayStandInPerson : MethodName := ⟨RX3, "mayStandInPerson", "(I)Z"⟩
abbrev cX3_isFigure : ByteArray := prog_5_method_6_code
def yX3_isFigure : MethodName := ⟨RX3, "isFigure", "(III)Z"⟩
abbrev cX3_figure : ByteArray := prog_5_method_7_code
def yX3_figure : MethodName := ⟨RX3, "figure", "(I)I"⟩
abbrev cX3_byteAt : ByteArray := prog_5_method_8_code
def yX3_byteAt : MethodName := ⟨RX3, "byteAt", "(I)I"⟩
def RX4 : String := "FerriesLevel"
def TX4 : u_T := fun k => match k with
  | 0 => ("FerriesLevel", "script", "LFerriesLevel$Script;", true)
  | 1 => ("FerriesLevel", "craft", "LFerriesLevel$Craft;", true)
  | 2 => ("FerriesLevel", "log", "LFerriesLevel$Log;", true)
  | 3 => ("FerriesLevel", "slotZero", "LFerriesLevel$Log;", true)
  | 4 => ("FerriesLevel", "slotOne", "LFerriesLevel$Log;", true)
  | _ => ("FerriesLevel", "planner", "LFerriesLevel$Planner;", true)
def tyX4 : Nat → FieldType := fun k => match k with
  | 0 => .object "FerriesLevel$Script"
  | 1 => .object "FerriesLevel$Craft"
  | 2 => .object "FerriesLevel$Log"
  | 3 => .object "FerriesLevel$Log"
  | 4 => .object "FerriesLevel$Log"
  | _ => .object "FerriesLevel$Planner"
theorem nmX4 : ∀ a, a < 6 → ∀ b, b < 6 → a ≠ b → (TX4 a).2.1 ≠ (TX4 b).2.1 := by decide +kernel
theorem tyX4_ok : ∀ k, k < 6 → parseFieldDescriptor (TX4 k).2.2.1 = some (tyX4 k) := by decide +kernel
abbrev cX4_init : ByteArray := prog_1_method_1_code
def yX4_init : MethodName := ⟨RX4, "<init>", "()V"⟩
abbrev cX4_write : ByteArray := prog_1_method_2_code
def yX4_write : MethodName := ⟨RX4, "write", "(IJ)I"⟩
abbrev cX4_wipe : ByteArray := prog_1_method_3_code
def yX4_wipe : MethodName := ⟨RX4, "wipe", "()I"⟩
abbrev cX4_fault : ByteArray := prog_1_method_4_code
def yX4_fault : MethodName := ⟨RX4, "fault", "()I"⟩
abbrev cX4_ferry : ByteArray := prog_1_method_5_code
def yX4_ferry : MethodName := ⟨RX4, "ferry", "()I"⟩
abbrev cX4_boat : ByteArray := prog_1_method_6_code
def yX4_boat : MethodName := ⟨RX4, "boat", "(I)I"⟩
abbrev cX4_person : ByteArray := prog_1_method_7_code
def yX4_person : MethodName := ⟨RX4, "person", "(II)I"⟩
abbrev cX4_gain : ByteArray := prog_1_method_8_code
def yX4_gain : MethodName := ⟨RX4, "gain", "(II)I"⟩
abbrev cX4_minutes : ByteArray := prog_1_method_9_code
def yX4_minutes : MethodName := ⟨RX4, "minutes", "(I)I"⟩
abbrev cX4_lay : ByteArray := prog_1_method_10_code
def yX4_lay : MethodName := ⟨RX4, "lay", "(II)I"⟩
abbrev cX4_unlay : ByteArray := prog_1_method_11_code
def yX4_unlay : MethodName := ⟨RX4, "unlay", "(I)I"⟩
abbrev cX4_weighs : ByteArray := prog_1_method_12_code
def yX4_weighs : MethodName := ⟨RX4, "weighs", "(II)I"⟩
abbrev cX4_off : ByteArray := prog_1_method_13_code
def yX4_off : MethodName := ⟨RX4, "off", "(I)I"⟩
abbrev cX4_leave : ByteArray := prog_1_method_14_code
def yX4_leave : MethodName := ⟨RX4, "leave", "()I"⟩
abbrev cX4_back : ByteArray := prog_1_method_15_code
def yX4_back : MethodName := ⟨RX4, "back", "()I"⟩
abbrev cX4_left : ByteArray := prog_1_method_16_code
def yX4_left : MethodName := ⟨RX4, "left", "(II)I"⟩
abbrev cX4_best : ByteArray := prog_1_method_17_code
def yX4_best : MethodName := ⟨RX4, "best", "()I"⟩
abbrev cX4_bestAt : ByteArray := prog_1_method_18_code
def yX4_bestAt : MethodName := ⟨RX4, "bestAt", "(I)I"⟩
abbrev cX4_worth : ByteArray := prog_1_method_19_code
def yX4_worth : MethodName := ⟨RX4, "worth", "(I)I"⟩
abbrev cX4_makes : ByteArray := prog_1_method_20_code
def yX4_makes : MethodName := ⟨RX4, "makes", "(I)I"⟩
abbrev cX4_bestMakes : ByteArray := prog_1_method_21_code
def yX4_bestMakes : MethodName := ⟨RX4, "bestMakes", "()I"⟩
abbrev cX4_sets : ByteArray := prog_1_method_22_code
def yX4_sets : MethodName := ⟨RX4, "sets", "()I"⟩
abbrev cX4_crossings : ByteArray := prog_1_method_23_code
def yX4_crossings : MethodName := ⟨RX4, "crossings", "(I)I"⟩
abbrev cX4_all : ByteArray := prog_1_method_24_code
def yX4_all : MethodName := ⟨RX4, "all", "()I"⟩
abbrev cX4_rule : ByteArray := prog_1_method_25_code
def yX4_rule : MethodName := ⟨RX4, "rule", "()I"⟩
abbrev cX4_ruleAt : ByteArray := prog_1_method_26_code
def yX4_ruleAt : MethodName := ⟨RX4, "ruleAt", "(I)I"⟩
abbrev cX4_claim : ByteArray := prog_1_method_27_code
def yX4_claim : MethodName := ⟨RX4, "claim", "(II)I"⟩
abbrev cX4_fits : ByteArray := prog_1_method_28_code
def yX4_fits : MethodName := ⟨RX4, "fits", "()I"⟩
abbrev cX4_liars : ByteArray := prog_1_method_29_code
def yX4_liars : MethodName := ⟨RX4, "liars", "()I"⟩
abbrev cX4_mayWeigh : ByteArray := prog_1_method_30_code
def yX4_mayWeigh : MethodName := ⟨RX4, "mayWeigh", "(I)I"⟩
abbrev cX4_keep : ByteArray := prog_1_method_31_code
def yX4_keep : MethodName := ⟨RX4, "keep", "(I)I"⟩
abbrev cX4_again : ByteArray := prog_1_method_32_code
def yX4_again : MethodName := ⟨RX4, "again", "(I)I"⟩
abbrev cX4_count : ByteArray := prog_1_method_33_code
def yX4_count : MethodName := ⟨RX4, "count", "(I)I"⟩
abbrev cX4_isSlot : ByteArray := prog_1_method_34_code
def yX4_isSlot : MethodName := ⟨RX4, "isSlot", "(I)Z"⟩
abbrev cX4_slotOf : ByteArray := prog_1_method_35_code
def yX4_slotOf : MethodName := ⟨RX4, "slotOf", "(I)LFerriesLevel$Log;"⟩
abbrev cX4_crewByRule : ByteArray := prog_1_method_36_code
def yX4_crewByRule : MethodName := ⟨RX4, "crewByRule", "()I"⟩
abbrev cX4_lightestEnd : ByteArray := prog_1_method_37_code
def yX4_lightestEnd : MethodName := ⟨RX4, "lightestEnd", "(II)I"⟩
abbrev cX4_boatsFitBut : ByteArray := prog_1_method_38_code
def yX4_boatsFitBut : MethodName := ⟨RX4, "boatsFitBut", "(I)Z"⟩
abbrev cX4_claimsThatFit : ByteArray := prog_1_method_39_code
def yX4_claimsThatFit : MethodName := ⟨RX4, "claimsThatFit", "(I)I"⟩
abbrev cX4_sitters : ByteArray := prog_1_method_40_code
def yX4_sitters : MethodName := ⟨RX4, "sitters", "(II)I"⟩
abbrev cX4_members : ByteArray := prog_1_method_41_code
def yX4_members : MethodName := ⟨RX4, "members", "(I)I"⟩
abbrev cX4_seat : ByteArray := prog_1_method_42_code
def yX4_seat : MethodName := ⟨RX4, "seat", "(III)I"⟩
abbrev cX4_unseat : ByteArray := prog_1_method_43_code
def yX4_unseat : MethodName := ⟨RX4, "unseat", "(III)I"⟩
abbrev cX4_endOf : ByteArray := prog_1_method_44_code
def yX4_endOf : MethodName := ⟨RX4, "endOf", "(II)I"⟩
abbrev cX4_isMinute : ByteArray := prog_1_method_45_code
def yX4_isMinute : MethodName := ⟨RX4, "isMinute", "(I)Z"⟩
abbrev cX4_poundsAfter : ByteArray := prog_1_method_46_code
def yX4_poundsAfter : MethodName := ⟨RX4, "poundsAfter", "(III)I"⟩
def RX5 : String := "FerriesLevelModel"
def TX5 : u_T := fun k => match k with
  | 0 => ("FerriesLevelModel", "readBoat", "[I", true)
  | 1 => ("FerriesLevelModel", "readPeople", "[I", true)
  | 2 => ("FerriesLevelModel", "readMany", "I", false)
  | 3 => ("FerriesLevelModel", "boat", "[I", true)
  | 4 => ("FerriesLevelModel", "people", "[I", true)
  | 5 => ("FerriesLevelModel", "many", "I", false)
  | 6 => ("FerriesLevelModel", "gains", "[I", true)
  | 7 => ("FerriesLevelModel", "claims", "[I", true)
  | 8 => ("FerriesLevelModel", "place", "[I", true)
  | 9 => ("FerriesLevelModel", "minutes", "I", false)
  | 10 => ("FerriesLevelModel", "text", "[I", true)
  | 11 => ("FerriesLevelModel", "length", "I", false)
  | 12 => ("FerriesLevelModel", "at", "I", false)
  | 13 => ("FerriesLevelModel", "faultAt", "I", false)
  | 14 => ("FerriesLevelModel", "boats", "I", false)
  | 15 => ("FerriesLevelModel", "leftAt", "[I", true)
  | 16 => ("FerriesLevelModel", "sets", "[I", true)
  | 17 => ("FerriesLevelModel", "bestFares", "I", false)
  | 18 => ("FerriesLevelModel", "bestMany", "I", false)
  | 19 => ("FerriesLevelModel", "bestCode", "I", false)
  | 20 => ("FerriesLevelModel", "canLeave", "[Z", true)
  | 21 => ("FerriesLevelModel", "brings", "[I", true)
  | 22 => ("FerriesLevelModel", "fewest", "[I", true)
  | 23 => ("FerriesLevelModel", "isKept", "[Z", true)
  | 24 => ("FerriesLevelModel", "keptPlace", "[I", true)
  | 25 => ("FerriesLevelModel", "keptGains", "[I", true)
  | 26 => ("FerriesLevelModel", "keptClaims", "[I", true)
  | 27 => ("FerriesLevelModel", "keptLeft", "[I", true)
  | _ => ("FerriesLevelModel", "keptRest", "[I", true)
def tyX5 : Nat → FieldType := fun k => match k with
  | 0 => .array .int
  | 1 => .array .int
  | 2 => .int
  | 3 => .array .int
  | 4 => .array .int
  | 5 => .int
  | 6 => .array .int
  | 7 => .array .int
  | 8 => .array .int
  | 9 => .int
  | 10 => .array .int
  | 11 => .int
  | 12 => .int
  | 13 => .int
  | 14 => .int
  | 15 => .array .int
  | 16 => .array .int
  | 17 => .int
  | 18 => .int
  | 19 => .int
  | 20 => .array .boolean
  | 21 => .array .int
  | 22 => .array .int
  | 23 => .array .boolean
  | 24 => .array .int
  | 25 => .array .int
  | 26 => .array .int
  | 27 => .array .int
  | _ => .array .int
theorem nmX5 : ∀ a, a < 29 → ∀ b, b < 29 → a ≠ b → (TX5 a).2.1 ≠ (TX5 b).2.1 := by decide +kernel
theorem tyX5_ok : ∀ k, k < 29 → parseFieldDescriptor (TX5 k).2.2.1 = some (tyX5 k) := by decide +kernel
abbrev cX5_init : ByteArray := prog_7_method_1_code
def yX5_init : MethodName := ⟨RX5, "<init>", "()V"⟩
abbrev cX5_in : ByteArray := prog_7_method_3_code
def yX5_in : MethodName := ⟨RX5, "in", "(JJJ)Z"⟩
abbrev cX5_write : ByteArray := prog_7_method_4_code
def yX5_write : MethodName := ⟨RX5, "write", "(IJ)I"⟩
abbrev cX5_wipe : ByteArray := prog_7_method_5_code
def yX5_wipe : MethodName := ⟨RX5, "wipe", "()I"⟩
abbrev cX5_figure : ByteArray := prog_7_method_6_code
def yX5_figure : MethodName := ⟨RX5, "figure", "(I)I"⟩
abbrev cX5_readText : ByteArray := prog_7_method_7_code
def yX5_readText : MethodName := ⟨RX5, "readText", "()I"⟩
abbrev cX5_fault : ByteArray := prog_7_method_8_code
def yX5_fault : MethodName := ⟨RX5, "fault", "()I"⟩
abbrev cX5_ferry : ByteArray := prog_7_method_9_code
def yX5_ferry : MethodName := ⟨RX5, "ferry", "()I"⟩
abbrev cX5_isPerson : ByteArray := prog_7_method_10_code
def yX5_isPerson : MethodName := ⟨RX5, "isPerson", "(I)Z"⟩
abbrev cX5_isEnd : ByteArray := prog_7_method_11_code
def yX5_isEnd : MethodName := ⟨RX5, "isEnd", "(I)Z"⟩
abbrev cX5_boat : ByteArray := prog_7_method_12_code
def yX5_boat : MethodName := ⟨RX5, "boat", "(I)I"⟩
abbrev cX5_person : ByteArray := prog_7_method_13_code
def yX5_person : MethodName := ⟨RX5, "person", "(II)I"⟩
abbrev cX5_gain : ByteArray := prog_7_method_14_code
def yX5_gain : MethodName := ⟨RX5, "gain", "(II)I"⟩
abbrev cX5_minutes : ByteArray := prog_7_method_15_code
def yX5_minutes : MethodName := ⟨RX5, "minutes", "(I)I"⟩
abbrev cX5_weightOf : ByteArray := prog_7_method_16_code
def yX5_weightOf : MethodName := ⟨RX5, "weightOf", "(IIZ)I"⟩
abbrev cX5_willSit : ByteArray := prog_7_method_17_code
def yX5_willSit : MethodName := ⟨RX5, "willSit", "(II)Z"⟩
abbrev cX5_whoAt : ByteArray := prog_7_method_18_code
def yX5_whoAt : MethodName := ⟨RX5, "whoAt", "(I)I"⟩
abbrev cX5_ones : ByteArray := prog_7_method_19_code
def yX5_ones : MethodName := ⟨RX5, "ones", "(I)I"⟩
abbrev cX5_lay : ByteArray := prog_7_method_20_code
def yX5_lay : MethodName := ⟨RX5, "lay", "(II)I"⟩
abbrev cX5_laid : ByteArray := prog_7_method_21_code
def yX5_laid : MethodName := ⟨RX5, "laid", "()I"⟩
abbrev cX5_unlay : ByteArray := prog_7_method_22_code
def yX5_unlay : MethodName := ⟨RX5, "unlay", "(I)I"⟩
abbrev cX5_heavy : ByteArray := prog_7_method_23_code
def yX5_heavy : MethodName := ⟨RX5, "heavy", "(IIIZ)I"⟩
abbrev cX5_offOf : ByteArray := prog_7_method_24_code
def yX5_offOf : MethodName := ⟨RX5, "offOf", "(III)I"⟩
abbrev cX5_isEven : ByteArray := prog_7_method_25_code
def yX5_isEven : MethodName := ⟨RX5, "isEven", "(IIIIZ)Z"⟩
abbrev cX5_isLevel : ByteArray := prog_7_method_26_code
def yX5_isLevel : MethodName := ⟨RX5, "isLevel", "(IIIZ)Z"⟩
abbrev cX5_weighs : ByteArray := prog_7_method_27_code
def yX5_weighs : MethodName := ⟨RX5, "weighs", "(II)I"⟩
abbrev cX5_off : ByteArray := prog_7_method_28_code
def yX5_off : MethodName := ⟨RX5, "off", "(I)I"⟩
abbrev cX5_fares : ByteArray := prog_7_method_29_code
def yX5_fares : MethodName := ⟨RX5, "fares", "(I)I"⟩
abbrev cX5_leave : ByteArray := prog_7_method_30_code
def yX5_leave : MethodName := ⟨RX5, "leave", "()I"⟩
abbrev cX5_back : ByteArray := prog_7_method_31_code
def yX5_back : MethodName := ⟨RX5, "back", "()I"⟩
abbrev cX5_left : ByteArray := prog_7_method_32_code
def yX5_left : MethodName := ⟨RX5, "left", "(II)I"⟩
abbrev cX5_laySets : ByteArray := prog_7_method_33_code
def yX5_laySets : MethodName := ⟨RX5, "laySets", "(II)Z"⟩
abbrev cX5_layChoices : ByteArray := prog_7_method_34_code
def yX5_layChoices : MethodName := ⟨RX5, "layChoices", "(I)V"⟩
abbrev cX5_better : ByteArray := prog_7_method_35_code
def yX5_better : MethodName := ⟨RX5, "better", "(II)V"⟩
abbrev cX5_layMakes : ByteArray := prog_7_method_36_code
def yX5_layMakes : MethodName := ⟨RX5, "layMakes", "(I)V"⟩
abbrev cX5_lacks : ByteArray := prog_7_method_37_code
def yX5_lacks : MethodName := ⟨RX5, "lacks", "(II)I"⟩
abbrev cX5_waiting : ByteArray := prog_7_method_38_code
def yX5_waiting : MethodName := ⟨RX5, "waiting", "()I"⟩
abbrev cX5_best : ByteArray := prog_7_method_39_code
def yX5_best : MethodName := ⟨RX5, "best", "()I"⟩
abbrev cX5_bestAt : ByteArray := prog_7_method_40_code
def yX5_bestAt : MethodName := ⟨RX5, "bestAt", "(I)I"⟩
abbrev cX5_mostOf : ByteArray := prog_7_method_41_code
def yX5_mostOf : MethodName := ⟨RX5, "mostOf", "(I)I"⟩
abbrev cX5_worth : ByteArray := prog_7_method_42_code
def yX5_worth : MethodName := ⟨RX5, "worth", "(I)I"⟩
abbrev cX5_makes : ByteArray := prog_7_method_43_code
def yX5_makes : MethodName := ⟨RX5, "makes", "(I)I"⟩
abbrev cX5_bestMakes : ByteArray := prog_7_method_44_code
def yX5_bestMakes : MethodName := ⟨RX5, "bestMakes", "()I"⟩
abbrev cX5_sets : ByteArray := prog_7_method_45_code
def yX5_sets : MethodName := ⟨RX5, "sets", "()I"⟩
abbrev cX5_layFewest : ByteArray := prog_7_method_46_code
def yX5_layFewest : MethodName := ⟨RX5, "layFewest", "()V"⟩
abbrev cX5_crossings : ByteArray := prog_7_method_47_code
def yX5_crossings : MethodName := ⟨RX5, "crossings", "(I)I"⟩
abbrev cX5_all : ByteArray := prog_7_method_48_code
def yX5_all : MethodName := ⟨RX5, "all", "()I"⟩
abbrev cX5_layRule : ByteArray := prog_7_method_49_code
def yX5_layRule : MethodName := ⟨RX5, "layRule", "()V"⟩
abbrev cX5_rule : ByteArray := prog_7_method_50_code
def yX5_rule : MethodName := ⟨RX5, "rule", "()I"⟩
abbrev cX5_ruleAt : ByteArray := prog_7_method_51_code
def yX5_ruleAt : MethodName := ⟨RX5, "ruleAt", "(I)I"⟩
abbrev cX5_claim : ByteArray := prog_7_method_52_code
def yX5_claim : MethodName := ⟨RX5, "claim", "(II)I"⟩
abbrev cX5_allFit : ByteArray := prog_7_method_53_code
def yX5_allFit : MethodName := ⟨RX5, "allFit", "()Z"⟩
abbrev cX5_fits : ByteArray := prog_7_method_54_code
def yX5_fits : MethodName := ⟨RX5, "fits", "()I"⟩
abbrev cX5_mayOf : ByteArray := prog_7_method_55_code
def yX5_mayOf : MethodName := ⟨RX5, "mayOf", "(I)I"⟩
abbrev cX5_liars : ByteArray := prog_7_method_56_code
def yX5_liars : MethodName := ⟨RX5, "liars", "()I"⟩
abbrev cX5_mayWeigh : ByteArray := prog_7_method_57_code
def yX5_mayWeigh : MethodName := ⟨RX5, "mayWeigh", "(I)I"⟩
abbrev cX5_keep : ByteArray := prog_7_method_58_code
def yX5_keep : MethodName := ⟨RX5, "keep", "(I)I"⟩
abbrev cX5_again : ByteArray := prog_7_method_59_code
def yX5_again : MethodName := ⟨RX5, "again", "(I)I"⟩
abbrev cX5_count : ByteArray := prog_7_method_60_code
def yX5_count : MethodName := ⟨RX5, "count", "(I)I"⟩
def RJ6 : String := "java/lang/Integer"
def TJ6 : u_T := fun k => match k with
  | _ => ("", "", "", false)
def tyJ6 : Nat → FieldType := fun k => match k with
  | _ => .int
theorem nmJ6 : ∀ a, a < 0 → ∀ b, b < 0 → a ≠ b → (TJ6 a).2.1 ≠ (TJ6 b).2.1 := by decide +kernel
theorem tyJ6_ok : ∀ k, k < 0 → parseFieldDescriptor (TJ6 k).2.2.1 = some (tyJ6 k) := by decide +kernel
abbrev cJ6_bitCount_0f7a4 : ByteArray := prog_8_method_49_code
def yJ6_bitCount_0f7a4 : MethodName := ⟨RJ6, "bitCount", "(I)I"⟩
def RJ9 : String := "java/lang/Math"
def TJ9 : u_T := fun k => match k with
  | _ => ("", "", "", false)
def tyJ9 : Nat → FieldType := fun k => match k with
  | _ => .int
theorem nmJ9 : ∀ a, a < 0 → ∀ b, b < 0 → a ≠ b → (TJ9 a).2.1 ≠ (TJ9 b).2.1 := by decide +kernel
theorem tyJ9_ok : ∀ k, k < 0 → parseFieldDescriptor (TJ9 k).2.2.1 = some (tyJ9 k) := by decide +kernel
abbrev cJ9_max_7cf53 : ByteArray := prog_9_method_65_code
def yJ9_max_7cf53 : MethodName := ⟨RJ9, "max", "(II)I"⟩
abbrev cJ9_min_7cf53 : ByteArray := prog_9_method_69_code
def yJ9_min_7cf53 : MethodName := ⟨RJ9, "min", "(II)I"⟩
def RL : String := "FerriesLevelLaw"
abbrev cL_law : ByteArray := code
def yL_law : MethodName := ⟨RL, "law", "([I)Z"⟩
abbrev vwCl : List vw_C := [(RX0, TX0, 9), (RX1, TX1, 6), (RX2, TX2, 17), (RX3, TX3, 2), (RX4, TX4, 6), (RX5, TX5, 29)]
/-- the words that every contract takes -/
def wG : List Cond := lw_tbl.filter goodWord
theorem wg_of {w : Cond} (h : w ∈ tables_1) (g : goodWord w = true) : w ∈ wG := List.mem_filter.mpr ⟨List.mem_append_right _ h, g⟩
theorem wg_1 {w : Cond} (i : Nat) (h : tables_1_1[i]? = some w) (g : goodWord w = true) : w ∈ wG := wg_of (List.mem_append_left _ (List.mem_of_getElem? h)) g
theorem wg_2 {w : Cond} (i : Nat) (h : tables_1_2[i]? = some w) (g : goodWord w = true) : w ∈ wG := wg_of (List.mem_append_right _ (List.mem_append_left _ (List.mem_of_getElem? h))) g
theorem wg_3 {w : Cond} (i : Nat) (h : tables_1_3[i]? = some w) (g : goodWord w = true) : w ∈ wG := wg_of (List.mem_append_right _ (List.mem_append_right _ (List.mem_append_left _ (List.mem_of_getElem? h)))) g
theorem wg_4 {w : Cond} (i : Nat) (h : tables_1_4[i]? = some w) (g : goodWord w = true) : w ∈ wG := wg_of (List.mem_append_right _ (List.mem_append_right _ (List.mem_append_right _ (List.mem_of_getElem? h)))) g
theorem wg_p {q : MethodName × Nat} (h : q ∈ lw_privs) (g : goodWord (Cond.selects q.1.cls q.1 q.1) = true) : Cond.selects q.1.cls q.1 q.1 ∈ wG := List.mem_filter.mpr ⟨List.mem_append_left _ (List.mem_map.mpr ⟨q, h, rfl⟩), g⟩
theorem wp_1 {q : MethodName × Nat} (i : Nat) (h : lw_privs_1[i]? = some q) : q ∈ lw_privs := List.mem_append_left _ (List.mem_of_getElem? h)
theorem wp_2 {q : MethodName × Nat} (i : Nat) (h : lw_privs_2[i]? = some q) : q ∈ lw_privs := List.mem_append_right _ (List.mem_append_left _ (List.mem_of_getElem? h))
theorem wp_3 {q : MethodName × Nat} (i : Nat) (h : lw_privs_3[i]? = some q) : q ∈ lw_privs := List.mem_append_right _ (List.mem_append_right _ (List.mem_of_getElem? h))
theorem m_ini_L : Cond.initialized RL ∈ wG := wg_1 0 rfl rfl
theorem m_ini_X4 : Cond.initialized RX4 ∈ wG := wg_1 1 rfl rfl
theorem m_ini_X3 : Cond.initialized RX3 ∈ wG := wg_1 2 rfl rfl
theorem m_ini_X0 : Cond.initialized RX0 ∈ wG := wg_1 3 rfl rfl
theorem m_ini_X1 : Cond.initialized RX1 ∈ wG := wg_1 4 rfl rfl
theorem m_ini_X2 : Cond.initialized RX2 ∈ wG := wg_1 5 rfl rfl
theorem m_ini_X5 : Cond.initialized RX5 ∈ wG := wg_1 6 rfl rfl
theorem m_ini_J9 : Cond.initialized RJ9 ∈ wG := wg_1 7 rfl rfl
theorem m_ini_J6 : Cond.initialized RJ6 ∈ wG := wg_1 8 rfl rfl
theorem m_k_L_7 : Cond.classLink RL 7 RX4 ∈ wG := wg_1 9 rfl rfl
theorem m_new_X4 : Cond.instantiable RX4 6 ∈ wG := wg_1 10 rfl rfl
theorem m_l_L_9 : Cond.methodLink RL 9 yX4_init ∈ wG := wg_1 11 rfl rfl
theorem m_inst_X4_init : Cond.instanceMethod yX4_init ∈ wG := wg_1 12 rfl rfl
theorem m_code_X4_init : Cond.code yX4_init cX4_init 1 none ∈ wG := wg_1 13 rfl rfl
theorem m_l_X4_1 : Cond.methodLink RX4 1 objectInit ∈ wG := wg_1 14 rfl rfl
theorem m_inst_objectInit : Cond.instanceMethod objectInit ∈ wG := wg_1 15 rfl rfl
theorem m_code_objectInit : Cond.code objectInit ⟨#[0xb1]⟩ 1 none ∈ wG := wg_1 16 rfl rfl
theorem m_k_X4_7 : Cond.classLink RX4 7 RX3 ∈ wG := wg_1 17 rfl rfl
theorem m_new_X3 : Cond.instantiable RX3 2 ∈ wG := wg_1 18 rfl rfl
theorem m_inst_X3_init : Cond.instanceMethod yX3_init ∈ wG := wg_1 20 rfl rfl
theorem m_code_X3_init : Cond.code yX3_init cX3_init 1 none ∈ wG := wg_1 21 rfl rfl
theorem m_l_X3_3 : Cond.methodLink RX3 3 objectInit ∈ wG := wg_1 22 rfl rfl
theorem m_f_X3_9 : Cond.fieldLink RX3 9 "FerriesLevel$Script" "bytes" "[I" ∈ wG := wg_1 23 rfl rfl
theorem m_f_X3_15 : Cond.fieldLink RX3 15 "FerriesLevel$Script" "length" "I" ∈ wG := wg_1 24 rfl rfl
theorem m_f_X4_43 : Cond.fieldLink RX4 43 "FerriesLevel$Script" "length" "I" ∈ wG := wg_1 25 rfl rfl
theorem m_f_X0_46 : Cond.fieldLink RX0 46 "FerriesLevel$Script" "length" "I" ∈ wG := wg_1 26 rfl rfl
theorem m_lay_X3_0 : u_lay RX3 TX3 0 ∈ wG := wg_1 27 rfl rfl
theorem m_lay_X3_1 : u_lay RX3 TX3 1 ∈ wG := wg_1 29 rfl rfl
theorem m_arr_int : Cond.arrayClass .int ∈ wG := wg_1 32 rfl rfl
theorem m_k_X4_16 : Cond.classLink RX4 16 RX0 ∈ wG := wg_1 33 rfl rfl
theorem m_new_X0 : Cond.instantiable RX0 9 ∈ wG := wg_1 34 rfl rfl
theorem m_inst_X0_init : Cond.instanceMethod yX0_init ∈ wG := wg_1 36 rfl rfl
theorem m_code_X0_init : Cond.code yX0_init cX0_init 1 none ∈ wG := wg_1 37 rfl rfl
theorem m_l_X0_3 : Cond.methodLink RX0 3 objectInit ∈ wG := wg_1 38 rfl rfl
theorem m_f_X0_9 : Cond.fieldLink RX0 9 "FerriesLevel$Craft" "ends" "I" ∈ wG := wg_1 39 rfl rfl
theorem m_f_X4_73 : Cond.fieldLink RX4 73 "FerriesLevel$Craft" "ends" "I" ∈ wG := wg_1 40 rfl rfl
theorem m_f_X2_100 : Cond.fieldLink RX2 100 "FerriesLevel$Craft" "ends" "I" ∈ wG := wg_1 41 rfl rfl
theorem m_f_X0_15 : Cond.fieldLink RX0 15 "FerriesLevel$Craft" "armA" "I" ∈ wG := wg_1 42 rfl rfl
theorem m_f_X4_76 : Cond.fieldLink RX4 76 "FerriesLevel$Craft" "armA" "I" ∈ wG := wg_1 43 rfl rfl
theorem m_f_X0_18 : Cond.fieldLink RX0 18 "FerriesLevel$Craft" "armB" "I" ∈ wG := wg_1 44 rfl rfl
theorem m_f_X4_79 : Cond.fieldLink RX4 79 "FerriesLevel$Craft" "armB" "I" ∈ wG := wg_1 45 rfl rfl
theorem m_f_X0_21 : Cond.fieldLink RX0 21 "FerriesLevel$Craft" "seats" "I" ∈ wG := wg_1 46 rfl rfl
theorem m_f_X4_82 : Cond.fieldLink RX4 82 "FerriesLevel$Craft" "seats" "I" ∈ wG := wg_1 47 rfl rfl
theorem m_f_X2_103 : Cond.fieldLink RX2 103 "FerriesLevel$Craft" "seats" "I" ∈ wG := wg_1 48 rfl rfl
theorem m_f_X0_24 : Cond.fieldLink RX0 24 "FerriesLevel$Craft" "list" "I" ∈ wG := wg_1 49 rfl rfl
theorem m_f_X4_85 : Cond.fieldLink RX4 85 "FerriesLevel$Craft" "list" "I" ∈ wG := wg_1 50 rfl rfl
theorem m_f_X2_115 : Cond.fieldLink RX2 115 "FerriesLevel$Craft" "list" "I" ∈ wG := wg_1 51 rfl rfl
theorem m_f_X0_27 : Cond.fieldLink RX0 27 "FerriesLevel$Craft" "people" "I" ∈ wG := wg_1 52 rfl rfl
theorem m_f_X4_70 : Cond.fieldLink RX4 70 "FerriesLevel$Craft" "people" "I" ∈ wG := wg_1 53 rfl rfl
theorem m_f_X2_104 : Cond.fieldLink RX2 104 "FerriesLevel$Craft" "people" "I" ∈ wG := wg_1 54 rfl rfl
theorem m_f_X0_30 : Cond.fieldLink RX0 30 "FerriesLevel$Craft" "weight" "[I" ∈ wG := wg_1 55 rfl rfl
theorem m_f_X1_32 : Cond.fieldLink RX1 32 "FerriesLevel$Craft" "weight" "[I" ∈ wG := wg_1 56 rfl rfl
theorem m_f_X4_95 : Cond.fieldLink RX4 95 "FerriesLevel$Craft" "weight" "[I" ∈ wG := wg_1 57 rfl rfl
theorem m_f_X2_123 : Cond.fieldLink RX2 123 "FerriesLevel$Craft" "weight" "[I" ∈ wG := wg_1 58 rfl rfl
theorem m_f_X0_34 : Cond.fieldLink RX0 34 "FerriesLevel$Craft" "fare" "[I" ∈ wG := wg_1 59 rfl rfl
theorem m_f_X4_99 : Cond.fieldLink RX4 99 "FerriesLevel$Craft" "fare" "[I" ∈ wG := wg_1 60 rfl rfl
theorem m_f_X2_137 : Cond.fieldLink RX2 137 "FerriesLevel$Craft" "fare" "[I" ∈ wG := wg_1 61 rfl rfl
theorem m_f_X0_37 : Cond.fieldLink RX0 37 "FerriesLevel$Craft" "wish" "[I" ∈ wG := wg_1 62 rfl rfl
theorem m_f_X4_102 : Cond.fieldLink RX4 102 "FerriesLevel$Craft" "wish" "[I" ∈ wG := wg_1 63 rfl rfl
theorem m_lay_X0_0 : u_lay RX0 TX0 0 ∈ wG := wg_1 64 rfl rfl
theorem m_lay_X0_1 : u_lay RX0 TX0 1 ∈ wG := wg_1 66 rfl rfl
theorem m_lay_X0_2 : u_lay RX0 TX0 2 ∈ wG := wg_1 68 rfl rfl
theorem m_lay_X0_3 : u_lay RX0 TX0 3 ∈ wG := wg_1 70 rfl rfl
theorem m_lay_X0_4 : u_lay RX0 TX0 4 ∈ wG := wg_1 72 rfl rfl
theorem m_lay_X0_5 : u_lay RX0 TX0 5 ∈ wG := wg_1 74 rfl rfl
theorem m_lay_X0_6 : u_lay RX0 TX0 6 ∈ wG := wg_1 76 rfl rfl
theorem m_lay_X0_7 : u_lay RX0 TX0 7 ∈ wG := wg_1 78 rfl rfl
theorem m_lay_X0_8 : u_lay RX0 TX0 8 ∈ wG := wg_1 80 rfl rfl
theorem m_k_X4_23 : Cond.classLink RX4 23 RX1 ∈ wG := wg_1 83 rfl rfl
theorem m_new_X1 : Cond.instantiable RX1 6 ∈ wG := wg_1 84 rfl rfl
theorem m_inst_X1_init : Cond.instanceMethod yX1_init ∈ wG := wg_1 86 rfl rfl
theorem m_code_X1_init : Cond.code yX1_init cX1_init 1 none ∈ wG := wg_1 87 rfl rfl
theorem m_l_X1_3 : Cond.methodLink RX1 3 objectInit ∈ wG := wg_1 88 rfl rfl
theorem m_f_X1_9 : Cond.fieldLink RX1 9 "FerriesLevel$Log" "crews" "[I" ∈ wG := wg_1 89 rfl rfl
theorem m_f_X1_15 : Cond.fieldLink RX1 15 "FerriesLevel$Log" "gains" "[I" ∈ wG := wg_1 90 rfl rfl
theorem m_f_X4_105 : Cond.fieldLink RX4 105 "FerriesLevel$Log" "gains" "[I" ∈ wG := wg_1 91 rfl rfl
theorem m_f_X0_76 : Cond.fieldLink RX0 76 "FerriesLevel$Log" "gains" "[I" ∈ wG := wg_1 92 rfl rfl
theorem m_f_X2_126 : Cond.fieldLink RX2 126 "FerriesLevel$Log" "gains" "[I" ∈ wG := wg_1 93 rfl rfl
theorem m_f_X1_18 : Cond.fieldLink RX1 18 "FerriesLevel$Log" "claims" "[I" ∈ wG := wg_1 94 rfl rfl
theorem m_f_X4_108 : Cond.fieldLink RX4 108 "FerriesLevel$Log" "claims" "[I" ∈ wG := wg_1 95 rfl rfl
theorem m_f_X1_21 : Cond.fieldLink RX1 21 "FerriesLevel$Log" "boats" "I" ∈ wG := wg_1 96 rfl rfl
theorem m_f_X4_163 : Cond.fieldLink RX4 163 "FerriesLevel$Log" "boats" "I" ∈ wG := wg_1 97 rfl rfl
theorem m_f_X1_25 : Cond.fieldLink RX1 25 "FerriesLevel$Log" "minutes" "I" ∈ wG := wg_1 98 rfl rfl
theorem m_f_X4_88 : Cond.fieldLink RX4 88 "FerriesLevel$Log" "minutes" "I" ∈ wG := wg_1 99 rfl rfl
theorem m_f_X0_85 : Cond.fieldLink RX0 85 "FerriesLevel$Log" "minutes" "I" ∈ wG := wg_1 100 rfl rfl
theorem m_f_X2_129 : Cond.fieldLink RX2 129 "FerriesLevel$Log" "minutes" "I" ∈ wG := wg_1 101 rfl rfl
theorem m_f_X1_28 : Cond.fieldLink RX1 28 "FerriesLevel$Log" "filled" "Z" ∈ wG := wg_1 102 rfl rfl
theorem m_f_X4_63 : Cond.fieldLink RX4 63 "FerriesLevel$Log" "filled" "Z" ∈ wG := wg_1 103 rfl rfl
theorem m_lay_X1_0 : u_lay RX1 TX1 0 ∈ wG := wg_1 104 rfl rfl
theorem m_lay_X1_1 : u_lay RX1 TX1 1 ∈ wG := wg_1 106 rfl rfl
theorem m_lay_X1_2 : u_lay RX1 TX1 2 ∈ wG := wg_1 108 rfl rfl
theorem m_lay_X1_3 : u_lay RX1 TX1 3 ∈ wG := wg_1 110 rfl rfl
theorem m_lay_X1_4 : u_lay RX1 TX1 4 ∈ wG := wg_1 112 rfl rfl
theorem m_lay_X1_5 : u_lay RX1 TX1 5 ∈ wG := wg_1 114 rfl rfl
theorem m_k_X4_36 : Cond.classLink RX4 36 RX2 ∈ wG := wg_1 117 rfl rfl
theorem m_new_X2 : Cond.instantiable RX2 17 ∈ wG := wg_1 118 rfl rfl
theorem m_inst_X2_init : Cond.instanceMethod yX2_init ∈ wG := wg_1 120 rfl rfl
theorem m_code_X2_init : Cond.code yX2_init cX2_init 1 none ∈ wG := wg_1 121 rfl rfl
theorem m_l_X2_3 : Cond.methodLink RX2 3 objectInit ∈ wG := wg_1 122 rfl rfl
theorem m_f_X2_11 : Cond.fieldLink RX2 11 "FerriesLevel$Planner" "load" "[I" ∈ wG := wg_1 123 rfl rfl
theorem m_f_X2_15 : Cond.fieldLink RX2 15 "FerriesLevel$Planner" "fares" "[I" ∈ wG := wg_1 124 rfl rfl
theorem m_f_X2_18 : Cond.fieldLink RX2 18 "FerriesLevel$Planner" "heads" "[I" ∈ wG := wg_1 125 rfl rfl
theorem m_f_X2_21 : Cond.fieldLink RX2 21 "FerriesLevel$Planner" "fewest" "[I" ∈ wG := wg_1 126 rfl rfl
theorem m_f_X2_24 : Cond.fieldLink RX2 24 "FerriesLevel$Planner" "faresMade" "[I" ∈ wG := wg_1 127 rfl rfl
theorem m_f_X2_27 : Cond.fieldLink RX2 27 "FerriesLevel$Planner" "willing" "[I" ∈ wG := wg_1 128 rfl rfl
theorem m_f_X2_30 : Cond.fieldLink RX2 30 "FerriesLevel$Planner" "arm" "[I" ∈ wG := wg_1 129 rfl rfl
theorem m_f_X2_33 : Cond.fieldLink RX2 33 "FerriesLevel$Planner" "emptyPull" "[I" ∈ wG := wg_1 130 rfl rfl
theorem m_f_X2_36 : Cond.fieldLink RX2 36 "FerriesLevel$Planner" "ends" "I" ∈ wG := wg_1 131 rfl rfl
theorem m_f_X2_40 : Cond.fieldLink RX2 40 "FerriesLevel$Planner" "seats" "I" ∈ wG := wg_1 132 rfl rfl
theorem m_f_X2_43 : Cond.fieldLink RX2 43 "FerriesLevel$Planner" "size" "I" ∈ wG := wg_1 133 rfl rfl
theorem m_f_X2_46 : Cond.fieldLink RX2 46 "FerriesLevel$Planner" "waiting" "I" ∈ wG := wg_1 134 rfl rfl
theorem m_f_X2_49 : Cond.fieldLink RX2 49 "FerriesLevel$Planner" "bestScore" "I" ∈ wG := wg_1 135 rfl rfl
theorem m_f_X2_52 : Cond.fieldLink RX2 52 "FerriesLevel$Planner" "bestCrew" "I" ∈ wG := wg_1 136 rfl rfl
theorem m_f_X4_192 : Cond.fieldLink RX4 192 "FerriesLevel$Planner" "bestCrew" "I" ∈ wG := wg_1 137 rfl rfl
theorem m_f_X2_55 : Cond.fieldLink RX2 55 "FerriesLevel$Planner" "choicesFound" "Z" ∈ wG := wg_1 138 rfl rfl
theorem m_f_X2_59 : Cond.fieldLink RX2 59 "FerriesLevel$Planner" "chainsFound" "Z" ∈ wG := wg_1 139 rfl rfl
theorem m_f_X2_62 : Cond.fieldLink RX2 62 "FerriesLevel$Planner" "makeWeightsFound" "Z" ∈ wG := wg_1 140 rfl rfl
theorem m_lay_X2_0 : u_lay RX2 TX2 0 ∈ wG := wg_1 141 rfl rfl
theorem m_lay_X2_1 : u_lay RX2 TX2 1 ∈ wG := wg_1 143 rfl rfl
theorem m_lay_X2_2 : u_lay RX2 TX2 2 ∈ wG := wg_1 145 rfl rfl
theorem m_lay_X2_3 : u_lay RX2 TX2 3 ∈ wG := wg_1 147 rfl rfl
theorem m_lay_X2_4 : u_lay RX2 TX2 4 ∈ wG := wg_1 149 rfl rfl
theorem m_lay_X2_5 : u_lay RX2 TX2 5 ∈ wG := wg_1 151 rfl rfl
theorem m_lay_X2_6 : u_lay RX2 TX2 6 ∈ wG := wg_1 153 rfl rfl
theorem m_lay_X2_7 : u_lay RX2 TX2 7 ∈ wG := wg_1 155 rfl rfl
theorem m_lay_X2_8 : u_lay RX2 TX2 8 ∈ wG := wg_1 157 rfl rfl
theorem m_lay_X2_9 : u_lay RX2 TX2 9 ∈ wG := wg_1 159 rfl rfl
theorem m_lay_X2_10 : u_lay RX2 TX2 10 ∈ wG := wg_1 161 rfl rfl
theorem m_lay_X2_11 : u_lay RX2 TX2 11 ∈ wG := wg_1 163 rfl rfl
theorem m_lay_X2_12 : u_lay RX2 TX2 12 ∈ wG := wg_1 165 rfl rfl
theorem m_lay_X2_13 : u_lay RX2 TX2 13 ∈ wG := wg_1 167 rfl rfl
theorem m_lay_X2_14 : u_lay RX2 TX2 14 ∈ wG := wg_1 169 rfl rfl
theorem m_lay_X2_15 : u_lay RX2 TX2 15 ∈ wG := wg_1 171 rfl rfl
theorem m_lay_X2_16 : u_lay RX2 TX2 16 ∈ wG := wg_1 173 rfl rfl
theorem m_f_X4_10 : Cond.fieldLink RX4 10 "FerriesLevel" "script" "LFerriesLevel$Script;" ∈ wG := wg_1 176 rfl rfl
theorem m_f_X4_19 : Cond.fieldLink RX4 19 "FerriesLevel" "craft" "LFerriesLevel$Craft;" ∈ wG := wg_1 177 rfl rfl
theorem m_f_X4_26 : Cond.fieldLink RX4 26 "FerriesLevel" "log" "LFerriesLevel$Log;" ∈ wG := wg_1 178 rfl rfl
theorem m_f_X4_30 : Cond.fieldLink RX4 30 "FerriesLevel" "slotZero" "LFerriesLevel$Log;" ∈ wG := wg_1 179 rfl rfl
theorem m_f_X4_33 : Cond.fieldLink RX4 33 "FerriesLevel" "slotOne" "LFerriesLevel$Log;" ∈ wG := wg_1 180 rfl rfl
theorem m_f_X4_39 : Cond.fieldLink RX4 39 "FerriesLevel" "planner" "LFerriesLevel$Planner;" ∈ wG := wg_1 181 rfl rfl
theorem m_lay_X4_0 : u_lay RX4 TX4 0 ∈ wG := wg_1 182 rfl rfl
theorem m_lay_X4_1 : u_lay RX4 TX4 1 ∈ wG := wg_1 184 rfl rfl
theorem m_lay_X4_2 : u_lay RX4 TX4 2 ∈ wG := wg_1 186 rfl rfl
theorem m_lay_X4_3 : u_lay RX4 TX4 3 ∈ wG := wg_1 188 rfl rfl
theorem m_lay_X4_4 : u_lay RX4 TX4 4 ∈ wG := wg_1 190 rfl rfl
theorem m_lay_X4_5 : u_lay RX4 TX4 5 ∈ wG := wg_1 192 rfl rfl
theorem m_l_L_15 : Cond.methodLink RL 15 yX4_write ∈ wG := wg_1 195 rfl rfl
theorem m_inst_X4_write : Cond.instanceMethod yX4_write ∈ wG := wg_1 196 rfl rfl
theorem m_sel_X4_write : Cond.selects RX4 yX4_write yX4_write ∈ wG := wg_1 197 rfl rfl
theorem m_code_X4_write : Cond.code yX4_write cX4_write 4 (some .int) ∈ wG := wg_1 198 rfl rfl
theorem m_l_X4_47 : Cond.methodLink RX4 47 yX3_append ∈ wG := wg_1 199 rfl rfl
theorem m_inst_X3_append : Cond.instanceMethod yX3_append ∈ wG := wg_1 200 rfl rfl
theorem m_sel_X3_append : Cond.selects RX3 yX3_append yX3_append ∈ wG := wg_1 201 rfl rfl
theorem m_code_X3_append : Cond.code yX3_append cX3_append 5 none ∈ wG := wg_1 202 rfl rfl
theorem m_l_L_20 : Cond.methodLink RL 20 yX4_wipe ∈ wG := wg_1 203 rfl rfl
theorem m_inst_X4_wipe : Cond.instanceMethod yX4_wipe ∈ wG := wg_1 204 rfl rfl
theorem m_sel_X4_wipe : Cond.selects RX4 yX4_wipe yX4_wipe ∈ wG := wg_1 205 rfl rfl
theorem m_code_X4_wipe : Cond.code yX4_wipe cX4_wipe 2 (some .int) ∈ wG := wg_1 206 rfl rfl
theorem m_l_L_25 : Cond.methodLink RL 25 yX4_fault ∈ wG := wg_1 207 rfl rfl
theorem m_inst_X4_fault : Cond.instanceMethod yX4_fault ∈ wG := wg_1 208 rfl rfl
theorem m_sel_X4_fault : Cond.selects RX4 yX4_fault yX4_fault ∈ wG := wg_1 209 rfl rfl
theorem m_code_X4_fault : Cond.code yX4_fault cX4_fault 1 (some .int) ∈ wG := wg_1 210 rfl rfl
theorem m_l_X4_51 : Cond.methodLink RX4 51 yX3_firstFault ∈ wG := wg_1 211 rfl rfl
theorem m_inst_X3_firstFault : Cond.instanceMethod yX3_firstFault ∈ wG := wg_1 212 rfl rfl
theorem m_sel_X3_firstFault : Cond.selects RX3 yX3_firstFault yX3_firstFault ∈ wG := wg_1 213 rfl rfl
theorem m_code_X3_firstFault : Cond.code yX3_firstFault cX3_firstFault 2 (some .int) ∈ wG := wg_1 214 rfl rfl
theorem m_l_X3_19 : Cond.methodLink RX3 19 yX3_mayStand ∈ wG := wg_1 215 rfl rfl
theorem m_inst_X3_mayStand : Cond.instanceMethod yX3_mayStand ∈ wG := wg_1 217 rfl rfl
theorem m_code_X3_mayStand : Cond.code yX3_mayStand cX3_mayStand 2 (some .boolean) ∈ wG := wg_1 218 rfl rfl
theorem m_l_X3_23 : Cond.methodLink RX3 23 yX3_mayStandInPerson ∈ wG := wg_1 219 rfl rfl
theorem m_inst_X3_mayStandInPerson : Cond.instanceMethod yX3_mayStandInPerson ∈ wG := wg_1 221 rfl rfl
theorem m_code_X3_mayStandInPerson : Cond.code yX3_mayStandInPerson cX3_mayStandInPerson 2 (some .boolean) ∈ wG := wg_1 222 rfl rfl
theorem m_l_X3_26 : Cond.methodLink RX3 26 yX3_byteAt ∈ wG := wg_1 223 rfl rfl
theorem m_inst_X3_byteAt : Cond.instanceMethod yX3_byteAt ∈ wG := wg_1 225 rfl rfl
theorem m_code_X3_byteAt : Cond.code yX3_byteAt cX3_byteAt 2 (some .int) ∈ wG := wg_1 226 rfl rfl
theorem m_l_X3_34 : Cond.methodLink RX3 34 yX3_figure ∈ wG := wg_1 227 rfl rfl
theorem m_inst_X3_figure : Cond.instanceMethod yX3_figure ∈ wG := wg_1 228 rfl rfl
theorem m_sel_X3_figure : Cond.selects RX3 yX3_figure yX3_figure ∈ wG := wg_1 229 rfl rfl
theorem m_code_X3_figure : Cond.code yX3_figure cX3_figure 2 (some .int) ∈ wG := wg_1 230 rfl rfl
theorem m_l_X3_30 : Cond.methodLink RX3 30 yX3_isFigure ∈ wG := wg_1 231 rfl rfl
theorem m_inst_X3_isFigure : Cond.instanceMethod yX3_isFigure ∈ wG := wg_1 233 rfl rfl
theorem m_code_X3_isFigure : Cond.code yX3_isFigure cX3_isFigure 4 (some .boolean) ∈ wG := wg_1 234 rfl rfl
theorem m_l_L_29 : Cond.methodLink RL 29 yX4_ferry ∈ wG := wg_1 235 rfl rfl
theorem m_inst_X4_ferry : Cond.instanceMethod yX4_ferry ∈ wG := wg_1 236 rfl rfl
theorem m_sel_X4_ferry : Cond.selects RX4 yX4_ferry yX4_ferry ∈ wG := wg_1 237 rfl rfl
theorem m_code_X4_ferry : Cond.code yX4_ferry cX4_ferry 1 (some .int) ∈ wG := wg_1 238 rfl rfl
theorem m_l_X4_55 : Cond.methodLink RX4 55 yX0_readFrom ∈ wG := wg_1 239 rfl rfl
theorem m_inst_X0_readFrom : Cond.instanceMethod yX0_readFrom ∈ wG := wg_2 0 rfl rfl
theorem m_sel_X0_readFrom : Cond.selects RX0 yX0_readFrom yX0_readFrom ∈ wG := wg_2 1 rfl rfl
theorem m_code_X0_readFrom : Cond.code yX0_readFrom cX0_readFrom 4 none ∈ wG := wg_2 2 rfl rfl
theorem m_l_X0_40 : Cond.methodLink RX0 40 yX3_figure ∈ wG := wg_2 3 rfl rfl
theorem m_l_X0_49 : Cond.methodLink RX0 49 Lib.Math.min.name ∈ wG := wg_2 4 rfl rfl
theorem m_stat_J9_min_7cf53 : Cond.static Lib.Math.min.name ∈ wG := wg_2 5 rfl rfl
theorem m_code_J9_min_7cf53 : Cond.code Lib.Math.min.name Lib.Math.min.code 2 (some .int) ∈ wG := wg_2 6 rfl rfl
theorem m_l_X4_59 : Cond.methodLink RX4 59 yX1_startAnew ∈ wG := wg_2 7 rfl rfl
theorem m_inst_X1_startAnew : Cond.instanceMethod yX1_startAnew ∈ wG := wg_2 8 rfl rfl
theorem m_sel_X1_startAnew : Cond.selects RX1 yX1_startAnew yX1_startAnew ∈ wG := wg_2 9 rfl rfl
theorem m_code_X1_startAnew : Cond.code yX1_startAnew cX1_startAnew 3 none ∈ wG := wg_2 10 rfl rfl
theorem m_l_X4_67 : Cond.methodLink RX4 67 yX2_forget ∈ wG := wg_2 11 rfl rfl
theorem m_inst_X2_forget : Cond.instanceMethod yX2_forget ∈ wG := wg_2 12 rfl rfl
theorem m_sel_X2_forget : Cond.selects RX2 yX2_forget yX2_forget ∈ wG := wg_2 13 rfl rfl
theorem m_code_X2_forget : Cond.code yX2_forget cX2_forget 1 none ∈ wG := wg_2 14 rfl rfl
theorem m_l_L_33 : Cond.methodLink RL 33 yX4_boat ∈ wG := wg_2 15 rfl rfl
theorem m_inst_X4_boat : Cond.instanceMethod yX4_boat ∈ wG := wg_2 16 rfl rfl
theorem m_sel_X4_boat : Cond.selects RX4 yX4_boat yX4_boat ∈ wG := wg_2 17 rfl rfl
theorem m_code_X4_boat : Cond.code yX4_boat cX4_boat 2 (some .int) ∈ wG := wg_2 18 rfl rfl
theorem m_l_L_38 : Cond.methodLink RL 38 yX4_person ∈ wG := wg_2 19 rfl rfl
theorem m_inst_X4_person : Cond.instanceMethod yX4_person ∈ wG := wg_2 20 rfl rfl
theorem m_sel_X4_person : Cond.selects RX4 yX4_person yX4_person ∈ wG := wg_2 21 rfl rfl
theorem m_code_X4_person : Cond.code yX4_person cX4_person 3 (some .int) ∈ wG := wg_2 22 rfl rfl
theorem m_l_X4_91 : Cond.methodLink RX4 91 yX0_hasPerson ∈ wG := wg_2 23 rfl rfl
theorem m_inst_X0_hasPerson : Cond.instanceMethod yX0_hasPerson ∈ wG := wg_2 24 rfl rfl
theorem m_sel_X0_hasPerson : Cond.selects RX0 yX0_hasPerson yX0_hasPerson ∈ wG := wg_2 25 rfl rfl
theorem m_code_X0_hasPerson : Cond.code yX0_hasPerson cX0_hasPerson 2 (some .boolean) ∈ wG := wg_2 26 rfl rfl
theorem m_l_X4_111 : Cond.methodLink RX4 111 yX1_placeOf ∈ wG := wg_2 27 rfl rfl
theorem m_inst_X1_placeOf : Cond.instanceMethod yX1_placeOf ∈ wG := wg_2 28 rfl rfl
theorem m_sel_X1_placeOf : Cond.selects RX1 yX1_placeOf yX1_placeOf ∈ wG := wg_2 29 rfl rfl
theorem m_code_X1_placeOf : Cond.code yX1_placeOf cX1_placeOf 3 (some .int) ∈ wG := wg_2 30 rfl rfl
theorem m_l_X1_52 : Cond.methodLink RX1 52 yX1_boatOf ∈ wG := wg_2 31 rfl rfl
theorem m_inst_X1_boatOf : Cond.instanceMethod yX1_boatOf ∈ wG := wg_2 32 rfl rfl
theorem m_sel_X1_boatOf : Cond.selects RX1 yX1_boatOf yX1_boatOf ∈ wG := wg_2 33 rfl rfl
theorem m_code_X1_boatOf : Cond.code yX1_boatOf cX1_boatOf 3 (some .int) ∈ wG := wg_2 34 rfl rfl
theorem m_l_X1_37 : Cond.methodLink RX1 37 yX1_crewOf ∈ wG := wg_2 35 rfl rfl
theorem m_inst_X1_crewOf : Cond.instanceMethod yX1_crewOf ∈ wG := wg_2 36 rfl rfl
theorem m_sel_X1_crewOf : Cond.selects RX1 yX1_crewOf yX1_crewOf ∈ wG := wg_2 37 rfl rfl
theorem m_code_X1_crewOf : Cond.code yX1_crewOf cX1_crewOf 2 (some .int) ∈ wG := wg_2 38 rfl rfl
theorem m_stat_X4_endOf : Cond.static yX4_endOf ∈ wG := wg_2 40 rfl rfl
theorem m_code_X4_endOf : Cond.code yX4_endOf cX4_endOf 3 (some .int) ∈ wG := wg_2 41 rfl rfl
theorem m_l_X4_128 : Cond.methodLink RX4 128 yX4_sitters ∈ wG := wg_2 42 rfl rfl
theorem m_stat_X4_sitters : Cond.static yX4_sitters ∈ wG := wg_2 43 rfl rfl
theorem m_code_X4_sitters : Cond.code yX4_sitters cX4_sitters 2 (some .int) ∈ wG := wg_2 44 rfl rfl
theorem m_l_X1_55 : Cond.methodLink RX1 55 yX1_laid ∈ wG := wg_2 45 rfl rfl
theorem m_inst_X1_laid : Cond.instanceMethod yX1_laid ∈ wG := wg_2 46 rfl rfl
theorem m_sel_X1_laid : Cond.selects RX1 yX1_laid yX1_laid ∈ wG := wg_2 47 rfl rfl
theorem m_code_X1_laid : Cond.code yX1_laid cX1_laid 1 (some .int) ∈ wG := wg_2 48 rfl rfl
theorem m_l_L_43 : Cond.methodLink RL 43 yX4_gain ∈ wG := wg_2 49 rfl rfl
theorem m_inst_X4_gain : Cond.instanceMethod yX4_gain ∈ wG := wg_2 50 rfl rfl
theorem m_sel_X4_gain : Cond.selects RX4 yX4_gain yX4_gain ∈ wG := wg_2 51 rfl rfl
theorem m_code_X4_gain : Cond.code yX4_gain cX4_gain 4 (some .int) ∈ wG := wg_2 52 rfl rfl
theorem m_l_L_47 : Cond.methodLink RL 47 yX4_minutes ∈ wG := wg_2 53 rfl rfl
theorem m_inst_X4_minutes : Cond.instanceMethod yX4_minutes ∈ wG := wg_2 54 rfl rfl
theorem m_sel_X4_minutes : Cond.selects RX4 yX4_minutes yX4_minutes ∈ wG := wg_2 55 rfl rfl
theorem m_code_X4_minutes : Cond.code yX4_minutes cX4_minutes 3 (some .int) ∈ wG := wg_2 56 rfl rfl
theorem m_l_X4_115 : Cond.methodLink RX4 115 yX4_isMinute ∈ wG := wg_2 57 rfl rfl
theorem m_stat_X4_isMinute : Cond.static yX4_isMinute ∈ wG := wg_2 58 rfl rfl
theorem m_code_X4_isMinute : Cond.code yX4_isMinute cX4_isMinute 1 (some .boolean) ∈ wG := wg_2 59 rfl rfl
theorem m_l_L_51 : Cond.methodLink RL 51 yX4_lay ∈ wG := wg_2 60 rfl rfl
theorem m_inst_X4_lay : Cond.instanceMethod yX4_lay ∈ wG := wg_2 61 rfl rfl
theorem m_sel_X4_lay : Cond.selects RX4 yX4_lay yX4_lay ∈ wG := wg_2 62 rfl rfl
theorem m_code_X4_lay : Cond.code yX4_lay cX4_lay 4 (some .int) ∈ wG := wg_2 63 rfl rfl
theorem m_l_X4_118 : Cond.methodLink RX4 118 yX0_hasEnd ∈ wG := wg_2 64 rfl rfl
theorem m_inst_X0_hasEnd : Cond.instanceMethod yX0_hasEnd ∈ wG := wg_2 65 rfl rfl
theorem m_sel_X0_hasEnd : Cond.selects RX0 yX0_hasEnd yX0_hasEnd ∈ wG := wg_2 66 rfl rfl
theorem m_code_X0_hasEnd : Cond.code yX0_hasEnd cX0_hasEnd 2 (some .boolean) ∈ wG := wg_2 67 rfl rfl
theorem m_l_X4_121 : Cond.methodLink RX4 121 yX0_willSit ∈ wG := wg_2 68 rfl rfl
theorem m_inst_X0_willSit : Cond.instanceMethod yX0_willSit ∈ wG := wg_2 69 rfl rfl
theorem m_sel_X0_willSit : Cond.selects RX0 yX0_willSit yX0_willSit ∈ wG := wg_2 70 rfl rfl
theorem m_code_X0_willSit : Cond.code yX0_willSit cX0_willSit 3 (some .boolean) ∈ wG := wg_2 71 rfl rfl
theorem m_l_X0_55 : Cond.methodLink RX0 55 yX0_hasEnd ∈ wG := wg_2 72 rfl rfl
theorem m_l_X0_59 : Cond.methodLink RX0 59 yX0_hasPerson ∈ wG := wg_2 73 rfl rfl
theorem m_l_X4_125 : Cond.methodLink RX4 125 yX1_laid ∈ wG := wg_2 74 rfl rfl
theorem m_l_X4_132 : Cond.methodLink RX4 132 yJ6_bitCount_0f7a4 ∈ wG := wg_2 75 rfl rfl
theorem m_stat_J6_bitCount_0f7a4 : Cond.static yJ6_bitCount_0f7a4 ∈ wG := wg_2 76 rfl rfl
theorem m_code_J6_bitCount_0f7a4 : Cond.code yJ6_bitCount_0f7a4 cJ6_bitCount_0f7a4 1 (some .int) ∈ wG := wg_2 77 rfl rfl
theorem m_c_J6_265 : Cond.constant RJ6 265 (1431655765) ∈ wG := wg_2 78 rfl rfl
theorem m_c_J6_266 : Cond.constant RJ6 266 (858993459) ∈ wG := wg_2 79 rfl rfl
theorem m_c_J6_267 : Cond.constant RJ6 267 (252645135) ∈ wG := wg_2 80 rfl rfl
theorem m_l_X4_137 : Cond.methodLink RX4 137 yX4_seat ∈ wG := wg_2 81 rfl rfl
theorem m_stat_X4_seat : Cond.static yX4_seat ∈ wG := wg_2 82 rfl rfl
theorem m_code_X4_seat : Cond.code yX4_seat cX4_seat 3 (some .int) ∈ wG := wg_2 83 rfl rfl
theorem m_l_X4_141 : Cond.methodLink RX4 141 yX1_setLaid ∈ wG := wg_2 84 rfl rfl
theorem m_inst_X1_setLaid : Cond.instanceMethod yX1_setLaid ∈ wG := wg_2 85 rfl rfl
theorem m_sel_X1_setLaid : Cond.selects RX1 yX1_setLaid yX1_setLaid ∈ wG := wg_2 86 rfl rfl
theorem m_code_X1_setLaid : Cond.code yX1_setLaid cX1_setLaid 2 none ∈ wG := wg_2 87 rfl rfl
theorem m_l_L_55 : Cond.methodLink RL 55 yX4_unlay ∈ wG := wg_2 88 rfl rfl
theorem m_inst_X4_unlay : Cond.instanceMethod yX4_unlay ∈ wG := wg_2 89 rfl rfl
theorem m_sel_X4_unlay : Cond.selects RX4 yX4_unlay yX4_unlay ∈ wG := wg_2 90 rfl rfl
theorem m_code_X4_unlay : Cond.code yX4_unlay cX4_unlay 3 (some .int) ∈ wG := wg_2 91 rfl rfl
theorem m_l_X4_145 : Cond.methodLink RX4 145 yX4_endOf ∈ wG := wg_2 92 rfl rfl
theorem m_l_X4_148 : Cond.methodLink RX4 148 yX4_unseat ∈ wG := wg_2 93 rfl rfl
theorem m_stat_X4_unseat : Cond.static yX4_unseat ∈ wG := wg_2 94 rfl rfl
theorem m_code_X4_unseat : Cond.code yX4_unseat cX4_unseat 3 (some .int) ∈ wG := wg_2 95 rfl rfl
theorem m_l_L_59 : Cond.methodLink RL 59 yX4_weighs ∈ wG := wg_2 96 rfl rfl
theorem m_inst_X4_weighs : Cond.instanceMethod yX4_weighs ∈ wG := wg_2 97 rfl rfl
theorem m_sel_X4_weighs : Cond.selects RX4 yX4_weighs yX4_weighs ∈ wG := wg_2 98 rfl rfl
theorem m_code_X4_weighs : Cond.code yX4_weighs cX4_weighs 3 (some .int) ∈ wG := wg_2 99 rfl rfl
theorem m_l_X4_151 : Cond.methodLink RX4 151 yX0_loadOf ∈ wG := wg_2 100 rfl rfl
theorem m_inst_X0_loadOf : Cond.instanceMethod yX0_loadOf ∈ wG := wg_2 101 rfl rfl
theorem m_sel_X0_loadOf : Cond.selects RX0 yX0_loadOf yX0_loadOf ∈ wG := wg_2 102 rfl rfl
theorem m_code_X0_loadOf : Cond.code yX0_loadOf cX0_loadOf 9 (some .int) ∈ wG := wg_2 103 rfl rfl
theorem m_stat_X4_poundsAfter : Cond.static yX4_poundsAfter ∈ wG := wg_2 106 rfl rfl
theorem m_code_X4_poundsAfter : Cond.code yX4_poundsAfter cX4_poundsAfter 4 (some .int) ∈ wG := wg_2 107 rfl rfl
theorem m_l_L_63 : Cond.methodLink RL 63 yX4_off ∈ wG := wg_2 108 rfl rfl
theorem m_inst_X4_off : Cond.instanceMethod yX4_off ∈ wG := wg_2 109 rfl rfl
theorem m_sel_X4_off : Cond.selects RX4 yX4_off yX4_off ∈ wG := wg_2 110 rfl rfl
theorem m_code_X4_off : Cond.code yX4_off cX4_off 2 (some .int) ∈ wG := wg_2 111 rfl rfl
theorem m_l_X4_155 : Cond.methodLink RX4 155 yX0_tiltOf ∈ wG := wg_2 112 rfl rfl
theorem m_inst_X0_tiltOf : Cond.instanceMethod yX0_tiltOf ∈ wG := wg_2 113 rfl rfl
theorem m_sel_X0_tiltOf : Cond.selects RX0 yX0_tiltOf yX0_tiltOf ∈ wG := wg_2 114 rfl rfl
theorem m_code_X0_tiltOf : Cond.code yX0_tiltOf cX0_tiltOf 10 (some .int) ∈ wG := wg_2 115 rfl rfl
theorem m_l_X0_69 : Cond.methodLink RX0 69 yX0_loadOf ∈ wG := wg_2 116 rfl rfl
theorem m_l_X0_73 : Cond.methodLink RX0 73 Lib.Math.max.name ∈ wG := wg_2 117 rfl rfl
theorem m_stat_J9_max_7cf53 : Cond.static Lib.Math.max.name ∈ wG := wg_2 118 rfl rfl
theorem m_code_J9_max_7cf53 : Cond.code Lib.Math.max.name Lib.Math.max.code 2 (some .int) ∈ wG := wg_2 119 rfl rfl
theorem m_l_L_67 : Cond.methodLink RL 67 yX4_leave ∈ wG := wg_2 120 rfl rfl
theorem m_inst_X4_leave : Cond.instanceMethod yX4_leave ∈ wG := wg_2 121 rfl rfl
theorem m_sel_X4_leave : Cond.selects RX4 yX4_leave yX4_leave ∈ wG := wg_2 122 rfl rfl
theorem m_code_X4_leave : Cond.code yX4_leave cX4_leave 2 (some .int) ∈ wG := wg_2 123 rfl rfl
theorem m_l_X4_159 : Cond.methodLink RX4 159 yX0_isLevel ∈ wG := wg_2 124 rfl rfl
theorem m_inst_X0_isLevel : Cond.instanceMethod yX0_isLevel ∈ wG := wg_2 125 rfl rfl
theorem m_sel_X0_isLevel : Cond.selects RX0 yX0_isLevel yX0_isLevel ∈ wG := wg_2 126 rfl rfl
theorem m_code_X0_isLevel : Cond.code yX0_isLevel cX0_isLevel 4 (some .boolean) ∈ wG := wg_2 127 rfl rfl
theorem m_l_X0_81 : Cond.methodLink RX0 81 yX0_tiltOf ∈ wG := wg_2 128 rfl rfl
theorem m_l_X4_166 : Cond.methodLink RX4 166 yX1_depart ∈ wG := wg_2 129 rfl rfl
theorem m_inst_X1_depart : Cond.instanceMethod yX1_depart ∈ wG := wg_2 130 rfl rfl
theorem m_sel_X1_depart : Cond.selects RX1 yX1_depart yX1_depart ∈ wG := wg_2 131 rfl rfl
theorem m_code_X1_depart : Cond.code yX1_depart cX1_depart 1 none ∈ wG := wg_2 132 rfl rfl
theorem m_l_X1_41 : Cond.methodLink RX1 41 yX1_setLaid ∈ wG := wg_2 133 rfl rfl
theorem m_l_X4_169 : Cond.methodLink RX4 169 yX4_members ∈ wG := wg_2 134 rfl rfl
theorem m_stat_X4_members : Cond.static yX4_members ∈ wG := wg_2 135 rfl rfl
theorem m_code_X4_members : Cond.code yX4_members cX4_members 1 (some .int) ∈ wG := wg_2 136 rfl rfl
theorem m_l_X4_172 : Cond.methodLink RX4 172 yX0_faresOf ∈ wG := wg_2 137 rfl rfl
theorem m_inst_X0_faresOf : Cond.instanceMethod yX0_faresOf ∈ wG := wg_2 138 rfl rfl
theorem m_sel_X0_faresOf : Cond.selects RX0 yX0_faresOf yX0_faresOf ∈ wG := wg_2 139 rfl rfl
theorem m_code_X0_faresOf : Cond.code yX0_faresOf cX0_faresOf 4 (some .int) ∈ wG := wg_2 140 rfl rfl
theorem m_l_L_71 : Cond.methodLink RL 71 yX4_back ∈ wG := wg_2 141 rfl rfl
theorem m_inst_X4_back : Cond.instanceMethod yX4_back ∈ wG := wg_2 142 rfl rfl
theorem m_sel_X4_back : Cond.selects RX4 yX4_back yX4_back ∈ wG := wg_2 143 rfl rfl
theorem m_code_X4_back : Cond.code yX4_back cX4_back 1 (some .int) ∈ wG := wg_2 144 rfl rfl
theorem m_l_X4_175 : Cond.methodLink RX4 175 yX1_takeBack ∈ wG := wg_2 145 rfl rfl
theorem m_inst_X1_takeBack : Cond.instanceMethod yX1_takeBack ∈ wG := wg_2 146 rfl rfl
theorem m_sel_X1_takeBack : Cond.selects RX1 yX1_takeBack yX1_takeBack ∈ wG := wg_2 147 rfl rfl
theorem m_code_X1_takeBack : Cond.code yX1_takeBack cX1_takeBack 1 none ∈ wG := wg_2 148 rfl rfl
theorem m_l_L_75 : Cond.methodLink RL 75 yX4_left ∈ wG := wg_2 149 rfl rfl
theorem m_inst_X4_left : Cond.instanceMethod yX4_left ∈ wG := wg_2 150 rfl rfl
theorem m_sel_X4_left : Cond.selects RX4 yX4_left yX4_left ∈ wG := wg_2 151 rfl rfl
theorem m_code_X4_left : Cond.code yX4_left cX4_left 3 (some .int) ∈ wG := wg_2 152 rfl rfl
theorem m_l_X4_178 : Cond.methodLink RX4 178 yX1_crewOf ∈ wG := wg_2 153 rfl rfl
theorem m_l_L_79 : Cond.methodLink RL 79 yX4_best ∈ wG := wg_2 154 rfl rfl
theorem m_inst_X4_best : Cond.instanceMethod yX4_best ∈ wG := wg_2 155 rfl rfl
theorem m_sel_X4_best : Cond.selects RX4 yX4_best yX4_best ∈ wG := wg_2 156 rfl rfl
theorem m_code_X4_best : Cond.code yX4_best cX4_best 1 (some .int) ∈ wG := wg_2 157 rfl rfl
theorem m_l_X4_181 : Cond.methodLink RX4 181 yX2_findChoices ∈ wG := wg_2 158 rfl rfl
theorem m_inst_X2_findChoices : Cond.instanceMethod yX2_findChoices ∈ wG := wg_2 159 rfl rfl
theorem m_sel_X2_findChoices : Cond.selects RX2 yX2_findChoices yX2_findChoices ∈ wG := wg_2 160 rfl rfl
theorem m_code_X2_findChoices : Cond.code yX2_findChoices cX2_findChoices 3 none ∈ wG := wg_2 161 rfl rfl
theorem m_l_X2_83 : Cond.methodLink RX2 83 yX2_prepare ∈ wG := wg_2 162 rfl rfl
theorem m_inst_X2_prepare : Cond.instanceMethod yX2_prepare ∈ wG := wg_2 164 rfl rfl
theorem m_code_X2_prepare : Cond.code yX2_prepare cX2_prepare 5 none ∈ wG := wg_2 165 rfl rfl
theorem m_l_X2_107 : Cond.methodLink RX2 107 yX1_gone ∈ wG := wg_2 166 rfl rfl
theorem m_inst_X1_gone : Cond.instanceMethod yX1_gone ∈ wG := wg_2 167 rfl rfl
theorem m_sel_X1_gone : Cond.selects RX1 yX1_gone yX1_gone ∈ wG := wg_2 168 rfl rfl
theorem m_code_X1_gone : Cond.code yX1_gone cX1_gone 3 (some .int) ∈ wG := wg_2 169 rfl rfl
theorem m_l_X2_112 : Cond.methodLink RX2 112 yX0_armOf ∈ wG := wg_2 171 rfl rfl
theorem m_inst_X0_armOf : Cond.instanceMethod yX0_armOf ∈ wG := wg_2 172 rfl rfl
theorem m_sel_X0_armOf : Cond.selects RX0 yX0_armOf yX0_armOf ∈ wG := wg_2 173 rfl rfl
theorem m_code_X0_armOf : Cond.code yX0_armOf cX0_armOf 2 (some .int) ∈ wG := wg_2 174 rfl rfl
theorem m_c_X2_118 : Cond.constant RX2 118 (65537) ∈ wG := wg_2 175 rfl rfl
theorem m_l_X2_119 : Cond.methodLink RX2 119 yX0_willSit ∈ wG := wg_2 176 rfl rfl
theorem m_l_X2_87 : Cond.methodLink RX2 87 yX2_weighSets ∈ wG := wg_2 177 rfl rfl
theorem m_inst_X2_weighSets : Cond.instanceMethod yX2_weighSets ∈ wG := wg_2 179 rfl rfl
theorem m_code_X2_weighSets : Cond.code yX2_weighSets cX2_weighSets 8 none ∈ wG := wg_2 180 rfl rfl
theorem m_c_X2_136 : Cond.constant RX2 136 (65536) ∈ wG := wg_2 182 rfl rfl
theorem m_l_X2_90 : Cond.methodLink RX2 90 yX2_searchWithLast ∈ wG := wg_2 183 rfl rfl
theorem m_inst_X2_searchWithLast : Cond.instanceMethod yX2_searchWithLast ∈ wG := wg_2 185 rfl rfl
theorem m_code_X2_searchWithLast : Cond.code yX2_searchWithLast cX2_searchWithLast 7 none ∈ wG := wg_2 186 rfl rfl
theorem m_l_X2_140 : Cond.methodLink RX2 140 yX2_pullOf ∈ wG := wg_2 187 rfl rfl
theorem m_inst_X2_pullOf : Cond.instanceMethod yX2_pullOf ∈ wG := wg_2 189 rfl rfl
theorem m_code_X2_pullOf : Cond.code yX2_pullOf cX2_pullOf 3 (some .int) ∈ wG := wg_2 190 rfl rfl
theorem m_l_X2_143 : Cond.methodLink RX2 143 yX2_tryLast ∈ wG := wg_2 191 rfl rfl
theorem m_inst_X2_tryLast : Cond.instanceMethod yX2_tryLast ∈ wG := wg_2 193 rfl rfl
theorem m_code_X2_tryLast : Cond.code yX2_tryLast cX2_tryLast 9 none ∈ wG := wg_2 194 rfl rfl
theorem m_l_X2_153 : Cond.methodLink RX2 153 yX2_noteMakeWeight ∈ wG := wg_2 196 rfl rfl
theorem m_inst_X2_noteMakeWeight : Cond.instanceMethod yX2_noteMakeWeight ∈ wG := wg_2 198 rfl rfl
theorem m_code_X2_noteMakeWeight : Cond.code yX2_noteMakeWeight cX2_noteMakeWeight 6 none ∈ wG := wg_2 199 rfl rfl
theorem m_c_X2_161 : Cond.constant RX2 161 (65535) ∈ wG := wg_2 200 rfl rfl
theorem m_l_X2_69 : Cond.methodLink RX2 69 Lib.Math.max.name ∈ wG := wg_2 201 rfl rfl
theorem m_l_X2_157 : Cond.methodLink RX2 157 yX2_noteChoice ∈ wG := wg_2 202 rfl rfl
theorem m_inst_X2_noteChoice : Cond.instanceMethod yX2_noteChoice ∈ wG := wg_2 204 rfl rfl
theorem m_code_X2_noteChoice : Cond.code yX2_noteChoice cX2_noteChoice 4 none ∈ wG := wg_2 205 rfl rfl
theorem m_l_X2_162 : Cond.methodLink RX2 162 yX2_isAhead ∈ wG := wg_2 206 rfl rfl
theorem m_stat_X2_isAhead : Cond.static yX2_isAhead ∈ wG := wg_2 207 rfl rfl
theorem m_code_X2_isAhead : Cond.code yX2_isAhead cX2_isAhead 5 (some .boolean) ∈ wG := wg_2 208 rfl rfl
theorem m_c_X2_165 : Cond.constant RX2 165 (65793) ∈ wG := wg_2 209 rfl rfl
theorem m_l_X2_147 : Cond.methodLink RX2 147 yX2_trySecond ∈ wG := wg_2 210 rfl rfl
theorem m_inst_X2_trySecond : Cond.instanceMethod yX2_trySecond ∈ wG := wg_2 212 rfl rfl
theorem m_code_X2_trySecond : Cond.code yX2_trySecond cX2_trySecond 8 none ∈ wG := wg_2 213 rfl rfl
theorem m_l_X4_185 : Cond.methodLink RX4 185 yX2_hasChoice ∈ wG := wg_2 214 rfl rfl
theorem m_inst_X2_hasChoice : Cond.instanceMethod yX2_hasChoice ∈ wG := wg_2 215 rfl rfl
theorem m_sel_X2_hasChoice : Cond.selects RX2 yX2_hasChoice yX2_hasChoice ∈ wG := wg_2 216 rfl rfl
theorem m_code_X2_hasChoice : Cond.code yX2_hasChoice cX2_hasChoice 1 (some .boolean) ∈ wG := wg_2 217 rfl rfl
theorem m_l_X4_189 : Cond.methodLink RX4 189 yX2_bestFares ∈ wG := wg_2 218 rfl rfl
theorem m_inst_X2_bestFares : Cond.instanceMethod yX2_bestFares ∈ wG := wg_2 219 rfl rfl
theorem m_sel_X2_bestFares : Cond.selects RX2 yX2_bestFares yX2_bestFares ∈ wG := wg_2 220 rfl rfl
theorem m_code_X2_bestFares : Cond.code yX2_bestFares cX2_bestFares 1 (some .int) ∈ wG := wg_2 221 rfl rfl
theorem m_l_X2_65 : Cond.methodLink RX2 65 yX2_hasChoice ∈ wG := wg_2 222 rfl rfl
theorem m_l_L_83 : Cond.methodLink RL 83 yX4_bestAt ∈ wG := wg_2 223 rfl rfl
theorem m_inst_X4_bestAt : Cond.instanceMethod yX4_bestAt ∈ wG := wg_2 224 rfl rfl
theorem m_sel_X4_bestAt : Cond.selects RX4 yX4_bestAt yX4_bestAt ∈ wG := wg_2 225 rfl rfl
theorem m_code_X4_bestAt : Cond.code yX4_bestAt cX4_bestAt 2 (some .int) ∈ wG := wg_2 226 rfl rfl
theorem m_l_L_87 : Cond.methodLink RL 87 yX4_worth ∈ wG := wg_2 227 rfl rfl
theorem m_inst_X4_worth : Cond.instanceMethod yX4_worth ∈ wG := wg_2 228 rfl rfl
theorem m_sel_X4_worth : Cond.selects RX4 yX4_worth yX4_worth ∈ wG := wg_2 229 rfl rfl
theorem m_code_X4_worth : Cond.code yX4_worth cX4_worth 2 (some .int) ∈ wG := wg_2 230 rfl rfl
theorem m_l_X4_195 : Cond.methodLink RX4 195 yX2_faresWithout ∈ wG := wg_2 231 rfl rfl
theorem m_inst_X2_faresWithout : Cond.instanceMethod yX2_faresWithout ∈ wG := wg_2 232 rfl rfl
theorem m_sel_X2_faresWithout : Cond.selects RX2 yX2_faresWithout yX2_faresWithout ∈ wG := wg_2 233 rfl rfl
theorem m_code_X2_faresWithout : Cond.code yX2_faresWithout cX2_faresWithout 4 (some .int) ∈ wG := wg_2 234 rfl rfl
theorem m_l_L_91 : Cond.methodLink RL 91 yX4_makes ∈ wG := wg_2 235 rfl rfl
theorem m_inst_X4_makes : Cond.instanceMethod yX4_makes ∈ wG := wg_2 236 rfl rfl
theorem m_sel_X4_makes : Cond.selects RX4 yX4_makes yX4_makes ∈ wG := wg_2 237 rfl rfl
theorem m_code_X4_makes : Cond.code yX4_makes cX4_makes 2 (some .int) ∈ wG := wg_2 238 rfl rfl
theorem m_l_X4_198 : Cond.methodLink RX4 198 yX2_findMakeWeights ∈ wG := wg_2 239 rfl rfl
theorem m_inst_X2_findMakeWeights : Cond.instanceMethod yX2_findMakeWeights ∈ wG := wg_3 0 rfl rfl
theorem m_sel_X2_findMakeWeights : Cond.selects RX2 yX2_findMakeWeights yX2_findMakeWeights ∈ wG := wg_3 1 rfl rfl
theorem m_code_X2_findMakeWeights : Cond.code yX2_findMakeWeights cX2_findMakeWeights 2 none ∈ wG := wg_3 2 rfl rfl
theorem m_l_X2_75 : Cond.methodLink RX2 75 yX2_bestFares ∈ wG := wg_3 3 rfl rfl
theorem m_l_X4_201 : Cond.methodLink RX4 201 yX2_madeBy ∈ wG := wg_3 4 rfl rfl
theorem m_inst_X2_madeBy : Cond.instanceMethod yX2_madeBy ∈ wG := wg_3 5 rfl rfl
theorem m_sel_X2_madeBy : Cond.selects RX2 yX2_madeBy yX2_madeBy ∈ wG := wg_3 6 rfl rfl
theorem m_code_X2_madeBy : Cond.code yX2_madeBy cX2_madeBy 2 (some .int) ∈ wG := wg_3 7 rfl rfl
theorem m_l_L_95 : Cond.methodLink RL 95 yX4_bestMakes ∈ wG := wg_3 8 rfl rfl
theorem m_inst_X4_bestMakes : Cond.instanceMethod yX4_bestMakes ∈ wG := wg_3 9 rfl rfl
theorem m_sel_X4_bestMakes : Cond.selects RX4 yX4_bestMakes yX4_bestMakes ∈ wG := wg_3 10 rfl rfl
theorem m_code_X4_bestMakes : Cond.code yX4_bestMakes cX4_bestMakes 1 (some .int) ∈ wG := wg_3 11 rfl rfl
theorem m_l_X4_204 : Cond.methodLink RX4 204 yX2_bestMakeWeight ∈ wG := wg_3 12 rfl rfl
theorem m_inst_X2_bestMakeWeight : Cond.instanceMethod yX2_bestMakeWeight ∈ wG := wg_3 13 rfl rfl
theorem m_sel_X2_bestMakeWeight : Cond.selects RX2 yX2_bestMakeWeight yX2_bestMakeWeight ∈ wG := wg_3 14 rfl rfl
theorem m_code_X2_bestMakeWeight : Cond.code yX2_bestMakeWeight cX2_bestMakeWeight 4 (some .int) ∈ wG := wg_3 15 rfl rfl
theorem m_l_X2_79 : Cond.methodLink RX2 79 yX2_madeBy ∈ wG := wg_3 16 rfl rfl
theorem m_l_L_99 : Cond.methodLink RL 99 yX4_sets ∈ wG := wg_3 17 rfl rfl
theorem m_inst_X4_sets : Cond.instanceMethod yX4_sets ∈ wG := wg_3 18 rfl rfl
theorem m_sel_X4_sets : Cond.selects RX4 yX4_sets yX4_sets ∈ wG := wg_3 19 rfl rfl
theorem m_code_X4_sets : Cond.code yX4_sets cX4_sets 1 (some .int) ∈ wG := wg_3 20 rfl rfl
theorem m_l_X4_207 : Cond.methodLink RX4 207 yX2_countSets ∈ wG := wg_3 21 rfl rfl
theorem m_inst_X2_countSets : Cond.instanceMethod yX2_countSets ∈ wG := wg_3 22 rfl rfl
theorem m_sel_X2_countSets : Cond.selects RX2 yX2_countSets yX2_countSets ∈ wG := wg_3 23 rfl rfl
theorem m_code_X2_countSets : Cond.code yX2_countSets cX2_countSets 3 (some .int) ∈ wG := wg_3 24 rfl rfl
theorem m_l_L_103 : Cond.methodLink RL 103 yX4_crossings ∈ wG := wg_3 25 rfl rfl
theorem m_inst_X4_crossings : Cond.instanceMethod yX4_crossings ∈ wG := wg_3 26 rfl rfl
theorem m_sel_X4_crossings : Cond.selects RX4 yX4_crossings yX4_crossings ∈ wG := wg_3 27 rfl rfl
theorem m_code_X4_crossings : Cond.code yX4_crossings cX4_crossings 2 (some .int) ∈ wG := wg_3 28 rfl rfl
theorem m_l_X4_210 : Cond.methodLink RX4 210 yX2_findChains ∈ wG := wg_3 29 rfl rfl
theorem m_inst_X2_findChains : Cond.instanceMethod yX2_findChains ∈ wG := wg_3 30 rfl rfl
theorem m_sel_X2_findChains : Cond.selects RX2 yX2_findChains yX2_findChains ∈ wG := wg_3 31 rfl rfl
theorem m_code_X2_findChains : Cond.code yX2_findChains cX2_findChains 2 none ∈ wG := wg_3 32 rfl rfl
theorem m_l_X2_94 : Cond.methodLink RX2 94 yX2_fewestOf ∈ wG := wg_3 33 rfl rfl
theorem m_inst_X2_fewestOf : Cond.instanceMethod yX2_fewestOf ∈ wG := wg_3 35 rfl rfl
theorem m_code_X2_fewestOf : Cond.code yX2_fewestOf cX2_fewestOf 6 (some .int) ∈ wG := wg_3 36 rfl rfl
theorem m_l_X2_97 : Cond.methodLink RX2 97 Lib.Math.min.name ∈ wG := wg_3 37 rfl rfl
theorem m_l_X4_213 : Cond.methodLink RX4 213 yX2_faresWithin ∈ wG := wg_3 38 rfl rfl
theorem m_inst_X2_faresWithin : Cond.instanceMethod yX2_faresWithin ∈ wG := wg_3 39 rfl rfl
theorem m_sel_X2_faresWithin : Cond.selects RX2 yX2_faresWithin yX2_faresWithin ∈ wG := wg_3 40 rfl rfl
theorem m_code_X2_faresWithin : Cond.code yX2_faresWithin cX2_faresWithin 4 (some .int) ∈ wG := wg_3 41 rfl rfl
theorem m_l_L_107 : Cond.methodLink RL 107 yX4_all ∈ wG := wg_3 42 rfl rfl
theorem m_inst_X4_all : Cond.instanceMethod yX4_all ∈ wG := wg_3 43 rfl rfl
theorem m_sel_X4_all : Cond.selects RX4 yX4_all yX4_all ∈ wG := wg_3 44 rfl rfl
theorem m_code_X4_all : Cond.code yX4_all cX4_all 1 (some .int) ∈ wG := wg_3 45 rfl rfl
theorem m_l_X4_216 : Cond.methodLink RX4 216 yX2_fewestForAll ∈ wG := wg_3 46 rfl rfl
theorem m_inst_X2_fewestForAll : Cond.instanceMethod yX2_fewestForAll ∈ wG := wg_3 47 rfl rfl
theorem m_sel_X2_fewestForAll : Cond.selects RX2 yX2_fewestForAll yX2_fewestForAll ∈ wG := wg_3 48 rfl rfl
theorem m_code_X2_fewestForAll : Cond.code yX2_fewestForAll cX2_fewestForAll 2 (some .int) ∈ wG := wg_3 49 rfl rfl
theorem m_l_L_111 : Cond.methodLink RL 111 yX4_rule ∈ wG := wg_3 50 rfl rfl
theorem m_inst_X4_rule : Cond.instanceMethod yX4_rule ∈ wG := wg_3 51 rfl rfl
theorem m_sel_X4_rule : Cond.selects RX4 yX4_rule yX4_rule ∈ wG := wg_3 52 rfl rfl
theorem m_code_X4_rule : Cond.code yX4_rule cX4_rule 2 (some .int) ∈ wG := wg_3 53 rfl rfl
theorem m_l_X4_219 : Cond.methodLink RX4 219 yX4_crewByRule ∈ wG := wg_3 54 rfl rfl
theorem m_inst_X4_crewByRule : Cond.instanceMethod yX4_crewByRule ∈ wG := wg_3 56 rfl rfl
theorem m_code_X4_crewByRule : Cond.code yX4_crewByRule cX4_crewByRule 5 (some .int) ∈ wG := wg_3 57 rfl rfl
theorem m_l_X4_239 : Cond.methodLink RX4 239 yX1_gone ∈ wG := wg_3 58 rfl rfl
theorem m_l_X4_242 : Cond.methodLink RX4 242 yX4_lightestEnd ∈ wG := wg_3 59 rfl rfl
theorem m_inst_X4_lightestEnd : Cond.instanceMethod yX4_lightestEnd ∈ wG := wg_3 61 rfl rfl
theorem m_code_X4_lightestEnd : Cond.code yX4_lightestEnd cX4_lightestEnd 8 (some .int) ∈ wG := wg_3 62 rfl rfl
theorem m_l_X4_245 : Cond.methodLink RX4 245 yX0_armOf ∈ wG := wg_3 63 rfl rfl
theorem m_l_L_115 : Cond.methodLink RL 115 yX4_ruleAt ∈ wG := wg_3 64 rfl rfl
theorem m_inst_X4_ruleAt : Cond.instanceMethod yX4_ruleAt ∈ wG := wg_3 65 rfl rfl
theorem m_sel_X4_ruleAt : Cond.selects RX4 yX4_ruleAt yX4_ruleAt ∈ wG := wg_3 66 rfl rfl
theorem m_code_X4_ruleAt : Cond.code yX4_ruleAt cX4_ruleAt 2 (some .int) ∈ wG := wg_3 67 rfl rfl
theorem m_l_L_119 : Cond.methodLink RL 119 yX4_claim ∈ wG := wg_3 68 rfl rfl
theorem m_inst_X4_claim : Cond.instanceMethod yX4_claim ∈ wG := wg_3 69 rfl rfl
theorem m_sel_X4_claim : Cond.selects RX4 yX4_claim yX4_claim ∈ wG := wg_3 70 rfl rfl
theorem m_code_X4_claim : Cond.code yX4_claim cX4_claim 4 (some .int) ∈ wG := wg_3 71 rfl rfl
theorem m_l_L_123 : Cond.methodLink RL 123 yX4_fits ∈ wG := wg_3 72 rfl rfl
theorem m_inst_X4_fits : Cond.instanceMethod yX4_fits ∈ wG := wg_3 73 rfl rfl
theorem m_sel_X4_fits : Cond.selects RX4 yX4_fits yX4_fits ∈ wG := wg_3 74 rfl rfl
theorem m_code_X4_fits : Cond.code yX4_fits cX4_fits 1 (some .int) ∈ wG := wg_3 75 rfl rfl
theorem m_l_X4_222 : Cond.methodLink RX4 222 yX4_boatsFitBut ∈ wG := wg_3 76 rfl rfl
theorem m_inst_X4_boatsFitBut : Cond.instanceMethod yX4_boatsFitBut ∈ wG := wg_3 78 rfl rfl
theorem m_code_X4_boatsFitBut : Cond.code yX4_boatsFitBut cX4_boatsFitBut 3 (some .boolean) ∈ wG := wg_3 79 rfl rfl
theorem m_l_L_127 : Cond.methodLink RL 127 yX4_liars ∈ wG := wg_3 80 rfl rfl
theorem m_inst_X4_liars : Cond.instanceMethod yX4_liars ∈ wG := wg_3 81 rfl rfl
theorem m_sel_X4_liars : Cond.selects RX4 yX4_liars yX4_liars ∈ wG := wg_3 82 rfl rfl
theorem m_code_X4_liars : Cond.code yX4_liars cX4_liars 3 (some .int) ∈ wG := wg_3 83 rfl rfl
theorem m_l_X4_225 : Cond.methodLink RX4 225 yX4_claimsThatFit ∈ wG := wg_3 84 rfl rfl
theorem m_inst_X4_claimsThatFit : Cond.instanceMethod yX4_claimsThatFit ∈ wG := wg_3 86 rfl rfl
theorem m_code_X4_claimsThatFit : Cond.code yX4_claimsThatFit cX4_claimsThatFit 6 (some .int) ∈ wG := wg_3 87 rfl rfl
theorem m_l_X4_248 : Cond.methodLink RX4 248 yX1_boatOf ∈ wG := wg_3 88 rfl rfl
theorem m_l_L_131 : Cond.methodLink RL 131 yX4_mayWeigh ∈ wG := wg_3 89 rfl rfl
theorem m_inst_X4_mayWeigh : Cond.instanceMethod yX4_mayWeigh ∈ wG := wg_3 90 rfl rfl
theorem m_sel_X4_mayWeigh : Cond.selects RX4 yX4_mayWeigh yX4_mayWeigh ∈ wG := wg_3 91 rfl rfl
theorem m_code_X4_mayWeigh : Cond.code yX4_mayWeigh cX4_mayWeigh 2 (some .int) ∈ wG := wg_3 92 rfl rfl
theorem m_l_L_135 : Cond.methodLink RL 135 yX4_keep ∈ wG := wg_3 93 rfl rfl
theorem m_inst_X4_keep : Cond.instanceMethod yX4_keep ∈ wG := wg_3 94 rfl rfl
theorem m_sel_X4_keep : Cond.selects RX4 yX4_keep yX4_keep ∈ wG := wg_3 95 rfl rfl
theorem m_code_X4_keep : Cond.code yX4_keep cX4_keep 3 (some .int) ∈ wG := wg_3 96 rfl rfl
theorem m_l_X4_228 : Cond.methodLink RX4 228 yX4_isSlot ∈ wG := wg_3 97 rfl rfl
theorem m_stat_X4_isSlot : Cond.static yX4_isSlot ∈ wG := wg_3 98 rfl rfl
theorem m_code_X4_isSlot : Cond.code yX4_isSlot cX4_isSlot 1 (some .boolean) ∈ wG := wg_3 99 rfl rfl
theorem m_l_X4_231 : Cond.methodLink RX4 231 yX4_slotOf ∈ wG := wg_3 100 rfl rfl
theorem m_inst_X4_slotOf : Cond.instanceMethod yX4_slotOf ∈ wG := wg_3 102 rfl rfl
theorem m_code_X4_slotOf : Cond.code yX4_slotOf cX4_slotOf 2 (some (.object "FerriesLevel$Log")) ∈ wG := wg_3 103 rfl rfl
theorem m_l_X4_235 : Cond.methodLink RX4 235 yX1_copyFrom ∈ wG := wg_3 104 rfl rfl
theorem m_inst_X1_copyFrom : Cond.instanceMethod yX1_copyFrom ∈ wG := wg_3 105 rfl rfl
theorem m_sel_X1_copyFrom : Cond.selects RX1 yX1_copyFrom yX1_copyFrom ∈ wG := wg_3 106 rfl rfl
theorem m_code_X1_copyFrom : Cond.code yX1_copyFrom cX1_copyFrom 3 none ∈ wG := wg_3 107 rfl rfl
theorem m_l_L_139 : Cond.methodLink RL 139 yX4_again ∈ wG := wg_3 108 rfl rfl
theorem m_inst_X4_again : Cond.instanceMethod yX4_again ∈ wG := wg_3 109 rfl rfl
theorem m_sel_X4_again : Cond.selects RX4 yX4_again yX4_again ∈ wG := wg_3 110 rfl rfl
theorem m_code_X4_again : Cond.code yX4_again cX4_again 3 (some .int) ∈ wG := wg_3 111 rfl rfl
theorem m_l_L_143 : Cond.methodLink RL 143 yX4_count ∈ wG := wg_3 112 rfl rfl
theorem m_inst_X4_count : Cond.instanceMethod yX4_count ∈ wG := wg_3 113 rfl rfl
theorem m_sel_X4_count : Cond.selects RX4 yX4_count yX4_count ∈ wG := wg_3 114 rfl rfl
theorem m_code_X4_count : Cond.code yX4_count cX4_count 2 (some .int) ∈ wG := wg_3 115 rfl rfl
theorem m_k_L_10 : Cond.classLink RL 10 RX5 ∈ wG := wg_3 116 rfl rfl
theorem m_new_X5 : Cond.instantiable RX5 29 ∈ wG := wg_3 117 rfl rfl
theorem m_l_L_12 : Cond.methodLink RL 12 yX5_init ∈ wG := wg_3 118 rfl rfl
theorem m_inst_X5_init : Cond.instanceMethod yX5_init ∈ wG := wg_3 119 rfl rfl
theorem m_code_X5_init : Cond.code yX5_init cX5_init 1 none ∈ wG := wg_3 120 rfl rfl
theorem m_l_X5_1 : Cond.methodLink RX5 1 objectInit ∈ wG := wg_3 121 rfl rfl
theorem m_f_X5_7 : Cond.fieldLink RX5 7 "FerriesLevelModel" "readBoat" "[I" ∈ wG := wg_3 122 rfl rfl
theorem m_f_X5_13 : Cond.fieldLink RX5 13 "FerriesLevelModel" "readPeople" "[I" ∈ wG := wg_3 123 rfl rfl
theorem m_f_X5_88 : Cond.fieldLink RX5 88 "FerriesLevelModel" "readMany" "I" ∈ wG := wg_3 124 rfl rfl
theorem m_f_X5_16 : Cond.fieldLink RX5 16 "FerriesLevelModel" "boat" "[I" ∈ wG := wg_3 125 rfl rfl
theorem m_f_X5_19 : Cond.fieldLink RX5 19 "FerriesLevelModel" "people" "[I" ∈ wG := wg_3 126 rfl rfl
theorem m_f_X5_99 : Cond.fieldLink RX5 99 "FerriesLevelModel" "many" "I" ∈ wG := wg_3 127 rfl rfl
theorem m_f_X5_22 : Cond.fieldLink RX5 22 "FerriesLevelModel" "gains" "[I" ∈ wG := wg_3 128 rfl rfl
theorem m_f_X5_25 : Cond.fieldLink RX5 25 "FerriesLevelModel" "claims" "[I" ∈ wG := wg_3 129 rfl rfl
theorem m_f_X5_28 : Cond.fieldLink RX5 28 "FerriesLevelModel" "place" "[I" ∈ wG := wg_3 130 rfl rfl
theorem m_f_X5_102 : Cond.fieldLink RX5 102 "FerriesLevelModel" "minutes" "I" ∈ wG := wg_3 131 rfl rfl
theorem m_f_X5_31 : Cond.fieldLink RX5 31 "FerriesLevelModel" "text" "[I" ∈ wG := wg_3 132 rfl rfl
theorem m_f_X5_74 : Cond.fieldLink RX5 74 "FerriesLevelModel" "length" "I" ∈ wG := wg_3 133 rfl rfl
theorem m_f_X5_83 : Cond.fieldLink RX5 83 "FerriesLevelModel" "at" "I" ∈ wG := wg_3 134 rfl rfl
theorem m_f_X5_80 : Cond.fieldLink RX5 80 "FerriesLevelModel" "faultAt" "I" ∈ wG := wg_3 135 rfl rfl
theorem m_f_X5_105 : Cond.fieldLink RX5 105 "FerriesLevelModel" "boats" "I" ∈ wG := wg_3 136 rfl rfl
theorem m_f_X5_34 : Cond.fieldLink RX5 34 "FerriesLevelModel" "leftAt" "[I" ∈ wG := wg_3 137 rfl rfl
theorem m_f_X5_37 : Cond.fieldLink RX5 37 "FerriesLevelModel" "sets" "[I" ∈ wG := wg_3 138 rfl rfl
theorem m_f_X5_157 : Cond.fieldLink RX5 157 "FerriesLevelModel" "bestFares" "I" ∈ wG := wg_3 139 rfl rfl
theorem m_f_X5_160 : Cond.fieldLink RX5 160 "FerriesLevelModel" "bestMany" "I" ∈ wG := wg_3 140 rfl rfl
theorem m_f_X5_163 : Cond.fieldLink RX5 163 "FerriesLevelModel" "bestCode" "I" ∈ wG := wg_3 141 rfl rfl
theorem m_f_X5_40 : Cond.fieldLink RX5 40 "FerriesLevelModel" "canLeave" "[Z" ∈ wG := wg_3 142 rfl rfl
theorem m_f_X5_44 : Cond.fieldLink RX5 44 "FerriesLevelModel" "brings" "[I" ∈ wG := wg_3 143 rfl rfl
theorem m_f_X5_47 : Cond.fieldLink RX5 47 "FerriesLevelModel" "fewest" "[I" ∈ wG := wg_3 144 rfl rfl
theorem m_f_X5_50 : Cond.fieldLink RX5 50 "FerriesLevelModel" "isKept" "[Z" ∈ wG := wg_3 145 rfl rfl
theorem m_f_X5_53 : Cond.fieldLink RX5 53 "FerriesLevelModel" "keptPlace" "[I" ∈ wG := wg_3 146 rfl rfl
theorem m_f_X5_56 : Cond.fieldLink RX5 56 "FerriesLevelModel" "keptGains" "[I" ∈ wG := wg_3 147 rfl rfl
theorem m_f_X5_59 : Cond.fieldLink RX5 59 "FerriesLevelModel" "keptClaims" "[I" ∈ wG := wg_3 148 rfl rfl
theorem m_f_X5_62 : Cond.fieldLink RX5 62 "FerriesLevelModel" "keptLeft" "[I" ∈ wG := wg_3 149 rfl rfl
theorem m_f_X5_65 : Cond.fieldLink RX5 65 "FerriesLevelModel" "keptRest" "[I" ∈ wG := wg_3 150 rfl rfl
theorem m_lay_X5_0 : u_lay RX5 TX5 0 ∈ wG := wg_3 151 rfl rfl
theorem m_lay_X5_1 : u_lay RX5 TX5 1 ∈ wG := wg_3 153 rfl rfl
theorem m_lay_X5_2 : u_lay RX5 TX5 2 ∈ wG := wg_3 155 rfl rfl
theorem m_lay_X5_3 : u_lay RX5 TX5 3 ∈ wG := wg_3 157 rfl rfl
theorem m_lay_X5_4 : u_lay RX5 TX5 4 ∈ wG := wg_3 159 rfl rfl
theorem m_lay_X5_5 : u_lay RX5 TX5 5 ∈ wG := wg_3 161 rfl rfl
theorem m_lay_X5_6 : u_lay RX5 TX5 6 ∈ wG := wg_3 163 rfl rfl
theorem m_lay_X5_7 : u_lay RX5 TX5 7 ∈ wG := wg_3 165 rfl rfl
theorem m_lay_X5_8 : u_lay RX5 TX5 8 ∈ wG := wg_3 167 rfl rfl
theorem m_lay_X5_9 : u_lay RX5 TX5 9 ∈ wG := wg_3 169 rfl rfl
theorem m_lay_X5_10 : u_lay RX5 TX5 10 ∈ wG := wg_3 171 rfl rfl
theorem m_lay_X5_11 : u_lay RX5 TX5 11 ∈ wG := wg_3 173 rfl rfl
theorem m_lay_X5_12 : u_lay RX5 TX5 12 ∈ wG := wg_3 175 rfl rfl
theorem m_lay_X5_13 : u_lay RX5 TX5 13 ∈ wG := wg_3 177 rfl rfl
theorem m_lay_X5_14 : u_lay RX5 TX5 14 ∈ wG := wg_3 179 rfl rfl
theorem m_lay_X5_15 : u_lay RX5 TX5 15 ∈ wG := wg_3 181 rfl rfl
theorem m_lay_X5_16 : u_lay RX5 TX5 16 ∈ wG := wg_3 183 rfl rfl
theorem m_lay_X5_17 : u_lay RX5 TX5 17 ∈ wG := wg_3 185 rfl rfl
theorem m_lay_X5_18 : u_lay RX5 TX5 18 ∈ wG := wg_3 187 rfl rfl
theorem m_lay_X5_19 : u_lay RX5 TX5 19 ∈ wG := wg_3 189 rfl rfl
theorem m_lay_X5_20 : u_lay RX5 TX5 20 ∈ wG := wg_3 191 rfl rfl
theorem m_lay_X5_21 : u_lay RX5 TX5 21 ∈ wG := wg_3 193 rfl rfl
theorem m_lay_X5_22 : u_lay RX5 TX5 22 ∈ wG := wg_3 195 rfl rfl
theorem m_lay_X5_23 : u_lay RX5 TX5 23 ∈ wG := wg_3 197 rfl rfl
theorem m_lay_X5_24 : u_lay RX5 TX5 24 ∈ wG := wg_3 199 rfl rfl
theorem m_lay_X5_25 : u_lay RX5 TX5 25 ∈ wG := wg_3 201 rfl rfl
theorem m_lay_X5_26 : u_lay RX5 TX5 26 ∈ wG := wg_3 203 rfl rfl
theorem m_lay_X5_27 : u_lay RX5 TX5 27 ∈ wG := wg_3 205 rfl rfl
theorem m_lay_X5_28 : u_lay RX5 TX5 28 ∈ wG := wg_3 207 rfl rfl
theorem m_arr_boolean : Cond.arrayClass .boolean ∈ wG := wg_3 210 rfl rfl
theorem m_l_L_19 : Cond.methodLink RL 19 yX5_write ∈ wG := wg_3 211 rfl rfl
theorem m_inst_X5_write : Cond.instanceMethod yX5_write ∈ wG := wg_3 212 rfl rfl
theorem m_sel_X5_write : Cond.selects RX5 yX5_write yX5_write ∈ wG := wg_3 213 rfl rfl
theorem m_code_X5_write : Cond.code yX5_write cX5_write 5 (some .int) ∈ wG := wg_3 214 rfl rfl
theorem m_c_X5_68 : Cond.constantLong RX5 68 (8) ∈ wG := wg_3 215 rfl rfl
theorem m_l_X5_70 : Cond.methodLink RX5 70 yX5_in ∈ wG := wg_3 216 rfl rfl
theorem m_stat_X5_in : Cond.static yX5_in ∈ wG := wg_3 217 rfl rfl
theorem m_code_X5_in : Cond.code yX5_in cX5_in 6 (some .boolean) ∈ wG := wg_3 218 rfl rfl
theorem m_c_X5_78 : Cond.constantLong RX5 78 (255) ∈ wG := wg_3 219 rfl rfl
theorem m_l_L_24 : Cond.methodLink RL 24 yX5_wipe ∈ wG := wg_3 220 rfl rfl
theorem m_inst_X5_wipe : Cond.instanceMethod yX5_wipe ∈ wG := wg_3 221 rfl rfl
theorem m_sel_X5_wipe : Cond.selects RX5 yX5_wipe yX5_wipe ∈ wG := wg_3 222 rfl rfl
theorem m_code_X5_wipe : Cond.code yX5_wipe cX5_wipe 2 (some .int) ∈ wG := wg_3 223 rfl rfl
theorem m_l_L_28 : Cond.methodLink RL 28 yX5_fault ∈ wG := wg_3 224 rfl rfl
theorem m_inst_X5_fault : Cond.instanceMethod yX5_fault ∈ wG := wg_3 225 rfl rfl
theorem m_sel_X5_fault : Cond.selects RX5 yX5_fault yX5_fault ∈ wG := wg_3 226 rfl rfl
theorem m_code_X5_fault : Cond.code yX5_fault cX5_fault 1 (some .int) ∈ wG := wg_3 227 rfl rfl
theorem m_l_X5_95 : Cond.methodLink RX5 95 yX5_readText ∈ wG := wg_3 228 rfl rfl
theorem m_inst_X5_readText : Cond.instanceMethod yX5_readText ∈ wG := wg_3 230 rfl rfl
theorem m_code_X5_readText : Cond.code yX5_readText cX5_readText 3 (some .int) ∈ wG := wg_3 231 rfl rfl
theorem m_l_X5_91 : Cond.methodLink RX5 91 yX5_figure ∈ wG := wg_3 232 rfl rfl
theorem m_inst_X5_figure : Cond.instanceMethod yX5_figure ∈ wG := wg_3 234 rfl rfl
theorem m_code_X5_figure : Cond.code yX5_figure cX5_figure 3 (some .int) ∈ wG := wg_3 235 rfl rfl
theorem m_c_X5_86 : Cond.constantLong RX5 86 (9) ∈ wG := wg_3 236 rfl rfl
theorem m_l_L_32 : Cond.methodLink RL 32 yX5_ferry ∈ wG := wg_3 237 rfl rfl
theorem m_inst_X5_ferry : Cond.instanceMethod yX5_ferry ∈ wG := wg_3 238 rfl rfl
theorem m_sel_X5_ferry : Cond.selects RX5 yX5_ferry yX5_ferry ∈ wG := wg_3 239 rfl rfl
theorem m_code_X5_ferry : Cond.code yX5_ferry cX5_ferry 2 (some .int) ∈ wG := wg_4 0 rfl rfl
theorem m_l_L_37 : Cond.methodLink RL 37 yX5_boat ∈ wG := wg_4 1 rfl rfl
theorem m_inst_X5_boat : Cond.instanceMethod yX5_boat ∈ wG := wg_4 2 rfl rfl
theorem m_sel_X5_boat : Cond.selects RX5 yX5_boat yX5_boat ∈ wG := wg_4 3 rfl rfl
theorem m_code_X5_boat : Cond.code yX5_boat cX5_boat 2 (some .int) ∈ wG := wg_4 4 rfl rfl
theorem m_c_X5_108 : Cond.constantLong RX5 108 (4) ∈ wG := wg_4 5 rfl rfl
theorem m_l_L_42 : Cond.methodLink RL 42 yX5_person ∈ wG := wg_4 6 rfl rfl
theorem m_inst_X5_person : Cond.instanceMethod yX5_person ∈ wG := wg_4 7 rfl rfl
theorem m_sel_X5_person : Cond.selects RX5 yX5_person yX5_person ∈ wG := wg_4 8 rfl rfl
theorem m_code_X5_person : Cond.code yX5_person cX5_person 3 (some .int) ∈ wG := wg_4 9 rfl rfl
theorem m_l_X5_110 : Cond.methodLink RX5 110 yX5_isPerson ∈ wG := wg_4 10 rfl rfl
theorem m_inst_X5_isPerson : Cond.instanceMethod yX5_isPerson ∈ wG := wg_4 12 rfl rfl
theorem m_code_X5_isPerson : Cond.code yX5_isPerson cX5_isPerson 2 (some .boolean) ∈ wG := wg_4 13 rfl rfl
theorem m_l_L_46 : Cond.methodLink RL 46 yX5_gain ∈ wG := wg_4 14 rfl rfl
theorem m_inst_X5_gain : Cond.instanceMethod yX5_gain ∈ wG := wg_4 15 rfl rfl
theorem m_sel_X5_gain : Cond.selects RX5 yX5_gain yX5_gain ∈ wG := wg_4 16 rfl rfl
theorem m_code_X5_gain : Cond.code yX5_gain cX5_gain 4 (some .int) ∈ wG := wg_4 17 rfl rfl
theorem m_c_X5_114 : Cond.constantLong RX5 114 (-3) ∈ wG := wg_4 18 rfl rfl
theorem m_c_X5_116 : Cond.constantLong RX5 116 (3) ∈ wG := wg_4 19 rfl rfl
theorem m_l_L_50 : Cond.methodLink RL 50 yX5_minutes ∈ wG := wg_4 20 rfl rfl
theorem m_inst_X5_minutes : Cond.instanceMethod yX5_minutes ∈ wG := wg_4 21 rfl rfl
theorem m_sel_X5_minutes : Cond.selects RX5 yX5_minutes yX5_minutes ∈ wG := wg_4 22 rfl rfl
theorem m_code_X5_minutes : Cond.code yX5_minutes cX5_minutes 3 (some .int) ∈ wG := wg_4 23 rfl rfl
theorem m_l_L_54 : Cond.methodLink RL 54 yX5_lay ∈ wG := wg_4 24 rfl rfl
theorem m_inst_X5_lay : Cond.instanceMethod yX5_lay ∈ wG := wg_4 25 rfl rfl
theorem m_sel_X5_lay : Cond.selects RX5 yX5_lay yX5_lay ∈ wG := wg_4 26 rfl rfl
theorem m_code_X5_lay : Cond.code yX5_lay cX5_lay 4 (some .int) ∈ wG := wg_4 27 rfl rfl
theorem m_l_X5_118 : Cond.methodLink RX5 118 yX5_isEnd ∈ wG := wg_4 28 rfl rfl
theorem m_inst_X5_isEnd : Cond.instanceMethod yX5_isEnd ∈ wG := wg_4 30 rfl rfl
theorem m_code_X5_isEnd : Cond.code yX5_isEnd cX5_isEnd 2 (some .boolean) ∈ wG := wg_4 31 rfl rfl
theorem m_l_X5_121 : Cond.methodLink RX5 121 yX5_willSit ∈ wG := wg_4 32 rfl rfl
theorem m_inst_X5_willSit : Cond.instanceMethod yX5_willSit ∈ wG := wg_4 34 rfl rfl
theorem m_code_X5_willSit : Cond.code yX5_willSit cX5_willSit 3 (some .boolean) ∈ wG := wg_4 35 rfl rfl
theorem m_l_X5_125 : Cond.methodLink RX5 125 yX5_whoAt ∈ wG := wg_4 36 rfl rfl
theorem m_inst_X5_whoAt : Cond.instanceMethod yX5_whoAt ∈ wG := wg_4 38 rfl rfl
theorem m_code_X5_whoAt : Cond.code yX5_whoAt cX5_whoAt 4 (some .int) ∈ wG := wg_4 39 rfl rfl
theorem m_l_X5_128 : Cond.methodLink RX5 128 yX5_ones ∈ wG := wg_4 40 rfl rfl
theorem m_stat_X5_ones : Cond.static yX5_ones ∈ wG := wg_4 41 rfl rfl
theorem m_code_X5_ones : Cond.code yX5_ones cX5_ones 3 (some .int) ∈ wG := wg_4 42 rfl rfl
theorem m_l_L_58 : Cond.methodLink RL 58 yX5_unlay ∈ wG := wg_4 43 rfl rfl
theorem m_inst_X5_unlay : Cond.instanceMethod yX5_unlay ∈ wG := wg_4 44 rfl rfl
theorem m_sel_X5_unlay : Cond.selects RX5 yX5_unlay yX5_unlay ∈ wG := wg_4 45 rfl rfl
theorem m_code_X5_unlay : Cond.code yX5_unlay cX5_unlay 2 (some .int) ∈ wG := wg_4 46 rfl rfl
theorem m_l_X5_131 : Cond.methodLink RX5 131 yX5_laid ∈ wG := wg_4 47 rfl rfl
theorem m_inst_X5_laid : Cond.instanceMethod yX5_laid ∈ wG := wg_4 49 rfl rfl
theorem m_code_X5_laid : Cond.code yX5_laid cX5_laid 1 (some .int) ∈ wG := wg_4 50 rfl rfl
theorem m_l_L_62 : Cond.methodLink RL 62 yX5_weighs ∈ wG := wg_4 51 rfl rfl
theorem m_inst_X5_weighs : Cond.instanceMethod yX5_weighs ∈ wG := wg_4 52 rfl rfl
theorem m_sel_X5_weighs : Cond.selects RX5 yX5_weighs yX5_weighs ∈ wG := wg_4 53 rfl rfl
theorem m_code_X5_weighs : Cond.code yX5_weighs cX5_weighs 3 (some .int) ∈ wG := wg_4 54 rfl rfl
theorem m_l_X5_138 : Cond.methodLink RX5 138 yX5_heavy ∈ wG := wg_4 55 rfl rfl
theorem m_inst_X5_heavy : Cond.instanceMethod yX5_heavy ∈ wG := wg_4 57 rfl rfl
theorem m_code_X5_heavy : Cond.code yX5_heavy cX5_heavy 7 (some .int) ∈ wG := wg_4 58 rfl rfl
theorem m_l_X5_134 : Cond.methodLink RX5 134 yX5_weightOf ∈ wG := wg_4 59 rfl rfl
theorem m_inst_X5_weightOf : Cond.instanceMethod yX5_weightOf ∈ wG := wg_4 61 rfl rfl
theorem m_code_X5_weightOf : Cond.code yX5_weightOf cX5_weightOf 5 (some .int) ∈ wG := wg_4 62 rfl rfl
theorem m_l_L_66 : Cond.methodLink RL 66 yX5_off ∈ wG := wg_4 63 rfl rfl
theorem m_inst_X5_off : Cond.instanceMethod yX5_off ∈ wG := wg_4 64 rfl rfl
theorem m_sel_X5_off : Cond.selects RX5 yX5_off yX5_off ∈ wG := wg_4 65 rfl rfl
theorem m_code_X5_off : Cond.code yX5_off cX5_off 2 (some .int) ∈ wG := wg_4 66 rfl rfl
theorem m_l_X5_142 : Cond.methodLink RX5 142 yX5_offOf ∈ wG := wg_4 67 rfl rfl
theorem m_inst_X5_offOf : Cond.instanceMethod yX5_offOf ∈ wG := wg_4 69 rfl rfl
theorem m_code_X5_offOf : Cond.code yX5_offOf cX5_offOf 6 (some .int) ∈ wG := wg_4 70 rfl rfl
theorem m_l_L_70 : Cond.methodLink RL 70 yX5_leave ∈ wG := wg_4 71 rfl rfl
theorem m_inst_X5_leave : Cond.instanceMethod yX5_leave ∈ wG := wg_4 72 rfl rfl
theorem m_sel_X5_leave : Cond.selects RX5 yX5_leave yX5_leave ∈ wG := wg_4 73 rfl rfl
theorem m_code_X5_leave : Cond.code yX5_leave cX5_leave 5 (some .int) ∈ wG := wg_4 74 rfl rfl
theorem m_l_X5_150 : Cond.methodLink RX5 150 yX5_isLevel ∈ wG := wg_4 75 rfl rfl
theorem m_inst_X5_isLevel : Cond.instanceMethod yX5_isLevel ∈ wG := wg_4 77 rfl rfl
theorem m_code_X5_isLevel : Cond.code yX5_isLevel cX5_isLevel 5 (some .boolean) ∈ wG := wg_4 78 rfl rfl
theorem m_l_X5_146 : Cond.methodLink RX5 146 yX5_isEven ∈ wG := wg_4 79 rfl rfl
theorem m_inst_X5_isEven : Cond.instanceMethod yX5_isEven ∈ wG := wg_4 81 rfl rfl
theorem m_code_X5_isEven : Cond.code yX5_isEven cX5_isEven 6 (some .boolean) ∈ wG := wg_4 82 rfl rfl
theorem m_l_X5_154 : Cond.methodLink RX5 154 yX5_fares ∈ wG := wg_4 83 rfl rfl
theorem m_inst_X5_fares : Cond.instanceMethod yX5_fares ∈ wG := wg_4 85 rfl rfl
theorem m_code_X5_fares : Cond.code yX5_fares cX5_fares 4 (some .int) ∈ wG := wg_4 86 rfl rfl
theorem m_l_L_74 : Cond.methodLink RL 74 yX5_back ∈ wG := wg_4 87 rfl rfl
theorem m_inst_X5_back : Cond.instanceMethod yX5_back ∈ wG := wg_4 88 rfl rfl
theorem m_sel_X5_back : Cond.selects RX5 yX5_back yX5_back ∈ wG := wg_4 89 rfl rfl
theorem m_code_X5_back : Cond.code yX5_back cX5_back 3 (some .int) ∈ wG := wg_4 90 rfl rfl
theorem m_l_L_78 : Cond.methodLink RL 78 yX5_left ∈ wG := wg_4 91 rfl rfl
theorem m_inst_X5_left : Cond.instanceMethod yX5_left ∈ wG := wg_4 92 rfl rfl
theorem m_sel_X5_left : Cond.selects RX5 yX5_left yX5_left ∈ wG := wg_4 93 rfl rfl
theorem m_code_X5_left : Cond.code yX5_left cX5_left 3 (some .int) ∈ wG := wg_4 94 rfl rfl
theorem m_l_L_82 : Cond.methodLink RL 82 yX5_best ∈ wG := wg_4 95 rfl rfl
theorem m_inst_X5_best : Cond.instanceMethod yX5_best ∈ wG := wg_4 96 rfl rfl
theorem m_sel_X5_best : Cond.selects RX5 yX5_best yX5_best ∈ wG := wg_4 97 rfl rfl
theorem m_code_X5_best : Cond.code yX5_best cX5_best 1 (some .int) ∈ wG := wg_4 98 rfl rfl
theorem m_l_X5_183 : Cond.methodLink RX5 183 yX5_waiting ∈ wG := wg_4 99 rfl rfl
theorem m_inst_X5_waiting : Cond.instanceMethod yX5_waiting ∈ wG := wg_4 101 rfl rfl
theorem m_code_X5_waiting : Cond.code yX5_waiting cX5_waiting 1 (some .int) ∈ wG := wg_4 102 rfl rfl
theorem m_l_X5_186 : Cond.methodLink RX5 186 yX5_layChoices ∈ wG := wg_4 103 rfl rfl
theorem m_inst_X5_layChoices : Cond.instanceMethod yX5_layChoices ∈ wG := wg_4 105 rfl rfl
theorem m_code_X5_layChoices : Cond.code yX5_layChoices cX5_layChoices 4 none ∈ wG := wg_4 106 rfl rfl
theorem m_l_X5_166 : Cond.methodLink RX5 166 yX5_laySets ∈ wG := wg_4 107 rfl rfl
theorem m_inst_X5_laySets : Cond.instanceMethod yX5_laySets ∈ wG := wg_4 109 rfl rfl
theorem m_code_X5_laySets : Cond.code yX5_laySets cX5_laySets 5 (some .boolean) ∈ wG := wg_4 110 rfl rfl
theorem m_l_X5_169 : Cond.methodLink RX5 169 yX5_better ∈ wG := wg_4 111 rfl rfl
theorem m_inst_X5_better : Cond.instanceMethod yX5_better ∈ wG := wg_4 113 rfl rfl
theorem m_code_X5_better : Cond.code yX5_better cX5_better 5 none ∈ wG := wg_4 114 rfl rfl
theorem m_l_X5_173 : Cond.methodLink RX5 173 yX5_layMakes ∈ wG := wg_4 115 rfl rfl
theorem m_inst_X5_layMakes : Cond.instanceMethod yX5_layMakes ∈ wG := wg_4 117 rfl rfl
theorem m_code_X5_layMakes : Cond.code yX5_layMakes cX5_layMakes 4 none ∈ wG := wg_4 118 rfl rfl
theorem m_l_X5_177 : Cond.methodLink RX5 177 yX5_lacks ∈ wG := wg_4 119 rfl rfl
theorem m_inst_X5_lacks : Cond.instanceMethod yX5_lacks ∈ wG := wg_4 121 rfl rfl
theorem m_code_X5_lacks : Cond.code yX5_lacks cX5_lacks 9 (some .int) ∈ wG := wg_4 122 rfl rfl
theorem m_c_X5_181 : Cond.constantLong RX5 181 (99) ∈ wG := wg_4 123 rfl rfl
theorem m_l_L_86 : Cond.methodLink RL 86 yX5_bestAt ∈ wG := wg_4 124 rfl rfl
theorem m_inst_X5_bestAt : Cond.instanceMethod yX5_bestAt ∈ wG := wg_4 125 rfl rfl
theorem m_sel_X5_bestAt : Cond.selects RX5 yX5_bestAt yX5_bestAt ∈ wG := wg_4 126 rfl rfl
theorem m_code_X5_bestAt : Cond.code yX5_bestAt cX5_bestAt 3 (some .int) ∈ wG := wg_4 127 rfl rfl
theorem m_l_L_90 : Cond.methodLink RL 90 yX5_worth ∈ wG := wg_4 128 rfl rfl
theorem m_inst_X5_worth : Cond.instanceMethod yX5_worth ∈ wG := wg_4 129 rfl rfl
theorem m_sel_X5_worth : Cond.selects RX5 yX5_worth yX5_worth ∈ wG := wg_4 130 rfl rfl
theorem m_code_X5_worth : Cond.code yX5_worth cX5_worth 2 (some .int) ∈ wG := wg_4 131 rfl rfl
theorem m_l_X5_189 : Cond.methodLink RX5 189 yX5_mostOf ∈ wG := wg_4 132 rfl rfl
theorem m_inst_X5_mostOf : Cond.instanceMethod yX5_mostOf ∈ wG := wg_4 134 rfl rfl
theorem m_code_X5_mostOf : Cond.code yX5_mostOf cX5_mostOf 2 (some .int) ∈ wG := wg_4 135 rfl rfl
theorem m_l_L_94 : Cond.methodLink RL 94 yX5_makes ∈ wG := wg_4 136 rfl rfl
theorem m_inst_X5_makes : Cond.instanceMethod yX5_makes ∈ wG := wg_4 137 rfl rfl
theorem m_sel_X5_makes : Cond.selects RX5 yX5_makes yX5_makes ∈ wG := wg_4 138 rfl rfl
theorem m_code_X5_makes : Cond.code yX5_makes cX5_makes 3 (some .int) ∈ wG := wg_4 139 rfl rfl
theorem m_l_L_98 : Cond.methodLink RL 98 yX5_bestMakes ∈ wG := wg_4 140 rfl rfl
theorem m_inst_X5_bestMakes : Cond.instanceMethod yX5_bestMakes ∈ wG := wg_4 141 rfl rfl
theorem m_sel_X5_bestMakes : Cond.selects RX5 yX5_bestMakes yX5_bestMakes ∈ wG := wg_4 142 rfl rfl
theorem m_code_X5_bestMakes : Cond.code yX5_bestMakes cX5_bestMakes 4 (some .int) ∈ wG := wg_4 143 rfl rfl
theorem m_l_L_102 : Cond.methodLink RL 102 yX5_sets ∈ wG := wg_4 144 rfl rfl
theorem m_inst_X5_sets : Cond.instanceMethod yX5_sets ∈ wG := wg_4 145 rfl rfl
theorem m_sel_X5_sets : Cond.selects RX5 yX5_sets yX5_sets ∈ wG := wg_4 146 rfl rfl
theorem m_code_X5_sets : Cond.code yX5_sets cX5_sets 3 (some .int) ∈ wG := wg_4 147 rfl rfl
theorem m_l_L_106 : Cond.methodLink RL 106 yX5_crossings ∈ wG := wg_4 148 rfl rfl
theorem m_inst_X5_crossings : Cond.instanceMethod yX5_crossings ∈ wG := wg_4 149 rfl rfl
theorem m_sel_X5_crossings : Cond.selects RX5 yX5_crossings yX5_crossings ∈ wG := wg_4 150 rfl rfl
theorem m_code_X5_crossings : Cond.code yX5_crossings cX5_crossings 4 (some .int) ∈ wG := wg_4 151 rfl rfl
theorem m_l_X5_192 : Cond.methodLink RX5 192 yX5_layFewest ∈ wG := wg_4 152 rfl rfl
theorem m_inst_X5_layFewest : Cond.instanceMethod yX5_layFewest ∈ wG := wg_4 154 rfl rfl
theorem m_code_X5_layFewest : Cond.code yX5_layFewest cX5_layFewest 4 none ∈ wG := wg_4 155 rfl rfl
theorem m_l_L_110 : Cond.methodLink RL 110 yX5_all ∈ wG := wg_4 156 rfl rfl
theorem m_inst_X5_all : Cond.instanceMethod yX5_all ∈ wG := wg_4 157 rfl rfl
theorem m_sel_X5_all : Cond.selects RX5 yX5_all yX5_all ∈ wG := wg_4 158 rfl rfl
theorem m_code_X5_all : Cond.code yX5_all cX5_all 1 (some .int) ∈ wG := wg_4 159 rfl rfl
theorem m_l_L_114 : Cond.methodLink RL 114 yX5_rule ∈ wG := wg_4 160 rfl rfl
theorem m_inst_X5_rule : Cond.instanceMethod yX5_rule ∈ wG := wg_4 161 rfl rfl
theorem m_sel_X5_rule : Cond.selects RX5 yX5_rule yX5_rule ∈ wG := wg_4 162 rfl rfl
theorem m_code_X5_rule : Cond.code yX5_rule cX5_rule 1 (some .int) ∈ wG := wg_4 163 rfl rfl
theorem m_l_X5_195 : Cond.methodLink RX5 195 yX5_layRule ∈ wG := wg_4 164 rfl rfl
theorem m_inst_X5_layRule : Cond.instanceMethod yX5_layRule ∈ wG := wg_4 166 rfl rfl
theorem m_code_X5_layRule : Cond.code yX5_layRule cX5_layRule 7 none ∈ wG := wg_4 167 rfl rfl
theorem m_l_L_118 : Cond.methodLink RL 118 yX5_ruleAt ∈ wG := wg_4 168 rfl rfl
theorem m_inst_X5_ruleAt : Cond.instanceMethod yX5_ruleAt ∈ wG := wg_4 169 rfl rfl
theorem m_sel_X5_ruleAt : Cond.selects RX5 yX5_ruleAt yX5_ruleAt ∈ wG := wg_4 170 rfl rfl
theorem m_code_X5_ruleAt : Cond.code yX5_ruleAt cX5_ruleAt 3 (some .int) ∈ wG := wg_4 171 rfl rfl
theorem m_l_L_122 : Cond.methodLink RL 122 yX5_claim ∈ wG := wg_4 172 rfl rfl
theorem m_inst_X5_claim : Cond.instanceMethod yX5_claim ∈ wG := wg_4 173 rfl rfl
theorem m_sel_X5_claim : Cond.selects RX5 yX5_claim yX5_claim ∈ wG := wg_4 174 rfl rfl
theorem m_code_X5_claim : Cond.code yX5_claim cX5_claim 4 (some .int) ∈ wG := wg_4 175 rfl rfl
theorem m_l_L_126 : Cond.methodLink RL 126 yX5_fits ∈ wG := wg_4 176 rfl rfl
theorem m_inst_X5_fits : Cond.instanceMethod yX5_fits ∈ wG := wg_4 177 rfl rfl
theorem m_sel_X5_fits : Cond.selects RX5 yX5_fits yX5_fits ∈ wG := wg_4 178 rfl rfl
theorem m_code_X5_fits : Cond.code yX5_fits cX5_fits 1 (some .int) ∈ wG := wg_4 179 rfl rfl
theorem m_l_X5_198 : Cond.methodLink RX5 198 yX5_allFit ∈ wG := wg_4 180 rfl rfl
theorem m_inst_X5_allFit : Cond.instanceMethod yX5_allFit ∈ wG := wg_4 182 rfl rfl
theorem m_code_X5_allFit : Cond.code yX5_allFit cX5_allFit 3 (some .boolean) ∈ wG := wg_4 183 rfl rfl
theorem m_l_L_130 : Cond.methodLink RL 130 yX5_liars ∈ wG := wg_4 184 rfl rfl
theorem m_inst_X5_liars : Cond.instanceMethod yX5_liars ∈ wG := wg_4 185 rfl rfl
theorem m_sel_X5_liars : Cond.selects RX5 yX5_liars yX5_liars ∈ wG := wg_4 186 rfl rfl
theorem m_code_X5_liars : Cond.code yX5_liars cX5_liars 3 (some .int) ∈ wG := wg_4 187 rfl rfl
theorem m_l_X5_202 : Cond.methodLink RX5 202 yX5_mayOf ∈ wG := wg_4 188 rfl rfl
theorem m_inst_X5_mayOf : Cond.instanceMethod yX5_mayOf ∈ wG := wg_4 190 rfl rfl
theorem m_code_X5_mayOf : Cond.code yX5_mayOf cX5_mayOf 5 (some .int) ∈ wG := wg_4 191 rfl rfl
theorem m_l_L_134 : Cond.methodLink RL 134 yX5_mayWeigh ∈ wG := wg_4 192 rfl rfl
theorem m_inst_X5_mayWeigh : Cond.instanceMethod yX5_mayWeigh ∈ wG := wg_4 193 rfl rfl
theorem m_sel_X5_mayWeigh : Cond.selects RX5 yX5_mayWeigh yX5_mayWeigh ∈ wG := wg_4 194 rfl rfl
theorem m_code_X5_mayWeigh : Cond.code yX5_mayWeigh cX5_mayWeigh 2 (some .int) ∈ wG := wg_4 195 rfl rfl
theorem m_l_L_138 : Cond.methodLink RL 138 yX5_keep ∈ wG := wg_4 196 rfl rfl
theorem m_inst_X5_keep : Cond.instanceMethod yX5_keep ∈ wG := wg_4 197 rfl rfl
theorem m_sel_X5_keep : Cond.selects RX5 yX5_keep yX5_keep ∈ wG := wg_4 198 rfl rfl
theorem m_code_X5_keep : Cond.code yX5_keep cX5_keep 3 (some .int) ∈ wG := wg_4 199 rfl rfl
theorem m_l_L_142 : Cond.methodLink RL 142 yX5_again ∈ wG := wg_4 200 rfl rfl
theorem m_inst_X5_again : Cond.instanceMethod yX5_again ∈ wG := wg_4 201 rfl rfl
theorem m_sel_X5_again : Cond.selects RX5 yX5_again yX5_again ∈ wG := wg_4 202 rfl rfl
theorem m_code_X5_again : Cond.code yX5_again cX5_again 3 (some .int) ∈ wG := wg_4 203 rfl rfl
theorem m_l_L_146 : Cond.methodLink RL 146 yX5_count ∈ wG := wg_4 204 rfl rfl
theorem m_inst_X5_count : Cond.instanceMethod yX5_count ∈ wG := wg_4 205 rfl rfl
theorem m_sel_X5_count : Cond.selects RX5 yX5_count yX5_count ∈ wG := wg_4 206 rfl rfl
theorem m_code_X5_count : Cond.code yX5_count cX5_count 4 (some .int) ∈ wG := wg_4 207 rfl rfl
theorem m_c_L_13 : Cond.constantLong RL 13 (4294967295) ∈ wG := wg_4 208 rfl rfl
theorem m_sel_X3_mayStand : Cond.selects RX3 yX3_mayStand yX3_mayStand ∈ wG := wg_p (wp_1 0 rfl) rfl
theorem m_sel_X3_mayStandInPerson : Cond.selects RX3 yX3_mayStandInPerson yX3_mayStandInPerson ∈ wG := wg_p (wp_1 1 rfl) rfl
theorem m_sel_X3_byteAt : Cond.selects RX3 yX3_byteAt yX3_byteAt ∈ wG := wg_p (wp_1 2 rfl) rfl
theorem m_sel_X3_isFigure : Cond.selects RX3 yX3_isFigure yX3_isFigure ∈ wG := wg_p (wp_1 3 rfl) rfl
theorem m_sel_X2_prepare : Cond.selects RX2 yX2_prepare yX2_prepare ∈ wG := wg_p (wp_1 4 rfl) rfl
theorem m_sel_X2_weighSets : Cond.selects RX2 yX2_weighSets yX2_weighSets ∈ wG := wg_p (wp_1 5 rfl) rfl
theorem m_sel_X2_searchWithLast : Cond.selects RX2 yX2_searchWithLast yX2_searchWithLast ∈ wG := wg_p (wp_1 6 rfl) rfl
theorem m_sel_X2_pullOf : Cond.selects RX2 yX2_pullOf yX2_pullOf ∈ wG := wg_p (wp_1 7 rfl) rfl
theorem m_sel_X2_tryLast : Cond.selects RX2 yX2_tryLast yX2_tryLast ∈ wG := wg_p (wp_1 8 rfl) rfl
theorem m_sel_X2_noteMakeWeight : Cond.selects RX2 yX2_noteMakeWeight yX2_noteMakeWeight ∈ wG := wg_p (wp_1 9 rfl) rfl
theorem m_sel_X2_noteChoice : Cond.selects RX2 yX2_noteChoice yX2_noteChoice ∈ wG := wg_p (wp_1 10 rfl) rfl
theorem m_sel_X2_trySecond : Cond.selects RX2 yX2_trySecond yX2_trySecond ∈ wG := wg_p (wp_1 11 rfl) rfl
theorem m_sel_X2_fewestOf : Cond.selects RX2 yX2_fewestOf yX2_fewestOf ∈ wG := wg_p (wp_1 12 rfl) rfl
theorem m_sel_X4_crewByRule : Cond.selects RX4 yX4_crewByRule yX4_crewByRule ∈ wG := wg_p (wp_1 13 rfl) rfl
theorem m_sel_X4_lightestEnd : Cond.selects RX4 yX4_lightestEnd yX4_lightestEnd ∈ wG := wg_p (wp_1 14 rfl) rfl
theorem m_sel_X4_boatsFitBut : Cond.selects RX4 yX4_boatsFitBut yX4_boatsFitBut ∈ wG := wg_p (wp_1 15 rfl) rfl
theorem m_sel_X4_claimsThatFit : Cond.selects RX4 yX4_claimsThatFit yX4_claimsThatFit ∈ wG := wg_p (wp_2 0 rfl) rfl
theorem m_sel_X4_slotOf : Cond.selects RX4 yX4_slotOf yX4_slotOf ∈ wG := wg_p (wp_2 1 rfl) rfl
theorem m_sel_X5_readText : Cond.selects RX5 yX5_readText yX5_readText ∈ wG := wg_p (wp_2 2 rfl) rfl
theorem m_sel_X5_figure : Cond.selects RX5 yX5_figure yX5_figure ∈ wG := wg_p (wp_2 3 rfl) rfl
theorem m_sel_X5_isPerson : Cond.selects RX5 yX5_isPerson yX5_isPerson ∈ wG := wg_p (wp_2 4 rfl) rfl
theorem m_sel_X5_isEnd : Cond.selects RX5 yX5_isEnd yX5_isEnd ∈ wG := wg_p (wp_2 5 rfl) rfl
theorem m_sel_X5_willSit : Cond.selects RX5 yX5_willSit yX5_willSit ∈ wG := wg_p (wp_2 6 rfl) rfl
theorem m_sel_X5_whoAt : Cond.selects RX5 yX5_whoAt yX5_whoAt ∈ wG := wg_p (wp_2 7 rfl) rfl
theorem m_sel_X5_laid : Cond.selects RX5 yX5_laid yX5_laid ∈ wG := wg_p (wp_2 8 rfl) rfl
theorem m_sel_X5_heavy : Cond.selects RX5 yX5_heavy yX5_heavy ∈ wG := wg_p (wp_2 9 rfl) rfl
theorem m_sel_X5_weightOf : Cond.selects RX5 yX5_weightOf yX5_weightOf ∈ wG := wg_p (wp_2 10 rfl) rfl
theorem m_sel_X5_offOf : Cond.selects RX5 yX5_offOf yX5_offOf ∈ wG := wg_p (wp_2 11 rfl) rfl
theorem m_sel_X5_isLevel : Cond.selects RX5 yX5_isLevel yX5_isLevel ∈ wG := wg_p (wp_2 12 rfl) rfl
theorem m_sel_X5_isEven : Cond.selects RX5 yX5_isEven yX5_isEven ∈ wG := wg_p (wp_2 13 rfl) rfl
theorem m_sel_X5_fares : Cond.selects RX5 yX5_fares yX5_fares ∈ wG := wg_p (wp_2 14 rfl) rfl
theorem m_sel_X5_waiting : Cond.selects RX5 yX5_waiting yX5_waiting ∈ wG := wg_p (wp_2 15 rfl) rfl
theorem m_sel_X5_layChoices : Cond.selects RX5 yX5_layChoices yX5_layChoices ∈ wG := wg_p (wp_3 0 rfl) rfl
theorem m_sel_X5_laySets : Cond.selects RX5 yX5_laySets yX5_laySets ∈ wG := wg_p (wp_3 1 rfl) rfl
theorem m_sel_X5_better : Cond.selects RX5 yX5_better yX5_better ∈ wG := wg_p (wp_3 2 rfl) rfl
theorem m_sel_X5_layMakes : Cond.selects RX5 yX5_layMakes yX5_layMakes ∈ wG := wg_p (wp_3 3 rfl) rfl
theorem m_sel_X5_lacks : Cond.selects RX5 yX5_lacks yX5_lacks ∈ wG := wg_p (wp_3 4 rfl) rfl
theorem m_sel_X5_mostOf : Cond.selects RX5 yX5_mostOf yX5_mostOf ∈ wG := wg_p (wp_3 5 rfl) rfl
theorem m_sel_X5_layFewest : Cond.selects RX5 yX5_layFewest yX5_layFewest ∈ wG := wg_p (wp_3 6 rfl) rfl
theorem m_sel_X5_layRule : Cond.selects RX5 yX5_layRule yX5_layRule ∈ wG := wg_p (wp_3 7 rfl) rfl
theorem m_sel_X5_allFit : Cond.selects RX5 yX5_allFit yX5_allFit ∈ wG := wg_p (wp_3 8 rfl) rfl
theorem m_sel_X5_mayOf : Cond.selects RX5 yX5_mayOf yX5_mayOf ∈ wG := wg_p (wp_3 9 rfl) rfl
theorem in_X0 : ∀ w ∈ u_ws RX0 TX0 9, w ∈ wG := List.forall_mem_cons.mpr ⟨m_lay_X0_0, List.forall_mem_cons.mpr ⟨m_lay_X0_1, List.forall_mem_cons.mpr ⟨m_lay_X0_2, List.forall_mem_cons.mpr ⟨m_lay_X0_3, List.forall_mem_cons.mpr ⟨m_lay_X0_4, List.forall_mem_cons.mpr ⟨m_lay_X0_5, List.forall_mem_cons.mpr ⟨m_lay_X0_6, List.forall_mem_cons.mpr ⟨m_lay_X0_7, List.forall_mem_cons.mpr ⟨m_lay_X0_8, fun _ h => absurd h List.not_mem_nil⟩⟩⟩⟩⟩⟩⟩⟩⟩
theorem in_X1 : ∀ w ∈ u_ws RX1 TX1 6, w ∈ wG := List.forall_mem_cons.mpr ⟨m_lay_X1_0, List.forall_mem_cons.mpr ⟨m_lay_X1_1, List.forall_mem_cons.mpr ⟨m_lay_X1_2, List.forall_mem_cons.mpr ⟨m_lay_X1_3, List.forall_mem_cons.mpr ⟨m_lay_X1_4, List.forall_mem_cons.mpr ⟨m_lay_X1_5, fun _ h => absurd h List.not_mem_nil⟩⟩⟩⟩⟩⟩
theorem in_X2 : ∀ w ∈ u_ws RX2 TX2 17, w ∈ wG := List.forall_mem_cons.mpr ⟨m_lay_X2_0, List.forall_mem_cons.mpr ⟨m_lay_X2_1, List.forall_mem_cons.mpr ⟨m_lay_X2_2, List.forall_mem_cons.mpr ⟨m_lay_X2_3, List.forall_mem_cons.mpr ⟨m_lay_X2_4, List.forall_mem_cons.mpr ⟨m_lay_X2_5, List.forall_mem_cons.mpr ⟨m_lay_X2_6, List.forall_mem_cons.mpr ⟨m_lay_X2_7, List.forall_mem_cons.mpr ⟨m_lay_X2_8, List.forall_mem_cons.mpr ⟨m_lay_X2_9, List.forall_mem_cons.mpr ⟨m_lay_X2_10, List.forall_mem_cons.mpr ⟨m_lay_X2_11, List.forall_mem_cons.mpr ⟨m_lay_X2_12, List.forall_mem_cons.mpr ⟨m_lay_X2_13, List.forall_mem_cons.mpr ⟨m_lay_X2_14, List.forall_mem_cons.mpr ⟨m_lay_X2_15, List.forall_mem_cons.mpr ⟨m_lay_X2_16, fun _ h => absurd h List.not_mem_nil⟩⟩⟩⟩⟩⟩⟩⟩⟩⟩⟩⟩⟩⟩⟩⟩⟩
theorem in_X3 : ∀ w ∈ u_ws RX3 TX3 2, w ∈ wG := List.forall_mem_cons.mpr ⟨m_lay_X3_0, List.forall_mem_cons.mpr ⟨m_lay_X3_1, fun _ h => absurd h List.not_mem_nil⟩⟩
theorem in_X4 : ∀ w ∈ u_ws RX4 TX4 6, w ∈ wG := List.forall_mem_cons.mpr ⟨m_lay_X4_0, List.forall_mem_cons.mpr ⟨m_lay_X4_1, List.forall_mem_cons.mpr ⟨m_lay_X4_2, List.forall_mem_cons.mpr ⟨m_lay_X4_3, List.forall_mem_cons.mpr ⟨m_lay_X4_4, List.forall_mem_cons.mpr ⟨m_lay_X4_5, fun _ h => absurd h List.not_mem_nil⟩⟩⟩⟩⟩⟩
theorem in_X5 : ∀ w ∈ u_ws RX5 TX5 29, w ∈ wG := List.forall_mem_cons.mpr ⟨m_lay_X5_0, List.forall_mem_cons.mpr ⟨m_lay_X5_1, List.forall_mem_cons.mpr ⟨m_lay_X5_2, List.forall_mem_cons.mpr ⟨m_lay_X5_3, List.forall_mem_cons.mpr ⟨m_lay_X5_4, List.forall_mem_cons.mpr ⟨m_lay_X5_5, List.forall_mem_cons.mpr ⟨m_lay_X5_6, List.forall_mem_cons.mpr ⟨m_lay_X5_7, List.forall_mem_cons.mpr ⟨m_lay_X5_8, List.forall_mem_cons.mpr ⟨m_lay_X5_9, List.forall_mem_cons.mpr ⟨m_lay_X5_10, List.forall_mem_cons.mpr ⟨m_lay_X5_11, List.forall_mem_cons.mpr ⟨m_lay_X5_12, List.forall_mem_cons.mpr ⟨m_lay_X5_13, List.forall_mem_cons.mpr ⟨m_lay_X5_14, List.forall_mem_cons.mpr ⟨m_lay_X5_15, List.forall_mem_cons.mpr ⟨m_lay_X5_16, List.forall_mem_cons.mpr ⟨m_lay_X5_17, List.forall_mem_cons.mpr ⟨m_lay_X5_18, List.forall_mem_cons.mpr ⟨m_lay_X5_19, List.forall_mem_cons.mpr ⟨m_lay_X5_20, List.forall_mem_cons.mpr ⟨m_lay_X5_21, List.forall_mem_cons.mpr ⟨m_lay_X5_22, List.forall_mem_cons.mpr ⟨m_lay_X5_23, List.forall_mem_cons.mpr ⟨m_lay_X5_24, List.forall_mem_cons.mpr ⟨m_lay_X5_25, List.forall_mem_cons.mpr ⟨m_lay_X5_26, List.forall_mem_cons.mpr ⟨m_lay_X5_27, List.forall_mem_cons.mpr ⟨m_lay_X5_28, fun _ h => absurd h List.not_mem_nil⟩⟩⟩⟩⟩⟩⟩⟩⟩⟩⟩⟩⟩⟩⟩⟩⟩⟩⟩⟩⟩⟩⟩⟩⟩⟩⟩⟩⟩
end
section
theorem dX0_init_0 : decode cX0_init 0 = .ok (.aload_n 0, 1) := by decide +kernel
theorem dX0_init_1 : decode cX0_init 1 = .ok (.invokespecial 3, 3) := by decide +kernel
theorem dX0_init_4 : decode cX0_init 4 = .ok (.aload_n 0, 1) := by decide +kernel
theorem dX0_init_5 : decode cX0_init 5 = .ok (.iconst 2, 1) := by decide +kernel
theorem dX0_init_6 : decode cX0_init 6 = .ok (.putfield 9, 3) := by decide +kernel
theorem dX0_init_9 : decode cX0_init 9 = .ok (.aload_n 0, 1) := by decide +kernel
theorem dX0_init_10 : decode cX0_init 10 = .ok (.iconst 1, 1) := by decide +kernel
theorem dX0_init_11 : decode cX0_init 11 = .ok (.putfield 15, 3) := by decide +kernel
theorem dX0_init_14 : decode cX0_init 14 = .ok (.aload_n 0, 1) := by decide +kernel
theorem dX0_init_15 : decode cX0_init 15 = .ok (.iconst 1, 1) := by decide +kernel
theorem dX0_init_16 : decode cX0_init 16 = .ok (.putfield 18, 3) := by decide +kernel
theorem dX0_init_19 : decode cX0_init 19 = .ok (.aload_n 0, 1) := by decide +kernel
theorem dX0_init_20 : decode cX0_init 20 = .ok (.bipush 8, 2) := by decide +kernel
theorem dX0_init_22 : decode cX0_init 22 = .ok (.putfield 21, 3) := by decide +kernel
theorem dX0_init_25 : decode cX0_init 25 = .ok (.aload_n 0, 1) := by decide +kernel
theorem dX0_init_26 : decode cX0_init 26 = .ok (.iconst 0, 1) := by decide +kernel
theorem dX0_init_27 : decode cX0_init 27 = .ok (.putfield 24, 3) := by decide +kernel
theorem dX0_init_30 : decode cX0_init 30 = .ok (.aload_n 0, 1) := by decide +kernel
theorem dX0_init_31 : decode cX0_init 31 = .ok (.iconst 0, 1) := by decide +kernel
theorem dX0_init_32 : decode cX0_init 32 = .ok (.putfield 27, 3) := by decide +kernel
theorem dX0_init_35 : decode cX0_init 35 = .ok (.aload_n 0, 1) := by decide +kernel
theorem dX0_init_36 : decode cX0_init 36 = .ok (.bipush 8, 2) := by decide +kernel
theorem dX0_init_38 : decode cX0_init 38 = .ok (.newarray .int, 2) := by decide +kernel
theorem dX0_init_40 : decode cX0_init 40 = .ok (.putfield 30, 3) := by decide +kernel
theorem dX0_init_43 : decode cX0_init 43 = .ok (.aload_n 0, 1) := by decide +kernel
theorem dX0_init_44 : decode cX0_init 44 = .ok (.bipush 8, 2) := by decide +kernel
theorem dX0_init_46 : decode cX0_init 46 = .ok (.newarray .int, 2) := by decide +kernel
theorem dX0_init_48 : decode cX0_init 48 = .ok (.putfield 34, 3) := by decide +kernel
theorem dX0_init_51 : decode cX0_init 51 = .ok (.aload_n 0, 1) := by decide +kernel
theorem dX0_init_52 : decode cX0_init 52 = .ok (.bipush 8, 2) := by decide +kernel
theorem dX0_init_54 : decode cX0_init 54 = .ok (.newarray .int, 2) := by decide +kernel
theorem dX0_init_56 : decode cX0_init 56 = .ok (.putfield 37, 3) := by decide +kernel
theorem dX0_init_59 : decode cX0_init 59 = .ok (.return_, 1) := by decide +kernel
theorem dX0_readFrom_0 : decode cX0_readFrom 0 = .ok (.aload_n 0, 1) := by decide +kernel
theorem dX0_readFrom_1 : decode cX0_readFrom 1 = .ok (.aload_n 1, 1) := by decide +kernel
theorem dX0_readFrom_2 : decode cX0_readFrom 2 = .ok (.iconst 1, 1) := by decide +kernel
theorem dX0_readFrom_3 : decode cX0_readFrom 3 = .ok (.invokevirtual 40, 3) := by decide +kernel
theorem dX0_readFrom_6 : decode cX0_readFrom 6 = .ok (.putfield 9, 3) := by decide +kernel
theorem dX0_readFrom_9 : decode cX0_readFrom 9 = .ok (.aload_n 0, 1) := by decide +kernel
theorem dX0_readFrom_10 : decode cX0_readFrom 10 = .ok (.aload_n 1, 1) := by decide +kernel
theorem dX0_readFrom_11 : decode cX0_readFrom 11 = .ok (.iconst 2, 1) := by decide +kernel
theorem dX0_readFrom_12 : decode cX0_readFrom 12 = .ok (.invokevirtual 40, 3) := by decide +kernel
theorem dX0_readFrom_15 : decode cX0_readFrom 15 = .ok (.putfield 15, 3) := by decide +kernel
theorem dX0_readFrom_18 : decode cX0_readFrom 18 = .ok (.aload_n 0, 1) := by decide +kernel
theorem dX0_readFrom_19 : decode cX0_readFrom 19 = .ok (.aload_n 1, 1) := by decide +kernel
theorem dX0_readFrom_20 : decode cX0_readFrom 20 = .ok (.iconst 3, 1) := by decide +kernel
theorem dX0_readFrom_21 : decode cX0_readFrom 21 = .ok (.invokevirtual 40, 3) := by decide +kernel
theorem dX0_readFrom_24 : decode cX0_readFrom 24 = .ok (.putfield 18, 3) := by decide +kernel
theorem dX0_readFrom_27 : decode cX0_readFrom 27 = .ok (.aload_n 0, 1) := by decide +kernel
theorem dX0_readFrom_28 : decode cX0_readFrom 28 = .ok (.aload_n 1, 1) := by decide +kernel
theorem dX0_readFrom_29 : decode cX0_readFrom 29 = .ok (.iconst 4, 1) := by decide +kernel
theorem dX0_readFrom_30 : decode cX0_readFrom 30 = .ok (.invokevirtual 40, 3) := by decide +kernel
theorem dX0_readFrom_33 : decode cX0_readFrom 33 = .ok (.putfield 21, 3) := by decide +kernel
theorem dX0_readFrom_36 : decode cX0_readFrom 36 = .ok (.aload_n 0, 1) := by decide +kernel
theorem dX0_readFrom_37 : decode cX0_readFrom 37 = .ok (.aload_n 1, 1) := by decide +kernel
theorem dX0_readFrom_38 : decode cX0_readFrom 38 = .ok (.iconst 5, 1) := by decide +kernel
theorem dX0_readFrom_39 : decode cX0_readFrom 39 = .ok (.invokevirtual 40, 3) := by decide +kernel
theorem dX0_readFrom_42 : decode cX0_readFrom 42 = .ok (.putfield 24, 3) := by decide +kernel
theorem dX0_readFrom_45 : decode cX0_readFrom 45 = .ok (.aload_n 0, 1) := by decide +kernel
theorem dX0_readFrom_46 : decode cX0_readFrom 46 = .ok (.bipush 8, 2) := by decide +kernel
theorem dX0_readFrom_48 : decode cX0_readFrom 48 = .ok (.aload_n 1, 1) := by decide +kernel
theorem dX0_readFrom_49 : decode cX0_readFrom 49 = .ok (.getfield 46, 3) := by decide +kernel
theorem dX0_readFrom_52 : decode cX0_readFrom 52 = .ok (.bipush 6, 2) := by decide +kernel
theorem dX0_readFrom_54 : decode cX0_readFrom 54 = .ok (.isub, 1) := by decide +kernel
theorem dX0_readFrom_55 : decode cX0_readFrom 55 = .ok (.iconst 5, 1) := by decide +kernel
theorem dX0_readFrom_56 : decode cX0_readFrom 56 = .ok (.idiv, 1) := by decide +kernel
theorem dX0_readFrom_57 : decode cX0_readFrom 57 = .ok (.invokestatic 49, 3) := by decide +kernel
theorem dX0_readFrom_60 : decode cX0_readFrom 60 = .ok (.putfield 27, 3) := by decide +kernel
theorem dX0_readFrom_63 : decode cX0_readFrom 63 = .ok (.iconst 0, 1) := by decide +kernel
theorem dX0_readFrom_64 : decode cX0_readFrom 64 = .ok (.istore_n 2, 1) := by decide +kernel
theorem dX0_readFrom_65 : decode cX0_readFrom 65 = .ok (.iload_n 2, 1) := by decide +kernel
theorem dX0_readFrom_66 : decode cX0_readFrom 66 = .ok (.aload_n 0, 1) := by decide +kernel
theorem dX0_readFrom_67 : decode cX0_readFrom 67 = .ok (.getfield 27, 3) := by decide +kernel
theorem dX0_readFrom_70 : decode cX0_readFrom 70 = .ok (.if_icmp .ge 66, 3) := by decide +kernel
theorem dX0_readFrom_73 : decode cX0_readFrom 73 = .ok (.bipush 6, 2) := by decide +kernel
theorem dX0_readFrom_75 : decode cX0_readFrom 75 = .ok (.iload_n 2, 1) := by decide +kernel
theorem dX0_readFrom_76 : decode cX0_readFrom 76 = .ok (.iconst 5, 1) := by decide +kernel
theorem dX0_readFrom_77 : decode cX0_readFrom 77 = .ok (.imul, 1) := by decide +kernel
theorem dX0_readFrom_78 : decode cX0_readFrom 78 = .ok (.iadd, 1) := by decide +kernel
theorem dX0_readFrom_79 : decode cX0_readFrom 79 = .ok (.istore_n 3, 1) := by decide +kernel
theorem dX0_readFrom_80 : decode cX0_readFrom 80 = .ok (.aload_n 0, 1) := by decide +kernel
theorem dX0_readFrom_81 : decode cX0_readFrom 81 = .ok (.getfield 30, 3) := by decide +kernel
theorem dX0_readFrom_84 : decode cX0_readFrom 84 = .ok (.iload_n 2, 1) := by decide +kernel
theorem dX0_readFrom_85 : decode cX0_readFrom 85 = .ok (.bipush 10, 2) := by decide +kernel
theorem dX0_readFrom_87 : decode cX0_readFrom 87 = .ok (.aload_n 1, 1) := by decide +kernel
theorem dX0_readFrom_88 : decode cX0_readFrom 88 = .ok (.iload_n 3, 1) := by decide +kernel
theorem dX0_readFrom_89 : decode cX0_readFrom 89 = .ok (.iconst 1, 1) := by decide +kernel
theorem dX0_readFrom_90 : decode cX0_readFrom 90 = .ok (.iadd, 1) := by decide +kernel
theorem dX0_readFrom_91 : decode cX0_readFrom 91 = .ok (.invokevirtual 40, 3) := by decide +kernel
theorem dX0_readFrom_94 : decode cX0_readFrom 94 = .ok (.imul, 1) := by decide +kernel
theorem dX0_readFrom_95 : decode cX0_readFrom 95 = .ok (.aload_n 1, 1) := by decide +kernel
theorem dX0_readFrom_96 : decode cX0_readFrom 96 = .ok (.iload_n 3, 1) := by decide +kernel
theorem dX0_readFrom_97 : decode cX0_readFrom 97 = .ok (.iconst 2, 1) := by decide +kernel
theorem dX0_readFrom_98 : decode cX0_readFrom 98 = .ok (.iadd, 1) := by decide +kernel
theorem dX0_readFrom_99 : decode cX0_readFrom 99 = .ok (.invokevirtual 40, 3) := by decide +kernel
theorem dX0_readFrom_102 : decode cX0_readFrom 102 = .ok (.iadd, 1) := by decide +kernel
theorem dX0_readFrom_103 : decode cX0_readFrom 103 = .ok (.iastore, 1) := by decide +kernel
theorem dX0_readFrom_104 : decode cX0_readFrom 104 = .ok (.aload_n 0, 1) := by decide +kernel
theorem dX0_readFrom_105 : decode cX0_readFrom 105 = .ok (.getfield 34, 3) := by decide +kernel
theorem dX0_readFrom_108 : decode cX0_readFrom 108 = .ok (.iload_n 2, 1) := by decide +kernel
theorem dX0_readFrom_109 : decode cX0_readFrom 109 = .ok (.aload_n 1, 1) := by decide +kernel
theorem dX0_readFrom_110 : decode cX0_readFrom 110 = .ok (.iload_n 3, 1) := by decide +kernel
theorem dX0_readFrom_111 : decode cX0_readFrom 111 = .ok (.iconst 3, 1) := by decide +kernel
theorem dX0_readFrom_112 : decode cX0_readFrom 112 = .ok (.iadd, 1) := by decide +kernel
theorem dX0_readFrom_113 : decode cX0_readFrom 113 = .ok (.invokevirtual 40, 3) := by decide +kernel
theorem dX0_readFrom_116 : decode cX0_readFrom 116 = .ok (.iastore, 1) := by decide +kernel
theorem dX0_readFrom_117 : decode cX0_readFrom 117 = .ok (.aload_n 0, 1) := by decide +kernel
theorem dX0_readFrom_118 : decode cX0_readFrom 118 = .ok (.getfield 37, 3) := by decide +kernel
theorem dX0_readFrom_121 : decode cX0_readFrom 121 = .ok (.iload_n 2, 1) := by decide +kernel
theorem dX0_readFrom_122 : decode cX0_readFrom 122 = .ok (.aload_n 1, 1) := by decide +kernel
theorem dX0_readFrom_123 : decode cX0_readFrom 123 = .ok (.iload_n 3, 1) := by decide +kernel
theorem dX0_readFrom_124 : decode cX0_readFrom 124 = .ok (.iconst 4, 1) := by decide +kernel
theorem dX0_readFrom_125 : decode cX0_readFrom 125 = .ok (.iadd, 1) := by decide +kernel
theorem dX0_readFrom_126 : decode cX0_readFrom 126 = .ok (.invokevirtual 40, 3) := by decide +kernel
theorem dX0_readFrom_129 : decode cX0_readFrom 129 = .ok (.iastore, 1) := by decide +kernel
theorem dX0_readFrom_130 : decode cX0_readFrom 130 = .ok (.iinc 2 1, 3) := by decide +kernel
theorem dX0_readFrom_133 : decode cX0_readFrom 133 = .ok (.goto (-68), 3) := by decide +kernel
theorem dX0_readFrom_136 : decode cX0_readFrom 136 = .ok (.return_, 1) := by decide +kernel
theorem dX0_hasPerson_0 : decode cX0_hasPerson 0 = .ok (.iload_n 1, 1) := by decide +kernel
theorem dX0_hasPerson_1 : decode cX0_hasPerson 1 = .ok (.ifCond .lt 15, 3) := by decide +kernel
theorem dX0_hasPerson_4 : decode cX0_hasPerson 4 = .ok (.iload_n 1, 1) := by decide +kernel
theorem dX0_hasPerson_5 : decode cX0_hasPerson 5 = .ok (.aload_n 0, 1) := by decide +kernel
theorem dX0_hasPerson_6 : decode cX0_hasPerson 6 = .ok (.getfield 27, 3) := by decide +kernel
theorem dX0_hasPerson_9 : decode cX0_hasPerson 9 = .ok (.if_icmp .ge 7, 3) := by decide +kernel
theorem dX0_hasPerson_12 : decode cX0_hasPerson 12 = .ok (.iconst 1, 1) := by decide +kernel
theorem dX0_hasPerson_13 : decode cX0_hasPerson 13 = .ok (.goto 4, 3) := by decide +kernel
theorem dX0_hasPerson_16 : decode cX0_hasPerson 16 = .ok (.iconst 0, 1) := by decide +kernel
theorem dX0_hasPerson_17 : decode cX0_hasPerson 17 = .ok (.ireturn, 1) := by decide +kernel
theorem dX0_hasEnd_0 : decode cX0_hasEnd 0 = .ok (.iload_n 1, 1) := by decide +kernel
theorem dX0_hasEnd_1 : decode cX0_hasEnd 1 = .ok (.ifCond .lt 15, 3) := by decide +kernel
theorem dX0_hasEnd_4 : decode cX0_hasEnd 4 = .ok (.iload_n 1, 1) := by decide +kernel
theorem dX0_hasEnd_5 : decode cX0_hasEnd 5 = .ok (.aload_n 0, 1) := by decide +kernel
theorem dX0_hasEnd_6 : decode cX0_hasEnd 6 = .ok (.getfield 9, 3) := by decide +kernel
theorem dX0_hasEnd_9 : decode cX0_hasEnd 9 = .ok (.if_icmp .ge 7, 3) := by decide +kernel
theorem dX0_hasEnd_12 : decode cX0_hasEnd 12 = .ok (.iconst 1, 1) := by decide +kernel
theorem dX0_hasEnd_13 : decode cX0_hasEnd 13 = .ok (.goto 4, 3) := by decide +kernel
theorem dX0_hasEnd_16 : decode cX0_hasEnd 16 = .ok (.iconst 0, 1) := by decide +kernel
theorem dX0_hasEnd_17 : decode cX0_hasEnd 17 = .ok (.ireturn, 1) := by decide +kernel
theorem dX0_willSit_0 : decode cX0_willSit 0 = .ok (.aload_n 0, 1) := by decide +kernel
theorem dX0_willSit_1 : decode cX0_willSit 1 = .ok (.iload_n 2, 1) := by decide +kernel
theorem dX0_willSit_2 : decode cX0_willSit 2 = .ok (.invokevirtual 55, 3) := by decide +kernel
theorem dX0_willSit_5 : decode cX0_willSit 5 = .ok (.ifCond .eq 35, 3) := by decide +kernel
theorem dX0_willSit_8 : decode cX0_willSit 8 = .ok (.aload_n 0, 1) := by decide +kernel
theorem dX0_willSit_9 : decode cX0_willSit 9 = .ok (.iload_n 1, 1) := by decide +kernel
theorem dX0_willSit_10 : decode cX0_willSit 10 = .ok (.invokevirtual 59, 3) := by decide +kernel
theorem dX0_willSit_13 : decode cX0_willSit 13 = .ok (.ifCond .eq 27, 3) := by decide +kernel
theorem dX0_willSit_16 : decode cX0_willSit 16 = .ok (.aload_n 0, 1) := by decide +kernel
theorem dX0_willSit_17 : decode cX0_willSit 17 = .ok (.getfield 37, 3) := by decide +kernel
theorem dX0_willSit_20 : decode cX0_willSit 20 = .ok (.iload_n 1, 1) := by decide +kernel
theorem dX0_willSit_21 : decode cX0_willSit 21 = .ok (.iaload, 1) := by decide +kernel
theorem dX0_willSit_22 : decode cX0_willSit 22 = .ok (.iconst 3, 1) := by decide +kernel
theorem dX0_willSit_23 : decode cX0_willSit 23 = .ok (.if_icmp .eq 13, 3) := by decide +kernel
theorem dX0_willSit_26 : decode cX0_willSit 26 = .ok (.aload_n 0, 1) := by decide +kernel
theorem dX0_willSit_27 : decode cX0_willSit 27 = .ok (.getfield 37, 3) := by decide +kernel
theorem dX0_willSit_30 : decode cX0_willSit 30 = .ok (.iload_n 1, 1) := by decide +kernel
theorem dX0_willSit_31 : decode cX0_willSit 31 = .ok (.iaload, 1) := by decide +kernel
theorem dX0_willSit_32 : decode cX0_willSit 32 = .ok (.iload_n 2, 1) := by decide +kernel
theorem dX0_willSit_33 : decode cX0_willSit 33 = .ok (.if_icmp .ne 7, 3) := by decide +kernel
theorem dX0_willSit_36 : decode cX0_willSit 36 = .ok (.iconst 1, 1) := by decide +kernel
theorem dX0_willSit_37 : decode cX0_willSit 37 = .ok (.goto 4, 3) := by decide +kernel
theorem dX0_willSit_40 : decode cX0_willSit 40 = .ok (.iconst 0, 1) := by decide +kernel
theorem dX0_willSit_41 : decode cX0_willSit 41 = .ok (.ireturn, 1) := by decide +kernel
theorem dX0_armOf_0 : decode cX0_armOf 0 = .ok (.aload_n 0, 1) := by decide +kernel
theorem dX0_armOf_1 : decode cX0_armOf 1 = .ok (.getfield 9, 3) := by decide +kernel
theorem dX0_armOf_4 : decode cX0_armOf 4 = .ok (.iconst 2, 1) := by decide +kernel
theorem dX0_armOf_5 : decode cX0_armOf 5 = .ok (.if_icmp .eq 5, 3) := by decide +kernel
theorem dX0_armOf_8 : decode cX0_armOf 8 = .ok (.iconst 1, 1) := by decide +kernel
theorem dX0_armOf_9 : decode cX0_armOf 9 = .ok (.ireturn, 1) := by decide +kernel
theorem dX0_armOf_10 : decode cX0_armOf 10 = .ok (.iload_n 1, 1) := by decide +kernel
theorem dX0_armOf_11 : decode cX0_armOf 11 = .ok (.ifCond .ne 10, 3) := by decide +kernel
theorem dX0_armOf_14 : decode cX0_armOf 14 = .ok (.aload_n 0, 1) := by decide +kernel
theorem dX0_armOf_15 : decode cX0_armOf 15 = .ok (.getfield 15, 3) := by decide +kernel
theorem dX0_armOf_18 : decode cX0_armOf 18 = .ok (.goto 7, 3) := by decide +kernel
theorem dX0_armOf_21 : decode cX0_armOf 21 = .ok (.aload_n 0, 1) := by decide +kernel
theorem dX0_armOf_22 : decode cX0_armOf 22 = .ok (.getfield 18, 3) := by decide +kernel
theorem dX0_armOf_25 : decode cX0_armOf 25 = .ok (.ireturn, 1) := by decide +kernel
theorem dX0_faresOf_0 : decode cX0_faresOf 0 = .ok (.iconst 0, 1) := by decide +kernel
theorem dX0_faresOf_1 : decode cX0_faresOf 1 = .ok (.istore_n 2, 1) := by decide +kernel
theorem dX0_faresOf_2 : decode cX0_faresOf 2 = .ok (.iconst 0, 1) := by decide +kernel
theorem dX0_faresOf_3 : decode cX0_faresOf 3 = .ok (.istore_n 3, 1) := by decide +kernel
theorem dX0_faresOf_4 : decode cX0_faresOf 4 = .ok (.iload_n 3, 1) := by decide +kernel
theorem dX0_faresOf_5 : decode cX0_faresOf 5 = .ok (.aload_n 0, 1) := by decide +kernel
theorem dX0_faresOf_6 : decode cX0_faresOf 6 = .ok (.getfield 27, 3) := by decide +kernel
theorem dX0_faresOf_9 : decode cX0_faresOf 9 = .ok (.if_icmp .ge 26, 3) := by decide +kernel
theorem dX0_faresOf_12 : decode cX0_faresOf 12 = .ok (.iload_n 1, 1) := by decide +kernel
theorem dX0_faresOf_13 : decode cX0_faresOf 13 = .ok (.iload_n 3, 1) := by decide +kernel
theorem dX0_faresOf_14 : decode cX0_faresOf 14 = .ok (.ishr, 1) := by decide +kernel
theorem dX0_faresOf_15 : decode cX0_faresOf 15 = .ok (.iconst 1, 1) := by decide +kernel
theorem dX0_faresOf_16 : decode cX0_faresOf 16 = .ok (.iand, 1) := by decide +kernel
theorem dX0_faresOf_17 : decode cX0_faresOf 17 = .ok (.ifCond .eq 12, 3) := by decide +kernel
theorem dX0_faresOf_20 : decode cX0_faresOf 20 = .ok (.iload_n 2, 1) := by decide +kernel
theorem dX0_faresOf_21 : decode cX0_faresOf 21 = .ok (.aload_n 0, 1) := by decide +kernel
theorem dX0_faresOf_22 : decode cX0_faresOf 22 = .ok (.getfield 34, 3) := by decide +kernel
theorem dX0_faresOf_25 : decode cX0_faresOf 25 = .ok (.iload_n 3, 1) := by decide +kernel
theorem dX0_faresOf_26 : decode cX0_faresOf 26 = .ok (.iaload, 1) := by decide +kernel
theorem dX0_faresOf_27 : decode cX0_faresOf 27 = .ok (.iadd, 1) := by decide +kernel
theorem dX0_faresOf_28 : decode cX0_faresOf 28 = .ok (.istore_n 2, 1) := by decide +kernel
theorem dX0_faresOf_29 : decode cX0_faresOf 29 = .ok (.iinc 3 1, 3) := by decide +kernel
theorem dX0_faresOf_32 : decode cX0_faresOf 32 = .ok (.goto (-28), 3) := by decide +kernel
theorem dX0_faresOf_35 : decode cX0_faresOf 35 = .ok (.iload_n 2, 1) := by decide +kernel
theorem dX0_faresOf_36 : decode cX0_faresOf 36 = .ok (.ireturn, 1) := by decide +kernel
theorem dX0_loadOf_0 : decode cX0_loadOf 0 = .ok (.iload_n 1, 1) := by decide +kernel
theorem dX0_loadOf_1 : decode cX0_loadOf 1 = .ok (.iload_n 2, 1) := by decide +kernel
theorem dX0_loadOf_2 : decode cX0_loadOf 2 = .ok (.invokestatic 62, 3) := by decide +kernel
theorem dX0_loadOf_5 : decode cX0_loadOf 5 = .ok (.istore 6, 2) := by decide +kernel
theorem dX0_loadOf_7 : decode cX0_loadOf 7 = .ok (.iload_n 2, 1) := by decide +kernel
theorem dX0_loadOf_8 : decode cX0_loadOf 8 = .ok (.ifCond .ne 10, 3) := by decide +kernel
theorem dX0_loadOf_11 : decode cX0_loadOf 11 = .ok (.aload_n 0, 1) := by decide +kernel
theorem dX0_loadOf_12 : decode cX0_loadOf 12 = .ok (.getfield 24, 3) := by decide +kernel
theorem dX0_loadOf_15 : decode cX0_loadOf 15 = .ok (.goto 4, 3) := by decide +kernel
theorem dX0_loadOf_18 : decode cX0_loadOf 18 = .ok (.iconst 0, 1) := by decide +kernel
theorem dX0_loadOf_19 : decode cX0_loadOf 19 = .ok (.istore 7, 2) := by decide +kernel
theorem dX0_loadOf_21 : decode cX0_loadOf 21 = .ok (.iconst 0, 1) := by decide +kernel
theorem dX0_loadOf_22 : decode cX0_loadOf 22 = .ok (.istore 8, 2) := by decide +kernel
theorem dX0_loadOf_24 : decode cX0_loadOf 24 = .ok (.iload 8, 2) := by decide +kernel
theorem dX0_loadOf_26 : decode cX0_loadOf 26 = .ok (.aload_n 0, 1) := by decide +kernel
theorem dX0_loadOf_27 : decode cX0_loadOf 27 = .ok (.getfield 27, 3) := by decide +kernel
theorem dX0_loadOf_30 : decode cX0_loadOf 30 = .ok (.if_icmp .ge 38, 3) := by decide +kernel
theorem dX0_loadOf_33 : decode cX0_loadOf 33 = .ok (.iload 6, 2) := by decide +kernel
theorem dX0_loadOf_35 : decode cX0_loadOf 35 = .ok (.iload 8, 2) := by decide +kernel
theorem dX0_loadOf_37 : decode cX0_loadOf 37 = .ok (.ishr, 1) := by decide +kernel
theorem dX0_loadOf_38 : decode cX0_loadOf 38 = .ok (.iconst 1, 1) := by decide +kernel
theorem dX0_loadOf_39 : decode cX0_loadOf 39 = .ok (.iand, 1) := by decide +kernel
theorem dX0_loadOf_40 : decode cX0_loadOf 40 = .ok (.ifCond .eq 22, 3) := by decide +kernel
theorem dX0_loadOf_43 : decode cX0_loadOf 43 = .ok (.iload 7, 2) := by decide +kernel
theorem dX0_loadOf_45 : decode cX0_loadOf 45 = .ok (.aload_n 3, 1) := by decide +kernel
theorem dX0_loadOf_46 : decode cX0_loadOf 46 = .ok (.iload 8, 2) := by decide +kernel
theorem dX0_loadOf_48 : decode cX0_loadOf 48 = .ok (.iaload, 1) := by decide +kernel
theorem dX0_loadOf_49 : decode cX0_loadOf 49 = .ok (.aload 4, 2) := by decide +kernel
theorem dX0_loadOf_51 : decode cX0_loadOf 51 = .ok (.iload 8, 2) := by decide +kernel
theorem dX0_loadOf_53 : decode cX0_loadOf 53 = .ok (.iaload, 1) := by decide +kernel
theorem dX0_loadOf_54 : decode cX0_loadOf 54 = .ok (.iload 5, 2) := by decide +kernel
theorem dX0_loadOf_56 : decode cX0_loadOf 56 = .ok (.invokestatic 65, 3) := by decide +kernel
theorem dX0_loadOf_59 : decode cX0_loadOf 59 = .ok (.iadd, 1) := by decide +kernel
theorem dX0_loadOf_60 : decode cX0_loadOf 60 = .ok (.istore 7, 2) := by decide +kernel
theorem dX0_loadOf_62 : decode cX0_loadOf 62 = .ok (.iinc 8 1, 3) := by decide +kernel
theorem dX0_loadOf_65 : decode cX0_loadOf 65 = .ok (.goto (-41), 3) := by decide +kernel
theorem dX0_loadOf_68 : decode cX0_loadOf 68 = .ok (.iload 7, 2) := by decide +kernel
theorem dX0_loadOf_70 : decode cX0_loadOf 70 = .ok (.ireturn, 1) := by decide +kernel
theorem dX0_tiltOf_0 : decode cX0_tiltOf 0 = .ok (.aload_n 0, 1) := by decide +kernel
theorem dX0_tiltOf_1 : decode cX0_tiltOf 1 = .ok (.iload_n 1, 1) := by decide +kernel
theorem dX0_tiltOf_2 : decode cX0_tiltOf 2 = .ok (.iconst 0, 1) := by decide +kernel
theorem dX0_tiltOf_3 : decode cX0_tiltOf 3 = .ok (.aload_n 2, 1) := by decide +kernel
theorem dX0_tiltOf_4 : decode cX0_tiltOf 4 = .ok (.aload_n 3, 1) := by decide +kernel
theorem dX0_tiltOf_5 : decode cX0_tiltOf 5 = .ok (.iload 4, 2) := by decide +kernel
theorem dX0_tiltOf_7 : decode cX0_tiltOf 7 = .ok (.invokevirtual 69, 3) := by decide +kernel
theorem dX0_tiltOf_10 : decode cX0_tiltOf 10 = .ok (.istore 5, 2) := by decide +kernel
theorem dX0_tiltOf_12 : decode cX0_tiltOf 12 = .ok (.aload_n 0, 1) := by decide +kernel
theorem dX0_tiltOf_13 : decode cX0_tiltOf 13 = .ok (.iload_n 1, 1) := by decide +kernel
theorem dX0_tiltOf_14 : decode cX0_tiltOf 14 = .ok (.iconst 1, 1) := by decide +kernel
theorem dX0_tiltOf_15 : decode cX0_tiltOf 15 = .ok (.aload_n 2, 1) := by decide +kernel
theorem dX0_tiltOf_16 : decode cX0_tiltOf 16 = .ok (.aload_n 3, 1) := by decide +kernel
theorem dX0_tiltOf_17 : decode cX0_tiltOf 17 = .ok (.iload 4, 2) := by decide +kernel
theorem dX0_tiltOf_19 : decode cX0_tiltOf 19 = .ok (.invokevirtual 69, 3) := by decide +kernel
theorem dX0_tiltOf_22 : decode cX0_tiltOf 22 = .ok (.istore 6, 2) := by decide +kernel
theorem dX0_tiltOf_24 : decode cX0_tiltOf 24 = .ok (.aload_n 0, 1) := by decide +kernel
theorem dX0_tiltOf_25 : decode cX0_tiltOf 25 = .ok (.getfield 9, 3) := by decide +kernel
theorem dX0_tiltOf_28 : decode cX0_tiltOf 28 = .ok (.iconst 2, 1) := by decide +kernel
theorem dX0_tiltOf_29 : decode cX0_tiltOf 29 = .ok (.if_icmp .ne 19, 3) := by decide +kernel
theorem dX0_tiltOf_32 : decode cX0_tiltOf 32 = .ok (.aload_n 0, 1) := by decide +kernel
theorem dX0_tiltOf_33 : decode cX0_tiltOf 33 = .ok (.getfield 15, 3) := by decide +kernel
theorem dX0_tiltOf_36 : decode cX0_tiltOf 36 = .ok (.iload 5, 2) := by decide +kernel
theorem dX0_tiltOf_38 : decode cX0_tiltOf 38 = .ok (.imul, 1) := by decide +kernel
theorem dX0_tiltOf_39 : decode cX0_tiltOf 39 = .ok (.aload_n 0, 1) := by decide +kernel
theorem dX0_tiltOf_40 : decode cX0_tiltOf 40 = .ok (.getfield 18, 3) := by decide +kernel
theorem dX0_tiltOf_43 : decode cX0_tiltOf 43 = .ok (.iload 6, 2) := by decide +kernel
theorem dX0_tiltOf_45 : decode cX0_tiltOf 45 = .ok (.imul, 1) := by decide +kernel
theorem dX0_tiltOf_46 : decode cX0_tiltOf 46 = .ok (.isub, 1) := by decide +kernel
theorem dX0_tiltOf_47 : decode cX0_tiltOf 47 = .ok (.ireturn, 1) := by decide +kernel
theorem dX0_tiltOf_48 : decode cX0_tiltOf 48 = .ok (.aload_n 0, 1) := by decide +kernel
theorem dX0_tiltOf_49 : decode cX0_tiltOf 49 = .ok (.iload_n 1, 1) := by decide +kernel
theorem dX0_tiltOf_50 : decode cX0_tiltOf 50 = .ok (.iconst 2, 1) := by decide +kernel
theorem dX0_tiltOf_51 : decode cX0_tiltOf 51 = .ok (.aload_n 2, 1) := by decide +kernel
theorem dX0_tiltOf_52 : decode cX0_tiltOf 52 = .ok (.aload_n 3, 1) := by decide +kernel
theorem dX0_tiltOf_53 : decode cX0_tiltOf 53 = .ok (.iload 4, 2) := by decide +kernel
theorem dX0_tiltOf_55 : decode cX0_tiltOf 55 = .ok (.invokevirtual 69, 3) := by decide +kernel
theorem dX0_tiltOf_58 : decode cX0_tiltOf 58 = .ok (.istore 7, 2) := by decide +kernel
theorem dX0_tiltOf_60 : decode cX0_tiltOf 60 = .ok (.iload 5, 2) := by decide +kernel
theorem dX0_tiltOf_62 : decode cX0_tiltOf 62 = .ok (.iload 6, 2) := by decide +kernel
theorem dX0_tiltOf_64 : decode cX0_tiltOf 64 = .ok (.iload 7, 2) := by decide +kernel
theorem dX0_tiltOf_66 : decode cX0_tiltOf 66 = .ok (.invokestatic 73, 3) := by decide +kernel
theorem dX0_tiltOf_69 : decode cX0_tiltOf 69 = .ok (.invokestatic 73, 3) := by decide +kernel
theorem dX0_tiltOf_72 : decode cX0_tiltOf 72 = .ok (.istore 8, 2) := by decide +kernel
theorem dX0_tiltOf_74 : decode cX0_tiltOf 74 = .ok (.iload 5, 2) := by decide +kernel
theorem dX0_tiltOf_76 : decode cX0_tiltOf 76 = .ok (.iload 6, 2) := by decide +kernel
theorem dX0_tiltOf_78 : decode cX0_tiltOf 78 = .ok (.iload 7, 2) := by decide +kernel
theorem dX0_tiltOf_80 : decode cX0_tiltOf 80 = .ok (.invokestatic 49, 3) := by decide +kernel
theorem dX0_tiltOf_83 : decode cX0_tiltOf 83 = .ok (.invokestatic 49, 3) := by decide +kernel
theorem dX0_tiltOf_86 : decode cX0_tiltOf 86 = .ok (.istore 9, 2) := by decide +kernel
theorem dX0_tiltOf_88 : decode cX0_tiltOf 88 = .ok (.iload 8, 2) := by decide +kernel
theorem dX0_tiltOf_90 : decode cX0_tiltOf 90 = .ok (.iload 9, 2) := by decide +kernel
theorem dX0_tiltOf_92 : decode cX0_tiltOf 92 = .ok (.isub, 1) := by decide +kernel
theorem dX0_tiltOf_93 : decode cX0_tiltOf 93 = .ok (.ireturn, 1) := by decide +kernel
theorem dX0_isLevel_0 : decode cX0_isLevel 0 = .ok (.aload_n 0, 1) := by decide +kernel
theorem dX0_isLevel_1 : decode cX0_isLevel 1 = .ok (.iload_n 1, 1) := by decide +kernel
theorem dX0_isLevel_2 : decode cX0_isLevel 2 = .ok (.aload_n 2, 1) := by decide +kernel
theorem dX0_isLevel_3 : decode cX0_isLevel 3 = .ok (.aload_n 3, 1) := by decide +kernel
theorem dX0_isLevel_4 : decode cX0_isLevel 4 = .ok (.getfield 76, 3) := by decide +kernel
theorem dX0_isLevel_7 : decode cX0_isLevel 7 = .ok (.iconst 0, 1) := by decide +kernel
theorem dX0_isLevel_8 : decode cX0_isLevel 8 = .ok (.invokevirtual 81, 3) := by decide +kernel
theorem dX0_isLevel_11 : decode cX0_isLevel 11 = .ok (.ifCond .ne 24, 3) := by decide +kernel
theorem dX0_isLevel_14 : decode cX0_isLevel 14 = .ok (.aload_n 0, 1) := by decide +kernel
theorem dX0_isLevel_15 : decode cX0_isLevel 15 = .ok (.iload_n 1, 1) := by decide +kernel
theorem dX0_isLevel_16 : decode cX0_isLevel 16 = .ok (.aload_n 2, 1) := by decide +kernel
theorem dX0_isLevel_17 : decode cX0_isLevel 17 = .ok (.aload_n 3, 1) := by decide +kernel
theorem dX0_isLevel_18 : decode cX0_isLevel 18 = .ok (.getfield 76, 3) := by decide +kernel
theorem dX0_isLevel_21 : decode cX0_isLevel 21 = .ok (.aload_n 3, 1) := by decide +kernel
theorem dX0_isLevel_22 : decode cX0_isLevel 22 = .ok (.getfield 85, 3) := by decide +kernel
theorem dX0_isLevel_25 : decode cX0_isLevel 25 = .ok (.invokevirtual 81, 3) := by decide +kernel
theorem dX0_isLevel_28 : decode cX0_isLevel 28 = .ok (.ifCond .ne 7, 3) := by decide +kernel
theorem dX0_isLevel_31 : decode cX0_isLevel 31 = .ok (.iconst 1, 1) := by decide +kernel
theorem dX0_isLevel_32 : decode cX0_isLevel 32 = .ok (.goto 4, 3) := by decide +kernel
theorem dX0_isLevel_35 : decode cX0_isLevel 35 = .ok (.iconst 0, 1) := by decide +kernel
theorem dX0_isLevel_36 : decode cX0_isLevel 36 = .ok (.ireturn, 1) := by decide +kernel
theorem dX1_init_0 : decode cX1_init 0 = .ok (.aload_n 0, 1) := by decide +kernel
theorem dX1_init_1 : decode cX1_init 1 = .ok (.invokespecial 3, 3) := by decide +kernel
theorem dX1_init_4 : decode cX1_init 4 = .ok (.aload_n 0, 1) := by decide +kernel
theorem dX1_init_5 : decode cX1_init 5 = .ok (.bipush 9, 2) := by decide +kernel
theorem dX1_init_7 : decode cX1_init 7 = .ok (.newarray .int, 2) := by decide +kernel
theorem dX1_init_9 : decode cX1_init 9 = .ok (.putfield 9, 3) := by decide +kernel
theorem dX1_init_12 : decode cX1_init 12 = .ok (.aload_n 0, 1) := by decide +kernel
theorem dX1_init_13 : decode cX1_init 13 = .ok (.bipush 8, 2) := by decide +kernel
theorem dX1_init_15 : decode cX1_init 15 = .ok (.newarray .int, 2) := by decide +kernel
theorem dX1_init_17 : decode cX1_init 17 = .ok (.putfield 15, 3) := by decide +kernel
theorem dX1_init_20 : decode cX1_init 20 = .ok (.aload_n 0, 1) := by decide +kernel
theorem dX1_init_21 : decode cX1_init 21 = .ok (.bipush 8, 2) := by decide +kernel
theorem dX1_init_23 : decode cX1_init 23 = .ok (.newarray .int, 2) := by decide +kernel
theorem dX1_init_25 : decode cX1_init 25 = .ok (.putfield 18, 3) := by decide +kernel
theorem dX1_init_28 : decode cX1_init 28 = .ok (.aload_n 0, 1) := by decide +kernel
theorem dX1_init_29 : decode cX1_init 29 = .ok (.iconst 0, 1) := by decide +kernel
theorem dX1_init_30 : decode cX1_init 30 = .ok (.putfield 21, 3) := by decide +kernel
theorem dX1_init_33 : decode cX1_init 33 = .ok (.aload_n 0, 1) := by decide +kernel
theorem dX1_init_34 : decode cX1_init 34 = .ok (.iconst 0, 1) := by decide +kernel
theorem dX1_init_35 : decode cX1_init 35 = .ok (.putfield 25, 3) := by decide +kernel
theorem dX1_init_38 : decode cX1_init 38 = .ok (.aload_n 0, 1) := by decide +kernel
theorem dX1_init_39 : decode cX1_init 39 = .ok (.iconst 0, 1) := by decide +kernel
theorem dX1_init_40 : decode cX1_init 40 = .ok (.putfield 28, 3) := by decide +kernel
theorem dX1_init_43 : decode cX1_init 43 = .ok (.return_, 1) := by decide +kernel
theorem dX1_startAnew_0 : decode cX1_startAnew 0 = .ok (.aload_n 0, 1) := by decide +kernel
theorem dX1_startAnew_1 : decode cX1_startAnew 1 = .ok (.iconst 0, 1) := by decide +kernel
theorem dX1_startAnew_2 : decode cX1_startAnew 2 = .ok (.putfield 21, 3) := by decide +kernel
theorem dX1_startAnew_5 : decode cX1_startAnew 5 = .ok (.aload_n 0, 1) := by decide +kernel
theorem dX1_startAnew_6 : decode cX1_startAnew 6 = .ok (.iconst 0, 1) := by decide +kernel
theorem dX1_startAnew_7 : decode cX1_startAnew 7 = .ok (.putfield 25, 3) := by decide +kernel
theorem dX1_startAnew_10 : decode cX1_startAnew 10 = .ok (.iconst 0, 1) := by decide +kernel
theorem dX1_startAnew_11 : decode cX1_startAnew 11 = .ok (.istore_n 2, 1) := by decide +kernel
theorem dX1_startAnew_12 : decode cX1_startAnew 12 = .ok (.iload_n 2, 1) := by decide +kernel
theorem dX1_startAnew_13 : decode cX1_startAnew 13 = .ok (.bipush 8, 2) := by decide +kernel
theorem dX1_startAnew_15 : decode cX1_startAnew 15 = .ok (.if_icmp .gt 16, 3) := by decide +kernel
theorem dX1_startAnew_18 : decode cX1_startAnew 18 = .ok (.aload_n 0, 1) := by decide +kernel
theorem dX1_startAnew_19 : decode cX1_startAnew 19 = .ok (.getfield 9, 3) := by decide +kernel
theorem dX1_startAnew_22 : decode cX1_startAnew 22 = .ok (.iload_n 2, 1) := by decide +kernel
theorem dX1_startAnew_23 : decode cX1_startAnew 23 = .ok (.iconst 0, 1) := by decide +kernel
theorem dX1_startAnew_24 : decode cX1_startAnew 24 = .ok (.iastore, 1) := by decide +kernel
theorem dX1_startAnew_25 : decode cX1_startAnew 25 = .ok (.iinc 2 1, 3) := by decide +kernel
theorem dX1_startAnew_28 : decode cX1_startAnew 28 = .ok (.goto (-16), 3) := by decide +kernel
theorem dX1_startAnew_31 : decode cX1_startAnew 31 = .ok (.iconst 0, 1) := by decide +kernel
theorem dX1_startAnew_32 : decode cX1_startAnew 32 = .ok (.istore_n 2, 1) := by decide +kernel
theorem dX1_startAnew_33 : decode cX1_startAnew 33 = .ok (.iload_n 2, 1) := by decide +kernel
theorem dX1_startAnew_34 : decode cX1_startAnew 34 = .ok (.bipush 8, 2) := by decide +kernel
theorem dX1_startAnew_36 : decode cX1_startAnew 36 = .ok (.if_icmp .ge 28, 3) := by decide +kernel
theorem dX1_startAnew_39 : decode cX1_startAnew 39 = .ok (.aload_n 0, 1) := by decide +kernel
theorem dX1_startAnew_40 : decode cX1_startAnew 40 = .ok (.getfield 15, 3) := by decide +kernel
theorem dX1_startAnew_43 : decode cX1_startAnew 43 = .ok (.iload_n 2, 1) := by decide +kernel
theorem dX1_startAnew_44 : decode cX1_startAnew 44 = .ok (.iconst 0, 1) := by decide +kernel
theorem dX1_startAnew_45 : decode cX1_startAnew 45 = .ok (.iastore, 1) := by decide +kernel
theorem dX1_startAnew_46 : decode cX1_startAnew 46 = .ok (.aload_n 0, 1) := by decide +kernel
theorem dX1_startAnew_47 : decode cX1_startAnew 47 = .ok (.getfield 18, 3) := by decide +kernel
theorem dX1_startAnew_50 : decode cX1_startAnew 50 = .ok (.iload_n 2, 1) := by decide +kernel
theorem dX1_startAnew_51 : decode cX1_startAnew 51 = .ok (.aload_n 1, 1) := by decide +kernel
theorem dX1_startAnew_52 : decode cX1_startAnew 52 = .ok (.getfield 32, 3) := by decide +kernel
theorem dX1_startAnew_55 : decode cX1_startAnew 55 = .ok (.iload_n 2, 1) := by decide +kernel
theorem dX1_startAnew_56 : decode cX1_startAnew 56 = .ok (.iaload, 1) := by decide +kernel
theorem dX1_startAnew_57 : decode cX1_startAnew 57 = .ok (.iastore, 1) := by decide +kernel
theorem dX1_startAnew_58 : decode cX1_startAnew 58 = .ok (.iinc 2 1, 3) := by decide +kernel
theorem dX1_startAnew_61 : decode cX1_startAnew 61 = .ok (.goto (-28), 3) := by decide +kernel
theorem dX1_startAnew_64 : decode cX1_startAnew 64 = .ok (.return_, 1) := by decide +kernel
theorem dX1_copyFrom_0 : decode cX1_copyFrom 0 = .ok (.aload_n 0, 1) := by decide +kernel
theorem dX1_copyFrom_1 : decode cX1_copyFrom 1 = .ok (.aload_n 1, 1) := by decide +kernel
theorem dX1_copyFrom_2 : decode cX1_copyFrom 2 = .ok (.getfield 21, 3) := by decide +kernel
theorem dX1_copyFrom_5 : decode cX1_copyFrom 5 = .ok (.putfield 21, 3) := by decide +kernel
theorem dX1_copyFrom_8 : decode cX1_copyFrom 8 = .ok (.aload_n 0, 1) := by decide +kernel
theorem dX1_copyFrom_9 : decode cX1_copyFrom 9 = .ok (.aload_n 1, 1) := by decide +kernel
theorem dX1_copyFrom_10 : decode cX1_copyFrom 10 = .ok (.getfield 25, 3) := by decide +kernel
theorem dX1_copyFrom_13 : decode cX1_copyFrom 13 = .ok (.putfield 25, 3) := by decide +kernel
theorem dX1_copyFrom_16 : decode cX1_copyFrom 16 = .ok (.iconst 0, 1) := by decide +kernel
theorem dX1_copyFrom_17 : decode cX1_copyFrom 17 = .ok (.istore_n 2, 1) := by decide +kernel
theorem dX1_copyFrom_18 : decode cX1_copyFrom 18 = .ok (.iload_n 2, 1) := by decide +kernel
theorem dX1_copyFrom_19 : decode cX1_copyFrom 19 = .ok (.bipush 8, 2) := by decide +kernel
theorem dX1_copyFrom_21 : decode cX1_copyFrom 21 = .ok (.if_icmp .gt 21, 3) := by decide +kernel
theorem dX1_copyFrom_24 : decode cX1_copyFrom 24 = .ok (.aload_n 0, 1) := by decide +kernel
theorem dX1_copyFrom_25 : decode cX1_copyFrom 25 = .ok (.getfield 9, 3) := by decide +kernel
theorem dX1_copyFrom_28 : decode cX1_copyFrom 28 = .ok (.iload_n 2, 1) := by decide +kernel
theorem dX1_copyFrom_29 : decode cX1_copyFrom 29 = .ok (.aload_n 1, 1) := by decide +kernel
theorem dX1_copyFrom_30 : decode cX1_copyFrom 30 = .ok (.getfield 9, 3) := by decide +kernel
theorem dX1_copyFrom_33 : decode cX1_copyFrom 33 = .ok (.iload_n 2, 1) := by decide +kernel
theorem dX1_copyFrom_34 : decode cX1_copyFrom 34 = .ok (.iaload, 1) := by decide +kernel
theorem dX1_copyFrom_35 : decode cX1_copyFrom 35 = .ok (.iastore, 1) := by decide +kernel
theorem dX1_copyFrom_36 : decode cX1_copyFrom 36 = .ok (.iinc 2 1, 3) := by decide +kernel
theorem dX1_copyFrom_39 : decode cX1_copyFrom 39 = .ok (.goto (-21), 3) := by decide +kernel
theorem dX1_copyFrom_42 : decode cX1_copyFrom 42 = .ok (.iconst 0, 1) := by decide +kernel
theorem dX1_copyFrom_43 : decode cX1_copyFrom 43 = .ok (.istore_n 2, 1) := by decide +kernel
theorem dX1_copyFrom_44 : decode cX1_copyFrom 44 = .ok (.iload_n 2, 1) := by decide +kernel
theorem dX1_copyFrom_45 : decode cX1_copyFrom 45 = .ok (.bipush 8, 2) := by decide +kernel
theorem dX1_copyFrom_47 : decode cX1_copyFrom 47 = .ok (.if_icmp .ge 33, 3) := by decide +kernel
theorem dX1_copyFrom_50 : decode cX1_copyFrom 50 = .ok (.aload_n 0, 1) := by decide +kernel
theorem dX1_copyFrom_51 : decode cX1_copyFrom 51 = .ok (.getfield 15, 3) := by decide +kernel
theorem dX1_copyFrom_54 : decode cX1_copyFrom 54 = .ok (.iload_n 2, 1) := by decide +kernel
theorem dX1_copyFrom_55 : decode cX1_copyFrom 55 = .ok (.aload_n 1, 1) := by decide +kernel
theorem dX1_copyFrom_56 : decode cX1_copyFrom 56 = .ok (.getfield 15, 3) := by decide +kernel
theorem dX1_copyFrom_59 : decode cX1_copyFrom 59 = .ok (.iload_n 2, 1) := by decide +kernel
theorem dX1_copyFrom_60 : decode cX1_copyFrom 60 = .ok (.iaload, 1) := by decide +kernel
theorem dX1_copyFrom_61 : decode cX1_copyFrom 61 = .ok (.iastore, 1) := by decide +kernel
theorem dX1_copyFrom_62 : decode cX1_copyFrom 62 = .ok (.aload_n 0, 1) := by decide +kernel
theorem dX1_copyFrom_63 : decode cX1_copyFrom 63 = .ok (.getfield 18, 3) := by decide +kernel
theorem dX1_copyFrom_66 : decode cX1_copyFrom 66 = .ok (.iload_n 2, 1) := by decide +kernel
theorem dX1_copyFrom_67 : decode cX1_copyFrom 67 = .ok (.aload_n 1, 1) := by decide +kernel
theorem dX1_copyFrom_68 : decode cX1_copyFrom 68 = .ok (.getfield 18, 3) := by decide +kernel
theorem dX1_copyFrom_71 : decode cX1_copyFrom 71 = .ok (.iload_n 2, 1) := by decide +kernel
theorem dX1_copyFrom_72 : decode cX1_copyFrom 72 = .ok (.iaload, 1) := by decide +kernel
theorem dX1_copyFrom_73 : decode cX1_copyFrom 73 = .ok (.iastore, 1) := by decide +kernel
theorem dX1_copyFrom_74 : decode cX1_copyFrom 74 = .ok (.iinc 2 1, 3) := by decide +kernel
theorem dX1_copyFrom_77 : decode cX1_copyFrom 77 = .ok (.goto (-33), 3) := by decide +kernel
theorem dX1_copyFrom_80 : decode cX1_copyFrom 80 = .ok (.return_, 1) := by decide +kernel
theorem dX1_crewOf_0 : decode cX1_crewOf 0 = .ok (.iload_n 1, 1) := by decide +kernel
theorem dX1_crewOf_1 : decode cX1_crewOf 1 = .ok (.ifCond .lt 18, 3) := by decide +kernel
theorem dX1_crewOf_4 : decode cX1_crewOf 4 = .ok (.iload_n 1, 1) := by decide +kernel
theorem dX1_crewOf_5 : decode cX1_crewOf 5 = .ok (.bipush 8, 2) := by decide +kernel
theorem dX1_crewOf_7 : decode cX1_crewOf 7 = .ok (.if_icmp .gt 12, 3) := by decide +kernel
theorem dX1_crewOf_10 : decode cX1_crewOf 10 = .ok (.aload_n 0, 1) := by decide +kernel
theorem dX1_crewOf_11 : decode cX1_crewOf 11 = .ok (.getfield 9, 3) := by decide +kernel
theorem dX1_crewOf_14 : decode cX1_crewOf 14 = .ok (.iload_n 1, 1) := by decide +kernel
theorem dX1_crewOf_15 : decode cX1_crewOf 15 = .ok (.iaload, 1) := by decide +kernel
theorem dX1_crewOf_16 : decode cX1_crewOf 16 = .ok (.goto 4, 3) := by decide +kernel
theorem dX1_crewOf_19 : decode cX1_crewOf 19 = .ok (.iconst 0, 1) := by decide +kernel
theorem dX1_crewOf_20 : decode cX1_crewOf 20 = .ok (.ireturn, 1) := by decide +kernel
theorem dX1_laid_0 : decode cX1_laid 0 = .ok (.aload_n 0, 1) := by decide +kernel
theorem dX1_laid_1 : decode cX1_laid 1 = .ok (.aload_n 0, 1) := by decide +kernel
theorem dX1_laid_2 : decode cX1_laid 2 = .ok (.getfield 21, 3) := by decide +kernel
theorem dX1_laid_5 : decode cX1_laid 5 = .ok (.invokevirtual 37, 3) := by decide +kernel
theorem dX1_laid_8 : decode cX1_laid 8 = .ok (.ireturn, 1) := by decide +kernel
theorem dX1_setLaid_0 : decode cX1_setLaid 0 = .ok (.aload_n 0, 1) := by decide +kernel
theorem dX1_setLaid_1 : decode cX1_setLaid 1 = .ok (.getfield 21, 3) := by decide +kernel
theorem dX1_setLaid_4 : decode cX1_setLaid 4 = .ok (.ifCond .lt 22, 3) := by decide +kernel
theorem dX1_setLaid_7 : decode cX1_setLaid 7 = .ok (.aload_n 0, 1) := by decide +kernel
theorem dX1_setLaid_8 : decode cX1_setLaid 8 = .ok (.getfield 21, 3) := by decide +kernel
theorem dX1_setLaid_11 : decode cX1_setLaid 11 = .ok (.bipush 8, 2) := by decide +kernel
theorem dX1_setLaid_13 : decode cX1_setLaid 13 = .ok (.if_icmp .gt 13, 3) := by decide +kernel
theorem dX1_setLaid_16 : decode cX1_setLaid 16 = .ok (.aload_n 0, 1) := by decide +kernel
theorem dX1_setLaid_17 : decode cX1_setLaid 17 = .ok (.getfield 9, 3) := by decide +kernel
theorem dX1_setLaid_20 : decode cX1_setLaid 20 = .ok (.aload_n 0, 1) := by decide +kernel
theorem dX1_setLaid_21 : decode cX1_setLaid 21 = .ok (.getfield 21, 3) := by decide +kernel
theorem dX1_setLaid_24 : decode cX1_setLaid 24 = .ok (.iload_n 1, 1) := by decide +kernel
theorem dX1_setLaid_25 : decode cX1_setLaid 25 = .ok (.iastore, 1) := by decide +kernel
theorem dX1_setLaid_26 : decode cX1_setLaid 26 = .ok (.return_, 1) := by decide +kernel
theorem dX1_depart_0 : decode cX1_depart 0 = .ok (.aload_n 0, 1) := by decide +kernel
theorem dX1_depart_1 : decode cX1_depart 1 = .ok (.getfield 21, 3) := by decide +kernel
theorem dX1_depart_4 : decode cX1_depart 4 = .ok (.bipush 8, 2) := by decide +kernel
theorem dX1_depart_6 : decode cX1_depart 6 = .ok (.if_icmp .ge 18, 3) := by decide +kernel
theorem dX1_depart_9 : decode cX1_depart 9 = .ok (.aload_n 0, 1) := by decide +kernel
theorem dX1_depart_10 : decode cX1_depart 10 = .ok (.dup, 1) := by decide +kernel
theorem dX1_depart_11 : decode cX1_depart 11 = .ok (.getfield 21, 3) := by decide +kernel
theorem dX1_depart_14 : decode cX1_depart 14 = .ok (.iconst 1, 1) := by decide +kernel
theorem dX1_depart_15 : decode cX1_depart 15 = .ok (.iadd, 1) := by decide +kernel
theorem dX1_depart_16 : decode cX1_depart 16 = .ok (.putfield 21, 3) := by decide +kernel
theorem dX1_depart_19 : decode cX1_depart 19 = .ok (.aload_n 0, 1) := by decide +kernel
theorem dX1_depart_20 : decode cX1_depart 20 = .ok (.iconst 0, 1) := by decide +kernel
theorem dX1_depart_21 : decode cX1_depart 21 = .ok (.invokevirtual 41, 3) := by decide +kernel
theorem dX1_depart_24 : decode cX1_depart 24 = .ok (.return_, 1) := by decide +kernel
theorem dX1_takeBack_0 : decode cX1_takeBack 0 = .ok (.aload_n 0, 1) := by decide +kernel
theorem dX1_takeBack_1 : decode cX1_takeBack 1 = .ok (.getfield 21, 3) := by decide +kernel
theorem dX1_takeBack_4 : decode cX1_takeBack 4 = .ok (.ifCond .le 13, 3) := by decide +kernel
theorem dX1_takeBack_7 : decode cX1_takeBack 7 = .ok (.aload_n 0, 1) := by decide +kernel
theorem dX1_takeBack_8 : decode cX1_takeBack 8 = .ok (.dup, 1) := by decide +kernel
theorem dX1_takeBack_9 : decode cX1_takeBack 9 = .ok (.getfield 21, 3) := by decide +kernel
theorem dX1_takeBack_12 : decode cX1_takeBack 12 = .ok (.iconst 1, 1) := by decide +kernel
theorem dX1_takeBack_13 : decode cX1_takeBack 13 = .ok (.isub, 1) := by decide +kernel
theorem dX1_takeBack_14 : decode cX1_takeBack 14 = .ok (.putfield 21, 3) := by decide +kernel
theorem dX1_takeBack_17 : decode cX1_takeBack 17 = .ok (.return_, 1) := by decide +kernel
theorem dX1_gone_0 : decode cX1_gone 0 = .ok (.iconst 0, 1) := by decide +kernel
theorem dX1_gone_1 : decode cX1_gone 1 = .ok (.istore_n 1, 1) := by decide +kernel
theorem dX1_gone_2 : decode cX1_gone 2 = .ok (.iconst 0, 1) := by decide +kernel
theorem dX1_gone_3 : decode cX1_gone 3 = .ok (.istore_n 2, 1) := by decide +kernel
theorem dX1_gone_4 : decode cX1_gone 4 = .ok (.iload_n 2, 1) := by decide +kernel
theorem dX1_gone_5 : decode cX1_gone 5 = .ok (.aload_n 0, 1) := by decide +kernel
theorem dX1_gone_6 : decode cX1_gone 6 = .ok (.getfield 21, 3) := by decide +kernel
theorem dX1_gone_9 : decode cX1_gone 9 = .ok (.if_icmp .ge 20, 3) := by decide +kernel
theorem dX1_gone_12 : decode cX1_gone 12 = .ok (.iload_n 1, 1) := by decide +kernel
theorem dX1_gone_13 : decode cX1_gone 13 = .ok (.aload_n 0, 1) := by decide +kernel
theorem dX1_gone_14 : decode cX1_gone 14 = .ok (.iload_n 2, 1) := by decide +kernel
theorem dX1_gone_15 : decode cX1_gone 15 = .ok (.invokevirtual 37, 3) := by decide +kernel
theorem dX1_gone_18 : decode cX1_gone 18 = .ok (.invokestatic 45, 3) := by decide +kernel
theorem dX1_gone_21 : decode cX1_gone 21 = .ok (.ior, 1) := by decide +kernel
theorem dX1_gone_22 : decode cX1_gone 22 = .ok (.istore_n 1, 1) := by decide +kernel
theorem dX1_gone_23 : decode cX1_gone 23 = .ok (.iinc 2 1, 3) := by decide +kernel
theorem dX1_gone_26 : decode cX1_gone 26 = .ok (.goto (-22), 3) := by decide +kernel
theorem dX1_gone_29 : decode cX1_gone 29 = .ok (.iload_n 1, 1) := by decide +kernel
theorem dX1_gone_30 : decode cX1_gone 30 = .ok (.ireturn, 1) := by decide +kernel
theorem dX1_boatOf_0 : decode cX1_boatOf 0 = .ok (.iconst 0, 1) := by decide +kernel
theorem dX1_boatOf_1 : decode cX1_boatOf 1 = .ok (.istore_n 2, 1) := by decide +kernel
theorem dX1_boatOf_2 : decode cX1_boatOf 2 = .ok (.iload_n 2, 1) := by decide +kernel
theorem dX1_boatOf_3 : decode cX1_boatOf 3 = .ok (.aload_n 0, 1) := by decide +kernel
theorem dX1_boatOf_4 : decode cX1_boatOf 4 = .ok (.getfield 21, 3) := by decide +kernel
theorem dX1_boatOf_7 : decode cX1_boatOf 7 = .ok (.if_icmp .ge 25, 3) := by decide +kernel
theorem dX1_boatOf_10 : decode cX1_boatOf 10 = .ok (.aload_n 0, 1) := by decide +kernel
theorem dX1_boatOf_11 : decode cX1_boatOf 11 = .ok (.iload_n 2, 1) := by decide +kernel
theorem dX1_boatOf_12 : decode cX1_boatOf 12 = .ok (.invokevirtual 37, 3) := by decide +kernel
theorem dX1_boatOf_15 : decode cX1_boatOf 15 = .ok (.iload_n 1, 1) := by decide +kernel
theorem dX1_boatOf_16 : decode cX1_boatOf 16 = .ok (.invokestatic 48, 3) := by decide +kernel
theorem dX1_boatOf_19 : decode cX1_boatOf 19 = .ok (.bipush (-9), 2) := by decide +kernel
theorem dX1_boatOf_21 : decode cX1_boatOf 21 = .ok (.if_icmp .eq 5, 3) := by decide +kernel
theorem dX1_boatOf_24 : decode cX1_boatOf 24 = .ok (.iload_n 2, 1) := by decide +kernel
theorem dX1_boatOf_25 : decode cX1_boatOf 25 = .ok (.ireturn, 1) := by decide +kernel
theorem dX1_boatOf_26 : decode cX1_boatOf 26 = .ok (.iinc 2 1, 3) := by decide +kernel
theorem dX1_boatOf_29 : decode cX1_boatOf 29 = .ok (.goto (-27), 3) := by decide +kernel
theorem dX1_boatOf_32 : decode cX1_boatOf 32 = .ok (.bipush (-9), 2) := by decide +kernel
theorem dX1_boatOf_34 : decode cX1_boatOf 34 = .ok (.ireturn, 1) := by decide +kernel
theorem dX1_placeOf_0 : decode cX1_placeOf 0 = .ok (.aload_n 0, 1) := by decide +kernel
theorem dX1_placeOf_1 : decode cX1_placeOf 1 = .ok (.iload_n 1, 1) := by decide +kernel
theorem dX1_placeOf_2 : decode cX1_placeOf 2 = .ok (.invokevirtual 52, 3) := by decide +kernel
theorem dX1_placeOf_5 : decode cX1_placeOf 5 = .ok (.bipush (-9), 2) := by decide +kernel
theorem dX1_placeOf_7 : decode cX1_placeOf 7 = .ok (.if_icmp .eq 6, 3) := by decide +kernel
theorem dX1_placeOf_10 : decode cX1_placeOf 10 = .ok (.bipush 20, 2) := by decide +kernel
theorem dX1_placeOf_12 : decode cX1_placeOf 12 = .ok (.ireturn, 1) := by decide +kernel
theorem dX1_placeOf_13 : decode cX1_placeOf 13 = .ok (.aload_n 0, 1) := by decide +kernel
theorem dX1_placeOf_14 : decode cX1_placeOf 14 = .ok (.invokevirtual 55, 3) := by decide +kernel
theorem dX1_placeOf_17 : decode cX1_placeOf 17 = .ok (.iload_n 1, 1) := by decide +kernel
theorem dX1_placeOf_18 : decode cX1_placeOf 18 = .ok (.invokestatic 48, 3) := by decide +kernel
theorem dX1_placeOf_21 : decode cX1_placeOf 21 = .ok (.istore_n 2, 1) := by decide +kernel
theorem dX1_placeOf_22 : decode cX1_placeOf 22 = .ok (.iload_n 2, 1) := by decide +kernel
theorem dX1_placeOf_23 : decode cX1_placeOf 23 = .ok (.bipush (-9), 2) := by decide +kernel
theorem dX1_placeOf_25 : decode cX1_placeOf 25 = .ok (.if_icmp .ne 8, 3) := by decide +kernel
theorem dX1_placeOf_28 : decode cX1_placeOf 28 = .ok (.bipush 10, 2) := by decide +kernel
theorem dX1_placeOf_30 : decode cX1_placeOf 30 = .ok (.goto 4, 3) := by decide +kernel
theorem dX1_placeOf_33 : decode cX1_placeOf 33 = .ok (.iload_n 2, 1) := by decide +kernel
theorem dX1_placeOf_34 : decode cX1_placeOf 34 = .ok (.ireturn, 1) := by decide +kernel
theorem dX2_init_0 : decode cX2_init 0 = .ok (.aload_n 0, 1) := by decide +kernel
theorem dX2_init_1 : decode cX2_init 1 = .ok (.invokespecial 3, 3) := by decide +kernel
theorem dX2_init_4 : decode cX2_init 4 = .ok (.aload_n 0, 1) := by decide +kernel
theorem dX2_init_5 : decode cX2_init 5 = .ok (.sipush 256, 3) := by decide +kernel
theorem dX2_init_8 : decode cX2_init 8 = .ok (.newarray .int, 2) := by decide +kernel
theorem dX2_init_10 : decode cX2_init 10 = .ok (.putfield 11, 3) := by decide +kernel
theorem dX2_init_13 : decode cX2_init 13 = .ok (.aload_n 0, 1) := by decide +kernel
theorem dX2_init_14 : decode cX2_init 14 = .ok (.sipush 256, 3) := by decide +kernel
theorem dX2_init_17 : decode cX2_init 17 = .ok (.newarray .int, 2) := by decide +kernel
theorem dX2_init_19 : decode cX2_init 19 = .ok (.putfield 15, 3) := by decide +kernel
theorem dX2_init_22 : decode cX2_init 22 = .ok (.aload_n 0, 1) := by decide +kernel
theorem dX2_init_23 : decode cX2_init 23 = .ok (.sipush 256, 3) := by decide +kernel
theorem dX2_init_26 : decode cX2_init 26 = .ok (.newarray .int, 2) := by decide +kernel
theorem dX2_init_28 : decode cX2_init 28 = .ok (.putfield 18, 3) := by decide +kernel
theorem dX2_init_31 : decode cX2_init 31 = .ok (.aload_n 0, 1) := by decide +kernel
theorem dX2_init_32 : decode cX2_init 32 = .ok (.sipush 256, 3) := by decide +kernel
theorem dX2_init_35 : decode cX2_init 35 = .ok (.newarray .int, 2) := by decide +kernel
theorem dX2_init_37 : decode cX2_init 37 = .ok (.putfield 21, 3) := by decide +kernel
theorem dX2_init_40 : decode cX2_init 40 = .ok (.aload_n 0, 1) := by decide +kernel
theorem dX2_init_41 : decode cX2_init 41 = .ok (.bipush 100, 2) := by decide +kernel
theorem dX2_init_43 : decode cX2_init 43 = .ok (.newarray .int, 2) := by decide +kernel
theorem dX2_init_45 : decode cX2_init 45 = .ok (.putfield 24, 3) := by decide +kernel
theorem dX2_init_48 : decode cX2_init 48 = .ok (.aload_n 0, 1) := by decide +kernel
theorem dX2_init_49 : decode cX2_init 49 = .ok (.iconst 3, 1) := by decide +kernel
theorem dX2_init_50 : decode cX2_init 50 = .ok (.newarray .int, 2) := by decide +kernel
theorem dX2_init_52 : decode cX2_init 52 = .ok (.putfield 27, 3) := by decide +kernel
theorem dX2_init_55 : decode cX2_init 55 = .ok (.aload_n 0, 1) := by decide +kernel
theorem dX2_init_56 : decode cX2_init 56 = .ok (.iconst 3, 1) := by decide +kernel
theorem dX2_init_57 : decode cX2_init 57 = .ok (.newarray .int, 2) := by decide +kernel
theorem dX2_init_59 : decode cX2_init 59 = .ok (.putfield 30, 3) := by decide +kernel
theorem dX2_init_62 : decode cX2_init 62 = .ok (.aload_n 0, 1) := by decide +kernel
theorem dX2_init_63 : decode cX2_init 63 = .ok (.iconst 3, 1) := by decide +kernel
theorem dX2_init_64 : decode cX2_init 64 = .ok (.newarray .int, 2) := by decide +kernel
theorem dX2_init_66 : decode cX2_init 66 = .ok (.putfield 33, 3) := by decide +kernel
theorem dX2_init_69 : decode cX2_init 69 = .ok (.aload_n 0, 1) := by decide +kernel
theorem dX2_init_70 : decode cX2_init 70 = .ok (.iconst 2, 1) := by decide +kernel
theorem dX2_init_71 : decode cX2_init 71 = .ok (.putfield 36, 3) := by decide +kernel
theorem dX2_init_74 : decode cX2_init 74 = .ok (.aload_n 0, 1) := by decide +kernel
theorem dX2_init_75 : decode cX2_init 75 = .ok (.iconst 0, 1) := by decide +kernel
theorem dX2_init_76 : decode cX2_init 76 = .ok (.putfield 40, 3) := by decide +kernel
theorem dX2_init_79 : decode cX2_init 79 = .ok (.aload_n 0, 1) := by decide +kernel
theorem dX2_init_80 : decode cX2_init 80 = .ok (.iconst 1, 1) := by decide +kernel
theorem dX2_init_81 : decode cX2_init 81 = .ok (.putfield 43, 3) := by decide +kernel
theorem dX2_init_84 : decode cX2_init 84 = .ok (.aload_n 0, 1) := by decide +kernel
theorem dX2_init_85 : decode cX2_init 85 = .ok (.iconst 0, 1) := by decide +kernel
theorem dX2_init_86 : decode cX2_init 86 = .ok (.putfield 46, 3) := by decide +kernel
theorem dX2_init_89 : decode cX2_init 89 = .ok (.aload_n 0, 1) := by decide +kernel
theorem dX2_init_90 : decode cX2_init 90 = .ok (.iconst (-1), 1) := by decide +kernel
theorem dX2_init_91 : decode cX2_init 91 = .ok (.putfield 49, 3) := by decide +kernel
theorem dX2_init_94 : decode cX2_init 94 = .ok (.aload_n 0, 1) := by decide +kernel
theorem dX2_init_95 : decode cX2_init 95 = .ok (.iconst 0, 1) := by decide +kernel
theorem dX2_init_96 : decode cX2_init 96 = .ok (.putfield 52, 3) := by decide +kernel
theorem dX2_init_99 : decode cX2_init 99 = .ok (.aload_n 0, 1) := by decide +kernel
theorem dX2_init_100 : decode cX2_init 100 = .ok (.iconst 0, 1) := by decide +kernel
theorem dX2_init_101 : decode cX2_init 101 = .ok (.putfield 55, 3) := by decide +kernel
theorem dX2_init_104 : decode cX2_init 104 = .ok (.aload_n 0, 1) := by decide +kernel
theorem dX2_init_105 : decode cX2_init 105 = .ok (.iconst 0, 1) := by decide +kernel
theorem dX2_init_106 : decode cX2_init 106 = .ok (.putfield 59, 3) := by decide +kernel
theorem dX2_init_109 : decode cX2_init 109 = .ok (.aload_n 0, 1) := by decide +kernel
theorem dX2_init_110 : decode cX2_init 110 = .ok (.iconst 0, 1) := by decide +kernel
theorem dX2_init_111 : decode cX2_init 111 = .ok (.putfield 62, 3) := by decide +kernel
theorem dX2_init_114 : decode cX2_init 114 = .ok (.return_, 1) := by decide +kernel
theorem dX2_forget_0 : decode cX2_forget 0 = .ok (.aload_n 0, 1) := by decide +kernel
theorem dX2_forget_1 : decode cX2_forget 1 = .ok (.iconst 0, 1) := by decide +kernel
theorem dX2_forget_2 : decode cX2_forget 2 = .ok (.putfield 55, 3) := by decide +kernel
theorem dX2_forget_5 : decode cX2_forget 5 = .ok (.aload_n 0, 1) := by decide +kernel
theorem dX2_forget_6 : decode cX2_forget 6 = .ok (.iconst 0, 1) := by decide +kernel
theorem dX2_forget_7 : decode cX2_forget 7 = .ok (.putfield 59, 3) := by decide +kernel
theorem dX2_forget_10 : decode cX2_forget 10 = .ok (.aload_n 0, 1) := by decide +kernel
theorem dX2_forget_11 : decode cX2_forget 11 = .ok (.iconst 0, 1) := by decide +kernel
theorem dX2_forget_12 : decode cX2_forget 12 = .ok (.putfield 62, 3) := by decide +kernel
theorem dX2_forget_15 : decode cX2_forget 15 = .ok (.return_, 1) := by decide +kernel
theorem dX2_hasChoice_0 : decode cX2_hasChoice 0 = .ok (.aload_n 0, 1) := by decide +kernel
theorem dX2_hasChoice_1 : decode cX2_hasChoice 1 = .ok (.getfield 49, 3) := by decide +kernel
theorem dX2_hasChoice_4 : decode cX2_hasChoice 4 = .ok (.iconst (-1), 1) := by decide +kernel
theorem dX2_hasChoice_5 : decode cX2_hasChoice 5 = .ok (.if_icmp .eq 7, 3) := by decide +kernel
theorem dX2_hasChoice_8 : decode cX2_hasChoice 8 = .ok (.iconst 1, 1) := by decide +kernel
theorem dX2_hasChoice_9 : decode cX2_hasChoice 9 = .ok (.goto 4, 3) := by decide +kernel
theorem dX2_hasChoice_12 : decode cX2_hasChoice 12 = .ok (.iconst 0, 1) := by decide +kernel
theorem dX2_hasChoice_13 : decode cX2_hasChoice 13 = .ok (.ireturn, 1) := by decide +kernel
theorem dX2_bestFares_0 : decode cX2_bestFares 0 = .ok (.aload_n 0, 1) := by decide +kernel
theorem dX2_bestFares_1 : decode cX2_bestFares 1 = .ok (.invokevirtual 65, 3) := by decide +kernel
theorem dX2_bestFares_4 : decode cX2_bestFares 4 = .ok (.ifCond .eq 13, 3) := by decide +kernel
theorem dX2_bestFares_7 : decode cX2_bestFares 7 = .ok (.aload_n 0, 1) := by decide +kernel
theorem dX2_bestFares_8 : decode cX2_bestFares 8 = .ok (.getfield 49, 3) := by decide +kernel
theorem dX2_bestFares_11 : decode cX2_bestFares 11 = .ok (.bipush 16, 2) := by decide +kernel
theorem dX2_bestFares_13 : decode cX2_bestFares 13 = .ok (.idiv, 1) := by decide +kernel
theorem dX2_bestFares_14 : decode cX2_bestFares 14 = .ok (.goto 4, 3) := by decide +kernel
theorem dX2_bestFares_17 : decode cX2_bestFares 17 = .ok (.iconst 0, 1) := by decide +kernel
theorem dX2_bestFares_18 : decode cX2_bestFares 18 = .ok (.ireturn, 1) := by decide +kernel
theorem dX2_faresWithout_0 : decode cX2_faresWithout 0 = .ok (.iconst 0, 1) := by decide +kernel
theorem dX2_faresWithout_1 : decode cX2_faresWithout 1 = .ok (.istore_n 2, 1) := by decide +kernel
theorem dX2_faresWithout_2 : decode cX2_faresWithout 2 = .ok (.iconst 1, 1) := by decide +kernel
theorem dX2_faresWithout_3 : decode cX2_faresWithout 3 = .ok (.istore_n 3, 1) := by decide +kernel
theorem dX2_faresWithout_4 : decode cX2_faresWithout 4 = .ok (.iload_n 3, 1) := by decide +kernel
theorem dX2_faresWithout_5 : decode cX2_faresWithout 5 = .ok (.aload_n 0, 1) := by decide +kernel
theorem dX2_faresWithout_6 : decode cX2_faresWithout 6 = .ok (.getfield 43, 3) := by decide +kernel
theorem dX2_faresWithout_9 : decode cX2_faresWithout 9 = .ok (.if_icmp .ge 38, 3) := by decide +kernel
theorem dX2_faresWithout_12 : decode cX2_faresWithout 12 = .ok (.aload_n 0, 1) := by decide +kernel
theorem dX2_faresWithout_13 : decode cX2_faresWithout 13 = .ok (.getfield 21, 3) := by decide +kernel
theorem dX2_faresWithout_16 : decode cX2_faresWithout 16 = .ok (.iload_n 3, 1) := by decide +kernel
theorem dX2_faresWithout_17 : decode cX2_faresWithout 17 = .ok (.iaload, 1) := by decide +kernel
theorem dX2_faresWithout_18 : decode cX2_faresWithout 18 = .ok (.iconst 1, 1) := by decide +kernel
theorem dX2_faresWithout_19 : decode cX2_faresWithout 19 = .ok (.if_icmp .ne 22, 3) := by decide +kernel
theorem dX2_faresWithout_22 : decode cX2_faresWithout 22 = .ok (.iload_n 3, 1) := by decide +kernel
theorem dX2_faresWithout_23 : decode cX2_faresWithout 23 = .ok (.iload_n 1, 1) := by decide +kernel
theorem dX2_faresWithout_24 : decode cX2_faresWithout 24 = .ok (.ishr, 1) := by decide +kernel
theorem dX2_faresWithout_25 : decode cX2_faresWithout 25 = .ok (.iconst 1, 1) := by decide +kernel
theorem dX2_faresWithout_26 : decode cX2_faresWithout 26 = .ok (.iand, 1) := by decide +kernel
theorem dX2_faresWithout_27 : decode cX2_faresWithout 27 = .ok (.ifCond .ne 14, 3) := by decide +kernel
theorem dX2_faresWithout_30 : decode cX2_faresWithout 30 = .ok (.iload_n 2, 1) := by decide +kernel
theorem dX2_faresWithout_31 : decode cX2_faresWithout 31 = .ok (.aload_n 0, 1) := by decide +kernel
theorem dX2_faresWithout_32 : decode cX2_faresWithout 32 = .ok (.getfield 15, 3) := by decide +kernel
theorem dX2_faresWithout_35 : decode cX2_faresWithout 35 = .ok (.iload_n 3, 1) := by decide +kernel
theorem dX2_faresWithout_36 : decode cX2_faresWithout 36 = .ok (.iaload, 1) := by decide +kernel
theorem dX2_faresWithout_37 : decode cX2_faresWithout 37 = .ok (.invokestatic 69, 3) := by decide +kernel
theorem dX2_faresWithout_40 : decode cX2_faresWithout 40 = .ok (.istore_n 2, 1) := by decide +kernel
theorem dX2_faresWithout_41 : decode cX2_faresWithout 41 = .ok (.iinc 3 1, 3) := by decide +kernel
theorem dX2_faresWithout_44 : decode cX2_faresWithout 44 = .ok (.goto (-40), 3) := by decide +kernel
theorem dX2_faresWithout_47 : decode cX2_faresWithout 47 = .ok (.iload_n 2, 1) := by decide +kernel
theorem dX2_faresWithout_48 : decode cX2_faresWithout 48 = .ok (.ireturn, 1) := by decide +kernel
theorem dX2_countSets_0 : decode cX2_countSets 0 = .ok (.iconst 0, 1) := by decide +kernel
theorem dX2_countSets_1 : decode cX2_countSets 1 = .ok (.istore_n 1, 1) := by decide +kernel
theorem dX2_countSets_2 : decode cX2_countSets 2 = .ok (.iconst 1, 1) := by decide +kernel
theorem dX2_countSets_3 : decode cX2_countSets 3 = .ok (.istore_n 2, 1) := by decide +kernel
theorem dX2_countSets_4 : decode cX2_countSets 4 = .ok (.iload_n 2, 1) := by decide +kernel
theorem dX2_countSets_5 : decode cX2_countSets 5 = .ok (.aload_n 0, 1) := by decide +kernel
theorem dX2_countSets_6 : decode cX2_countSets 6 = .ok (.getfield 43, 3) := by decide +kernel
theorem dX2_countSets_9 : decode cX2_countSets 9 = .ok (.if_icmp .ge 22, 3) := by decide +kernel
theorem dX2_countSets_12 : decode cX2_countSets 12 = .ok (.aload_n 0, 1) := by decide +kernel
theorem dX2_countSets_13 : decode cX2_countSets 13 = .ok (.getfield 21, 3) := by decide +kernel
theorem dX2_countSets_16 : decode cX2_countSets 16 = .ok (.iload_n 2, 1) := by decide +kernel
theorem dX2_countSets_17 : decode cX2_countSets 17 = .ok (.iaload, 1) := by decide +kernel
theorem dX2_countSets_18 : decode cX2_countSets 18 = .ok (.iconst 1, 1) := by decide +kernel
theorem dX2_countSets_19 : decode cX2_countSets 19 = .ok (.if_icmp .ne 6, 3) := by decide +kernel
theorem dX2_countSets_22 : decode cX2_countSets 22 = .ok (.iinc 1 1, 3) := by decide +kernel
theorem dX2_countSets_25 : decode cX2_countSets 25 = .ok (.iinc 2 1, 3) := by decide +kernel
theorem dX2_countSets_28 : decode cX2_countSets 28 = .ok (.goto (-24), 3) := by decide +kernel
theorem dX2_countSets_31 : decode cX2_countSets 31 = .ok (.iload_n 1, 1) := by decide +kernel
theorem dX2_countSets_32 : decode cX2_countSets 32 = .ok (.ireturn, 1) := by decide +kernel
theorem dX2_faresWithin_0 : decode cX2_faresWithin 0 = .ok (.iconst 0, 1) := by decide +kernel
theorem dX2_faresWithin_1 : decode cX2_faresWithin 1 = .ok (.istore_n 2, 1) := by decide +kernel
theorem dX2_faresWithin_2 : decode cX2_faresWithin 2 = .ok (.iconst 1, 1) := by decide +kernel
theorem dX2_faresWithin_3 : decode cX2_faresWithin 3 = .ok (.istore_n 3, 1) := by decide +kernel
theorem dX2_faresWithin_4 : decode cX2_faresWithin 4 = .ok (.iload_n 3, 1) := by decide +kernel
theorem dX2_faresWithin_5 : decode cX2_faresWithin 5 = .ok (.aload_n 0, 1) := by decide +kernel
theorem dX2_faresWithin_6 : decode cX2_faresWithin 6 = .ok (.getfield 43, 3) := by decide +kernel
theorem dX2_faresWithin_9 : decode cX2_faresWithin 9 = .ok (.if_icmp .ge 30, 3) := by decide +kernel
theorem dX2_faresWithin_12 : decode cX2_faresWithin 12 = .ok (.aload_n 0, 1) := by decide +kernel
theorem dX2_faresWithin_13 : decode cX2_faresWithin 13 = .ok (.getfield 21, 3) := by decide +kernel
theorem dX2_faresWithin_16 : decode cX2_faresWithin 16 = .ok (.iload_n 3, 1) := by decide +kernel
theorem dX2_faresWithin_17 : decode cX2_faresWithin 17 = .ok (.iaload, 1) := by decide +kernel
theorem dX2_faresWithin_18 : decode cX2_faresWithin 18 = .ok (.iload_n 1, 1) := by decide +kernel
theorem dX2_faresWithin_19 : decode cX2_faresWithin 19 = .ok (.if_icmp .gt 14, 3) := by decide +kernel
theorem dX2_faresWithin_22 : decode cX2_faresWithin 22 = .ok (.iload_n 2, 1) := by decide +kernel
theorem dX2_faresWithin_23 : decode cX2_faresWithin 23 = .ok (.aload_n 0, 1) := by decide +kernel
theorem dX2_faresWithin_24 : decode cX2_faresWithin 24 = .ok (.getfield 15, 3) := by decide +kernel
theorem dX2_faresWithin_27 : decode cX2_faresWithin 27 = .ok (.iload_n 3, 1) := by decide +kernel
theorem dX2_faresWithin_28 : decode cX2_faresWithin 28 = .ok (.iaload, 1) := by decide +kernel
theorem dX2_faresWithin_29 : decode cX2_faresWithin 29 = .ok (.invokestatic 69, 3) := by decide +kernel
theorem dX2_faresWithin_32 : decode cX2_faresWithin 32 = .ok (.istore_n 2, 1) := by decide +kernel
theorem dX2_faresWithin_33 : decode cX2_faresWithin 33 = .ok (.iinc 3 1, 3) := by decide +kernel
theorem dX2_faresWithin_36 : decode cX2_faresWithin 36 = .ok (.goto (-32), 3) := by decide +kernel
theorem dX2_faresWithin_39 : decode cX2_faresWithin 39 = .ok (.iload_n 2, 1) := by decide +kernel
theorem dX2_faresWithin_40 : decode cX2_faresWithin 40 = .ok (.ireturn, 1) := by decide +kernel
theorem dX2_fewestForAll_0 : decode cX2_fewestForAll 0 = .ok (.aload_n 0, 1) := by decide +kernel
theorem dX2_fewestForAll_1 : decode cX2_fewestForAll 1 = .ok (.getfield 21, 3) := by decide +kernel
theorem dX2_fewestForAll_4 : decode cX2_fewestForAll 4 = .ok (.aload_n 0, 1) := by decide +kernel
theorem dX2_fewestForAll_5 : decode cX2_fewestForAll 5 = .ok (.getfield 46, 3) := by decide +kernel
theorem dX2_fewestForAll_8 : decode cX2_fewestForAll 8 = .ok (.sipush 255, 3) := by decide +kernel
theorem dX2_fewestForAll_11 : decode cX2_fewestForAll 11 = .ok (.iand, 1) := by decide +kernel
theorem dX2_fewestForAll_12 : decode cX2_fewestForAll 12 = .ok (.iaload, 1) := by decide +kernel
theorem dX2_fewestForAll_13 : decode cX2_fewestForAll 13 = .ok (.istore_n 1, 1) := by decide +kernel
theorem dX2_fewestForAll_14 : decode cX2_fewestForAll 14 = .ok (.iload_n 1, 1) := by decide +kernel
theorem dX2_fewestForAll_15 : decode cX2_fewestForAll 15 = .ok (.bipush 99, 2) := by decide +kernel
theorem dX2_fewestForAll_17 : decode cX2_fewestForAll 17 = .ok (.if_icmp .ne 8, 3) := by decide +kernel
theorem dX2_fewestForAll_20 : decode cX2_fewestForAll 20 = .ok (.bipush (-9), 2) := by decide +kernel
theorem dX2_fewestForAll_22 : decode cX2_fewestForAll 22 = .ok (.goto 4, 3) := by decide +kernel
theorem dX2_fewestForAll_25 : decode cX2_fewestForAll 25 = .ok (.iload_n 1, 1) := by decide +kernel
theorem dX2_fewestForAll_26 : decode cX2_fewestForAll 26 = .ok (.ireturn, 1) := by decide +kernel
theorem dX2_madeBy_0 : decode cX2_madeBy 0 = .ok (.iload_n 1, 1) := by decide +kernel
theorem dX2_madeBy_1 : decode cX2_madeBy 1 = .ok (.iconst 1, 1) := by decide +kernel
theorem dX2_madeBy_2 : decode cX2_madeBy 2 = .ok (.if_icmp .lt 9, 3) := by decide +kernel
theorem dX2_madeBy_5 : decode cX2_madeBy 5 = .ok (.iload_n 1, 1) := by decide +kernel
theorem dX2_madeBy_6 : decode cX2_madeBy 6 = .ok (.bipush 99, 2) := by decide +kernel
theorem dX2_madeBy_8 : decode cX2_madeBy 8 = .ok (.if_icmp .le 5, 3) := by decide +kernel
theorem dX2_madeBy_11 : decode cX2_madeBy 11 = .ok (.iconst 0, 1) := by decide +kernel
theorem dX2_madeBy_12 : decode cX2_madeBy 12 = .ok (.ireturn, 1) := by decide +kernel
theorem dX2_madeBy_13 : decode cX2_madeBy 13 = .ok (.aload_n 0, 1) := by decide +kernel
theorem dX2_madeBy_14 : decode cX2_madeBy 14 = .ok (.getfield 24, 3) := by decide +kernel
theorem dX2_madeBy_17 : decode cX2_madeBy 17 = .ok (.iload_n 1, 1) := by decide +kernel
theorem dX2_madeBy_18 : decode cX2_madeBy 18 = .ok (.iaload, 1) := by decide +kernel
theorem dX2_madeBy_19 : decode cX2_madeBy 19 = .ok (.aload_n 0, 1) := by decide +kernel
theorem dX2_madeBy_20 : decode cX2_madeBy 20 = .ok (.invokevirtual 75, 3) := by decide +kernel
theorem dX2_madeBy_23 : decode cX2_madeBy 23 = .ok (.isub, 1) := by decide +kernel
theorem dX2_madeBy_24 : decode cX2_madeBy 24 = .ok (.ireturn, 1) := by decide +kernel
theorem dX2_bestMakeWeight_0 : decode cX2_bestMakeWeight 0 = .ok (.bipush (-9), 2) := by decide +kernel
theorem dX2_bestMakeWeight_2 : decode cX2_bestMakeWeight 2 = .ok (.istore_n 1, 1) := by decide +kernel
theorem dX2_bestMakeWeight_3 : decode cX2_bestMakeWeight 3 = .ok (.iconst 0, 1) := by decide +kernel
theorem dX2_bestMakeWeight_4 : decode cX2_bestMakeWeight 4 = .ok (.istore_n 2, 1) := by decide +kernel
theorem dX2_bestMakeWeight_5 : decode cX2_bestMakeWeight 5 = .ok (.iconst 1, 1) := by decide +kernel
theorem dX2_bestMakeWeight_6 : decode cX2_bestMakeWeight 6 = .ok (.istore_n 3, 1) := by decide +kernel
theorem dX2_bestMakeWeight_7 : decode cX2_bestMakeWeight 7 = .ok (.iload_n 3, 1) := by decide +kernel
theorem dX2_bestMakeWeight_8 : decode cX2_bestMakeWeight 8 = .ok (.bipush 99, 2) := by decide +kernel
theorem dX2_bestMakeWeight_10 : decode cX2_bestMakeWeight 10 = .ok (.if_icmp .gt 26, 3) := by decide +kernel
theorem dX2_bestMakeWeight_13 : decode cX2_bestMakeWeight 13 = .ok (.aload_n 0, 1) := by decide +kernel
theorem dX2_bestMakeWeight_14 : decode cX2_bestMakeWeight 14 = .ok (.iload_n 3, 1) := by decide +kernel
theorem dX2_bestMakeWeight_15 : decode cX2_bestMakeWeight 15 = .ok (.invokevirtual 79, 3) := by decide +kernel
theorem dX2_bestMakeWeight_18 : decode cX2_bestMakeWeight 18 = .ok (.iload_n 2, 1) := by decide +kernel
theorem dX2_bestMakeWeight_19 : decode cX2_bestMakeWeight 19 = .ok (.if_icmp .le 11, 3) := by decide +kernel
theorem dX2_bestMakeWeight_22 : decode cX2_bestMakeWeight 22 = .ok (.aload_n 0, 1) := by decide +kernel
theorem dX2_bestMakeWeight_23 : decode cX2_bestMakeWeight 23 = .ok (.iload_n 3, 1) := by decide +kernel
theorem dX2_bestMakeWeight_24 : decode cX2_bestMakeWeight 24 = .ok (.invokevirtual 79, 3) := by decide +kernel
theorem dX2_bestMakeWeight_27 : decode cX2_bestMakeWeight 27 = .ok (.istore_n 2, 1) := by decide +kernel
theorem dX2_bestMakeWeight_28 : decode cX2_bestMakeWeight 28 = .ok (.iload_n 3, 1) := by decide +kernel
theorem dX2_bestMakeWeight_29 : decode cX2_bestMakeWeight 29 = .ok (.istore_n 1, 1) := by decide +kernel
theorem dX2_bestMakeWeight_30 : decode cX2_bestMakeWeight 30 = .ok (.iinc 3 1, 3) := by decide +kernel
theorem dX2_bestMakeWeight_33 : decode cX2_bestMakeWeight 33 = .ok (.goto (-26), 3) := by decide +kernel
theorem dX2_bestMakeWeight_36 : decode cX2_bestMakeWeight 36 = .ok (.iload_n 1, 1) := by decide +kernel
theorem dX2_bestMakeWeight_37 : decode cX2_bestMakeWeight 37 = .ok (.ireturn, 1) := by decide +kernel
theorem dX2_findChoices_0 : decode cX2_findChoices 0 = .ok (.aload_n 0, 1) := by decide +kernel
theorem dX2_findChoices_1 : decode cX2_findChoices 1 = .ok (.getfield 55, 3) := by decide +kernel
theorem dX2_findChoices_4 : decode cX2_findChoices 4 = .ok (.ifCond .eq 4, 3) := by decide +kernel
theorem dX2_findChoices_7 : decode cX2_findChoices 7 = .ok (.return_, 1) := by decide +kernel
theorem dX2_findChoices_8 : decode cX2_findChoices 8 = .ok (.aload_n 0, 1) := by decide +kernel
theorem dX2_findChoices_9 : decode cX2_findChoices 9 = .ok (.aload_n 1, 1) := by decide +kernel
theorem dX2_findChoices_10 : decode cX2_findChoices 10 = .ok (.aload_n 2, 1) := by decide +kernel
theorem dX2_findChoices_11 : decode cX2_findChoices 11 = .ok (.invokevirtual 83, 3) := by decide +kernel
theorem dX2_findChoices_14 : decode cX2_findChoices 14 = .ok (.aload_n 0, 1) := by decide +kernel
theorem dX2_findChoices_15 : decode cX2_findChoices 15 = .ok (.aload_n 1, 1) := by decide +kernel
theorem dX2_findChoices_16 : decode cX2_findChoices 16 = .ok (.aload_n 2, 1) := by decide +kernel
theorem dX2_findChoices_17 : decode cX2_findChoices 17 = .ok (.invokevirtual 87, 3) := by decide +kernel
theorem dX2_findChoices_20 : decode cX2_findChoices 20 = .ok (.aload_n 0, 1) := by decide +kernel
theorem dX2_findChoices_21 : decode cX2_findChoices 21 = .ok (.iconst (-1), 1) := by decide +kernel
theorem dX2_findChoices_22 : decode cX2_findChoices 22 = .ok (.putfield 49, 3) := by decide +kernel
theorem dX2_findChoices_25 : decode cX2_findChoices 25 = .ok (.aload_n 0, 1) := by decide +kernel
theorem dX2_findChoices_26 : decode cX2_findChoices 26 = .ok (.iconst 0, 1) := by decide +kernel
theorem dX2_findChoices_27 : decode cX2_findChoices 27 = .ok (.putfield 52, 3) := by decide +kernel
theorem dX2_findChoices_30 : decode cX2_findChoices 30 = .ok (.aload_n 0, 1) := by decide +kernel
theorem dX2_findChoices_31 : decode cX2_findChoices 31 = .ok (.aload_n 0, 1) := by decide +kernel
theorem dX2_findChoices_32 : decode cX2_findChoices 32 = .ok (.getfield 36, 3) := by decide +kernel
theorem dX2_findChoices_35 : decode cX2_findChoices 35 = .ok (.iconst 1, 1) := by decide +kernel
theorem dX2_findChoices_36 : decode cX2_findChoices 36 = .ok (.isub, 1) := by decide +kernel
theorem dX2_findChoices_37 : decode cX2_findChoices 37 = .ok (.iconst 0, 1) := by decide +kernel
theorem dX2_findChoices_38 : decode cX2_findChoices 38 = .ok (.invokevirtual 90, 3) := by decide +kernel
theorem dX2_findChoices_41 : decode cX2_findChoices 41 = .ok (.aload_n 0, 1) := by decide +kernel
theorem dX2_findChoices_42 : decode cX2_findChoices 42 = .ok (.iconst 1, 1) := by decide +kernel
theorem dX2_findChoices_43 : decode cX2_findChoices 43 = .ok (.putfield 55, 3) := by decide +kernel
theorem dX2_findChoices_46 : decode cX2_findChoices 46 = .ok (.return_, 1) := by decide +kernel
theorem dX2_findMakeWeights_0 : decode cX2_findMakeWeights 0 = .ok (.aload_n 0, 1) := by decide +kernel
theorem dX2_findMakeWeights_1 : decode cX2_findMakeWeights 1 = .ok (.getfield 62, 3) := by decide +kernel
theorem dX2_findMakeWeights_4 : decode cX2_findMakeWeights 4 = .ok (.ifCond .eq 4, 3) := by decide +kernel
theorem dX2_findMakeWeights_7 : decode cX2_findMakeWeights 7 = .ok (.return_, 1) := by decide +kernel
theorem dX2_findMakeWeights_8 : decode cX2_findMakeWeights 8 = .ok (.iconst 0, 1) := by decide +kernel
theorem dX2_findMakeWeights_9 : decode cX2_findMakeWeights 9 = .ok (.istore_n 1, 1) := by decide +kernel
theorem dX2_findMakeWeights_10 : decode cX2_findMakeWeights 10 = .ok (.iload_n 1, 1) := by decide +kernel
theorem dX2_findMakeWeights_11 : decode cX2_findMakeWeights 11 = .ok (.bipush 99, 2) := by decide +kernel
theorem dX2_findMakeWeights_13 : decode cX2_findMakeWeights 13 = .ok (.if_icmp .gt 19, 3) := by decide +kernel
theorem dX2_findMakeWeights_16 : decode cX2_findMakeWeights 16 = .ok (.aload_n 0, 1) := by decide +kernel
theorem dX2_findMakeWeights_17 : decode cX2_findMakeWeights 17 = .ok (.getfield 24, 3) := by decide +kernel
theorem dX2_findMakeWeights_20 : decode cX2_findMakeWeights 20 = .ok (.iload_n 1, 1) := by decide +kernel
theorem dX2_findMakeWeights_21 : decode cX2_findMakeWeights 21 = .ok (.aload_n 0, 1) := by decide +kernel
theorem dX2_findMakeWeights_22 : decode cX2_findMakeWeights 22 = .ok (.invokevirtual 75, 3) := by decide +kernel
theorem dX2_findMakeWeights_25 : decode cX2_findMakeWeights 25 = .ok (.iastore, 1) := by decide +kernel
theorem dX2_findMakeWeights_26 : decode cX2_findMakeWeights 26 = .ok (.iinc 1 1, 3) := by decide +kernel
theorem dX2_findMakeWeights_29 : decode cX2_findMakeWeights 29 = .ok (.goto (-19), 3) := by decide +kernel
theorem dX2_findMakeWeights_32 : decode cX2_findMakeWeights 32 = .ok (.iconst 0, 1) := by decide +kernel
theorem dX2_findMakeWeights_33 : decode cX2_findMakeWeights 33 = .ok (.istore_n 1, 1) := by decide +kernel
theorem dX2_findMakeWeights_34 : decode cX2_findMakeWeights 34 = .ok (.iload_n 1, 1) := by decide +kernel
theorem dX2_findMakeWeights_35 : decode cX2_findMakeWeights 35 = .ok (.aload_n 0, 1) := by decide +kernel
theorem dX2_findMakeWeights_36 : decode cX2_findMakeWeights 36 = .ok (.getfield 36, 3) := by decide +kernel
theorem dX2_findMakeWeights_39 : decode cX2_findMakeWeights 39 = .ok (.if_icmp .ge 15, 3) := by decide +kernel
theorem dX2_findMakeWeights_42 : decode cX2_findMakeWeights 42 = .ok (.aload_n 0, 1) := by decide +kernel
theorem dX2_findMakeWeights_43 : decode cX2_findMakeWeights 43 = .ok (.iload_n 1, 1) := by decide +kernel
theorem dX2_findMakeWeights_44 : decode cX2_findMakeWeights 44 = .ok (.iconst 1, 1) := by decide +kernel
theorem dX2_findMakeWeights_45 : decode cX2_findMakeWeights 45 = .ok (.invokevirtual 90, 3) := by decide +kernel
theorem dX2_findMakeWeights_48 : decode cX2_findMakeWeights 48 = .ok (.iinc 1 1, 3) := by decide +kernel
theorem dX2_findMakeWeights_51 : decode cX2_findMakeWeights 51 = .ok (.goto (-17), 3) := by decide +kernel
theorem dX2_findMakeWeights_54 : decode cX2_findMakeWeights 54 = .ok (.aload_n 0, 1) := by decide +kernel
theorem dX2_findMakeWeights_55 : decode cX2_findMakeWeights 55 = .ok (.iconst 1, 1) := by decide +kernel
theorem dX2_findMakeWeights_56 : decode cX2_findMakeWeights 56 = .ok (.putfield 62, 3) := by decide +kernel
theorem dX2_findMakeWeights_59 : decode cX2_findMakeWeights 59 = .ok (.return_, 1) := by decide +kernel
theorem dX2_findChains_0 : decode cX2_findChains 0 = .ok (.aload_n 0, 1) := by decide +kernel
theorem dX2_findChains_1 : decode cX2_findChains 1 = .ok (.getfield 59, 3) := by decide +kernel
theorem dX2_findChains_4 : decode cX2_findChains 4 = .ok (.ifCond .eq 4, 3) := by decide +kernel
theorem dX2_findChains_7 : decode cX2_findChains 7 = .ok (.return_, 1) := by decide +kernel
theorem dX2_findChains_8 : decode cX2_findChains 8 = .ok (.iconst 1, 1) := by decide +kernel
theorem dX2_findChains_9 : decode cX2_findChains 9 = .ok (.istore_n 1, 1) := by decide +kernel
theorem dX2_findChains_10 : decode cX2_findChains 10 = .ok (.iload_n 1, 1) := by decide +kernel
theorem dX2_findChains_11 : decode cX2_findChains 11 = .ok (.aload_n 0, 1) := by decide +kernel
theorem dX2_findChains_12 : decode cX2_findChains 12 = .ok (.getfield 43, 3) := by decide +kernel
theorem dX2_findChains_15 : decode cX2_findChains 15 = .ok (.if_icmp .ge 30, 3) := by decide +kernel
theorem dX2_findChains_18 : decode cX2_findChains 18 = .ok (.aload_n 0, 1) := by decide +kernel
theorem dX2_findChains_19 : decode cX2_findChains 19 = .ok (.getfield 21, 3) := by decide +kernel
theorem dX2_findChains_22 : decode cX2_findChains 22 = .ok (.iload_n 1, 1) := by decide +kernel
theorem dX2_findChains_23 : decode cX2_findChains 23 = .ok (.iaload, 1) := by decide +kernel
theorem dX2_findChains_24 : decode cX2_findChains 24 = .ok (.iconst 1, 1) := by decide +kernel
theorem dX2_findChains_25 : decode cX2_findChains 25 = .ok (.if_icmp .eq 14, 3) := by decide +kernel
theorem dX2_findChains_28 : decode cX2_findChains 28 = .ok (.aload_n 0, 1) := by decide +kernel
theorem dX2_findChains_29 : decode cX2_findChains 29 = .ok (.getfield 21, 3) := by decide +kernel
theorem dX2_findChains_32 : decode cX2_findChains 32 = .ok (.iload_n 1, 1) := by decide +kernel
theorem dX2_findChains_33 : decode cX2_findChains 33 = .ok (.aload_n 0, 1) := by decide +kernel
theorem dX2_findChains_34 : decode cX2_findChains 34 = .ok (.iload_n 1, 1) := by decide +kernel
theorem dX2_findChains_35 : decode cX2_findChains 35 = .ok (.invokevirtual 94, 3) := by decide +kernel
theorem dX2_findChains_38 : decode cX2_findChains 38 = .ok (.iastore, 1) := by decide +kernel
theorem dX2_findChains_39 : decode cX2_findChains 39 = .ok (.iinc 1 1, 3) := by decide +kernel
theorem dX2_findChains_42 : decode cX2_findChains 42 = .ok (.goto (-32), 3) := by decide +kernel
theorem dX2_findChains_45 : decode cX2_findChains 45 = .ok (.aload_n 0, 1) := by decide +kernel
theorem dX2_findChains_46 : decode cX2_findChains 46 = .ok (.iconst 1, 1) := by decide +kernel
theorem dX2_findChains_47 : decode cX2_findChains 47 = .ok (.putfield 59, 3) := by decide +kernel
theorem dX2_findChains_50 : decode cX2_findChains 50 = .ok (.return_, 1) := by decide +kernel
theorem dX2_fewestOf_0 : decode cX2_fewestOf 0 = .ok (.iload_n 1, 1) := by decide +kernel
theorem dX2_fewestOf_1 : decode cX2_fewestOf 1 = .ok (.iload_n 1, 1) := by decide +kernel
theorem dX2_fewestOf_2 : decode cX2_fewestOf 2 = .ok (.iconst 1, 1) := by decide +kernel
theorem dX2_fewestOf_3 : decode cX2_fewestOf 3 = .ok (.isub, 1) := by decide +kernel
theorem dX2_fewestOf_4 : decode cX2_fewestOf 4 = .ok (.iand, 1) := by decide +kernel
theorem dX2_fewestOf_5 : decode cX2_fewestOf 5 = .ok (.istore_n 2, 1) := by decide +kernel
theorem dX2_fewestOf_6 : decode cX2_fewestOf 6 = .ok (.iload_n 1, 1) := by decide +kernel
theorem dX2_fewestOf_7 : decode cX2_fewestOf 7 = .ok (.iload_n 2, 1) := by decide +kernel
theorem dX2_fewestOf_8 : decode cX2_fewestOf 8 = .ok (.isub, 1) := by decide +kernel
theorem dX2_fewestOf_9 : decode cX2_fewestOf 9 = .ok (.istore_n 3, 1) := by decide +kernel
theorem dX2_fewestOf_10 : decode cX2_fewestOf 10 = .ok (.bipush 99, 2) := by decide +kernel
theorem dX2_fewestOf_12 : decode cX2_fewestOf 12 = .ok (.istore 4, 2) := by decide +kernel
theorem dX2_fewestOf_14 : decode cX2_fewestOf 14 = .ok (.iload_n 2, 1) := by decide +kernel
theorem dX2_fewestOf_15 : decode cX2_fewestOf 15 = .ok (.istore 5, 2) := by decide +kernel
theorem dX2_fewestOf_17 : decode cX2_fewestOf 17 = .ok (.iload 5, 2) := by decide +kernel
theorem dX2_fewestOf_19 : decode cX2_fewestOf 19 = .ok (.ifCond .lt 56, 3) := by decide +kernel
theorem dX2_fewestOf_22 : decode cX2_fewestOf 22 = .ok (.aload_n 0, 1) := by decide +kernel
theorem dX2_fewestOf_23 : decode cX2_fewestOf 23 = .ok (.getfield 21, 3) := by decide +kernel
theorem dX2_fewestOf_26 : decode cX2_fewestOf 26 = .ok (.iload_n 3, 1) := by decide +kernel
theorem dX2_fewestOf_27 : decode cX2_fewestOf 27 = .ok (.iload 5, 2) := by decide +kernel
theorem dX2_fewestOf_29 : decode cX2_fewestOf 29 = .ok (.ior, 1) := by decide +kernel
theorem dX2_fewestOf_30 : decode cX2_fewestOf 30 = .ok (.iaload, 1) := by decide +kernel
theorem dX2_fewestOf_31 : decode cX2_fewestOf 31 = .ok (.iconst 1, 1) := by decide +kernel
theorem dX2_fewestOf_32 : decode cX2_fewestOf 32 = .ok (.if_icmp .ne 23, 3) := by decide +kernel
theorem dX2_fewestOf_35 : decode cX2_fewestOf 35 = .ok (.iload 4, 2) := by decide +kernel
theorem dX2_fewestOf_37 : decode cX2_fewestOf 37 = .ok (.iconst 1, 1) := by decide +kernel
theorem dX2_fewestOf_38 : decode cX2_fewestOf 38 = .ok (.aload_n 0, 1) := by decide +kernel
theorem dX2_fewestOf_39 : decode cX2_fewestOf 39 = .ok (.getfield 21, 3) := by decide +kernel
theorem dX2_fewestOf_42 : decode cX2_fewestOf 42 = .ok (.iload_n 2, 1) := by decide +kernel
theorem dX2_fewestOf_43 : decode cX2_fewestOf 43 = .ok (.iload 5, 2) := by decide +kernel
theorem dX2_fewestOf_45 : decode cX2_fewestOf 45 = .ok (.iconst (-1), 1) := by decide +kernel
theorem dX2_fewestOf_46 : decode cX2_fewestOf 46 = .ok (.ixor, 1) := by decide +kernel
theorem dX2_fewestOf_47 : decode cX2_fewestOf 47 = .ok (.iand, 1) := by decide +kernel
theorem dX2_fewestOf_48 : decode cX2_fewestOf 48 = .ok (.iaload, 1) := by decide +kernel
theorem dX2_fewestOf_49 : decode cX2_fewestOf 49 = .ok (.iadd, 1) := by decide +kernel
theorem dX2_fewestOf_50 : decode cX2_fewestOf 50 = .ok (.invokestatic 97, 3) := by decide +kernel
theorem dX2_fewestOf_53 : decode cX2_fewestOf 53 = .ok (.istore 4, 2) := by decide +kernel
theorem dX2_fewestOf_55 : decode cX2_fewestOf 55 = .ok (.iload 5, 2) := by decide +kernel
theorem dX2_fewestOf_57 : decode cX2_fewestOf 57 = .ok (.ifCond .ne 7, 3) := by decide +kernel
theorem dX2_fewestOf_60 : decode cX2_fewestOf 60 = .ok (.iconst (-1), 1) := by decide +kernel
theorem dX2_fewestOf_61 : decode cX2_fewestOf 61 = .ok (.goto 9, 3) := by decide +kernel
theorem dX2_fewestOf_64 : decode cX2_fewestOf 64 = .ok (.iload 5, 2) := by decide +kernel
theorem dX2_fewestOf_66 : decode cX2_fewestOf 66 = .ok (.iconst 1, 1) := by decide +kernel
theorem dX2_fewestOf_67 : decode cX2_fewestOf 67 = .ok (.isub, 1) := by decide +kernel
theorem dX2_fewestOf_68 : decode cX2_fewestOf 68 = .ok (.iload_n 2, 1) := by decide +kernel
theorem dX2_fewestOf_69 : decode cX2_fewestOf 69 = .ok (.iand, 1) := by decide +kernel
theorem dX2_fewestOf_70 : decode cX2_fewestOf 70 = .ok (.istore 5, 2) := by decide +kernel
theorem dX2_fewestOf_72 : decode cX2_fewestOf 72 = .ok (.goto (-55), 3) := by decide +kernel
theorem dX2_fewestOf_75 : decode cX2_fewestOf 75 = .ok (.iload 4, 2) := by decide +kernel
theorem dX2_fewestOf_77 : decode cX2_fewestOf 77 = .ok (.bipush 99, 2) := by decide +kernel
theorem dX2_fewestOf_79 : decode cX2_fewestOf 79 = .ok (.invokestatic 97, 3) := by decide +kernel
theorem dX2_fewestOf_82 : decode cX2_fewestOf 82 = .ok (.ireturn, 1) := by decide +kernel
theorem dX2_prepare_0 : decode cX2_prepare 0 = .ok (.aload_n 0, 1) := by decide +kernel
theorem dX2_prepare_1 : decode cX2_prepare 1 = .ok (.aload_n 1, 1) := by decide +kernel
theorem dX2_prepare_2 : decode cX2_prepare 2 = .ok (.getfield 100, 3) := by decide +kernel
theorem dX2_prepare_5 : decode cX2_prepare 5 = .ok (.putfield 36, 3) := by decide +kernel
theorem dX2_prepare_8 : decode cX2_prepare 8 = .ok (.aload_n 0, 1) := by decide +kernel
theorem dX2_prepare_9 : decode cX2_prepare 9 = .ok (.aload_n 1, 1) := by decide +kernel
theorem dX2_prepare_10 : decode cX2_prepare 10 = .ok (.getfield 103, 3) := by decide +kernel
theorem dX2_prepare_13 : decode cX2_prepare 13 = .ok (.putfield 40, 3) := by decide +kernel
theorem dX2_prepare_16 : decode cX2_prepare 16 = .ok (.aload_n 0, 1) := by decide +kernel
theorem dX2_prepare_17 : decode cX2_prepare 17 = .ok (.iconst 1, 1) := by decide +kernel
theorem dX2_prepare_18 : decode cX2_prepare 18 = .ok (.aload_n 1, 1) := by decide +kernel
theorem dX2_prepare_19 : decode cX2_prepare 19 = .ok (.getfield 104, 3) := by decide +kernel
theorem dX2_prepare_22 : decode cX2_prepare 22 = .ok (.ishl, 1) := by decide +kernel
theorem dX2_prepare_23 : decode cX2_prepare 23 = .ok (.putfield 43, 3) := by decide +kernel
theorem dX2_prepare_26 : decode cX2_prepare 26 = .ok (.aload_n 0, 1) := by decide +kernel
theorem dX2_prepare_27 : decode cX2_prepare 27 = .ok (.aload_n 0, 1) := by decide +kernel
theorem dX2_prepare_28 : decode cX2_prepare 28 = .ok (.getfield 43, 3) := by decide +kernel
theorem dX2_prepare_31 : decode cX2_prepare 31 = .ok (.iconst 1, 1) := by decide +kernel
theorem dX2_prepare_32 : decode cX2_prepare 32 = .ok (.isub, 1) := by decide +kernel
theorem dX2_prepare_33 : decode cX2_prepare 33 = .ok (.aload_n 2, 1) := by decide +kernel
theorem dX2_prepare_34 : decode cX2_prepare 34 = .ok (.invokevirtual 107, 3) := by decide +kernel
theorem dX2_prepare_37 : decode cX2_prepare 37 = .ok (.iconst (-1), 1) := by decide +kernel
theorem dX2_prepare_38 : decode cX2_prepare 38 = .ok (.ixor, 1) := by decide +kernel
theorem dX2_prepare_39 : decode cX2_prepare 39 = .ok (.iand, 1) := by decide +kernel
theorem dX2_prepare_40 : decode cX2_prepare 40 = .ok (.putfield 46, 3) := by decide +kernel
theorem dX2_prepare_43 : decode cX2_prepare 43 = .ok (.iconst 0, 1) := by decide +kernel
theorem dX2_prepare_44 : decode cX2_prepare 44 = .ok (.istore_n 3, 1) := by decide +kernel
theorem dX2_prepare_45 : decode cX2_prepare 45 = .ok (.iload_n 3, 1) := by decide +kernel
theorem dX2_prepare_46 : decode cX2_prepare 46 = .ok (.iconst 3, 1) := by decide +kernel
theorem dX2_prepare_47 : decode cX2_prepare 47 = .ok (.if_icmp .ge 101, 3) := by decide +kernel
theorem dX2_prepare_50 : decode cX2_prepare 50 = .ok (.aload_n 0, 1) := by decide +kernel
theorem dX2_prepare_51 : decode cX2_prepare 51 = .ok (.getfield 30, 3) := by decide +kernel
theorem dX2_prepare_54 : decode cX2_prepare 54 = .ok (.iload_n 3, 1) := by decide +kernel
theorem dX2_prepare_55 : decode cX2_prepare 55 = .ok (.aload_n 1, 1) := by decide +kernel
theorem dX2_prepare_56 : decode cX2_prepare 56 = .ok (.iload_n 3, 1) := by decide +kernel
theorem dX2_prepare_57 : decode cX2_prepare 57 = .ok (.invokevirtual 112, 3) := by decide +kernel
theorem dX2_prepare_60 : decode cX2_prepare 60 = .ok (.iastore, 1) := by decide +kernel
theorem dX2_prepare_61 : decode cX2_prepare 61 = .ok (.aload_n 0, 1) := by decide +kernel
theorem dX2_prepare_62 : decode cX2_prepare 62 = .ok (.getfield 33, 3) := by decide +kernel
theorem dX2_prepare_65 : decode cX2_prepare 65 = .ok (.iload_n 3, 1) := by decide +kernel
theorem dX2_prepare_66 : decode cX2_prepare 66 = .ok (.iload_n 3, 1) := by decide +kernel
theorem dX2_prepare_67 : decode cX2_prepare 67 = .ok (.ifCond .ne 20, 3) := by decide +kernel
theorem dX2_prepare_70 : decode cX2_prepare 70 = .ok (.aload_n 0, 1) := by decide +kernel
theorem dX2_prepare_71 : decode cX2_prepare 71 = .ok (.getfield 30, 3) := by decide +kernel
theorem dX2_prepare_74 : decode cX2_prepare 74 = .ok (.iload_n 3, 1) := by decide +kernel
theorem dX2_prepare_75 : decode cX2_prepare 75 = .ok (.iaload, 1) := by decide +kernel
theorem dX2_prepare_76 : decode cX2_prepare 76 = .ok (.aload_n 1, 1) := by decide +kernel
theorem dX2_prepare_77 : decode cX2_prepare 77 = .ok (.getfield 115, 3) := by decide +kernel
theorem dX2_prepare_80 : decode cX2_prepare 80 = .ok (.imul, 1) := by decide +kernel
theorem dX2_prepare_81 : decode cX2_prepare 81 = .ok (.ldc 118, 2) := by decide +kernel
theorem dX2_prepare_83 : decode cX2_prepare 83 = .ok (.imul, 1) := by decide +kernel
theorem dX2_prepare_84 : decode cX2_prepare 84 = .ok (.goto 4, 3) := by decide +kernel
theorem dX2_prepare_87 : decode cX2_prepare 87 = .ok (.iconst 0, 1) := by decide +kernel
theorem dX2_prepare_88 : decode cX2_prepare 88 = .ok (.iastore, 1) := by decide +kernel
theorem dX2_prepare_89 : decode cX2_prepare 89 = .ok (.aload_n 0, 1) := by decide +kernel
theorem dX2_prepare_90 : decode cX2_prepare 90 = .ok (.getfield 27, 3) := by decide +kernel
theorem dX2_prepare_93 : decode cX2_prepare 93 = .ok (.iload_n 3, 1) := by decide +kernel
theorem dX2_prepare_94 : decode cX2_prepare 94 = .ok (.iconst 0, 1) := by decide +kernel
theorem dX2_prepare_95 : decode cX2_prepare 95 = .ok (.iastore, 1) := by decide +kernel
theorem dX2_prepare_96 : decode cX2_prepare 96 = .ok (.iconst 0, 1) := by decide +kernel
theorem dX2_prepare_97 : decode cX2_prepare 97 = .ok (.istore 4, 2) := by decide +kernel
theorem dX2_prepare_99 : decode cX2_prepare 99 = .ok (.iload 4, 2) := by decide +kernel
theorem dX2_prepare_101 : decode cX2_prepare 101 = .ok (.aload_n 1, 1) := by decide +kernel
theorem dX2_prepare_102 : decode cX2_prepare 102 = .ok (.getfield 104, 3) := by decide +kernel
theorem dX2_prepare_105 : decode cX2_prepare 105 = .ok (.if_icmp .ge 37, 3) := by decide +kernel
theorem dX2_prepare_108 : decode cX2_prepare 108 = .ok (.aload_n 1, 1) := by decide +kernel
theorem dX2_prepare_109 : decode cX2_prepare 109 = .ok (.iload 4, 2) := by decide +kernel
theorem dX2_prepare_111 : decode cX2_prepare 111 = .ok (.iload_n 3, 1) := by decide +kernel
theorem dX2_prepare_112 : decode cX2_prepare 112 = .ok (.invokevirtual 119, 3) := by decide +kernel
theorem dX2_prepare_115 : decode cX2_prepare 115 = .ok (.ifCond .eq 21, 3) := by decide +kernel
theorem dX2_prepare_118 : decode cX2_prepare 118 = .ok (.aload_n 0, 1) := by decide +kernel
theorem dX2_prepare_119 : decode cX2_prepare 119 = .ok (.getfield 27, 3) := by decide +kernel
theorem dX2_prepare_122 : decode cX2_prepare 122 = .ok (.iload_n 3, 1) := by decide +kernel
theorem dX2_prepare_123 : decode cX2_prepare 123 = .ok (.dup2, 1) := by decide +kernel
theorem dX2_prepare_124 : decode cX2_prepare 124 = .ok (.iaload, 1) := by decide +kernel
theorem dX2_prepare_125 : decode cX2_prepare 125 = .ok (.aload_n 0, 1) := by decide +kernel
theorem dX2_prepare_126 : decode cX2_prepare 126 = .ok (.getfield 46, 3) := by decide +kernel
theorem dX2_prepare_129 : decode cX2_prepare 129 = .ok (.iconst 1, 1) := by decide +kernel
theorem dX2_prepare_130 : decode cX2_prepare 130 = .ok (.iload 4, 2) := by decide +kernel
theorem dX2_prepare_132 : decode cX2_prepare 132 = .ok (.ishl, 1) := by decide +kernel
theorem dX2_prepare_133 : decode cX2_prepare 133 = .ok (.iand, 1) := by decide +kernel
theorem dX2_prepare_134 : decode cX2_prepare 134 = .ok (.ior, 1) := by decide +kernel
theorem dX2_prepare_135 : decode cX2_prepare 135 = .ok (.iastore, 1) := by decide +kernel
theorem dX2_prepare_136 : decode cX2_prepare 136 = .ok (.iinc 4 1, 3) := by decide +kernel
theorem dX2_prepare_139 : decode cX2_prepare 139 = .ok (.goto (-40), 3) := by decide +kernel
theorem dX2_prepare_142 : decode cX2_prepare 142 = .ok (.iinc 3 1, 3) := by decide +kernel
theorem dX2_prepare_145 : decode cX2_prepare 145 = .ok (.goto (-100), 3) := by decide +kernel
theorem dX2_prepare_148 : decode cX2_prepare 148 = .ok (.return_, 1) := by decide +kernel
theorem dX2_weighSets_0 : decode cX2_weighSets 0 = .ok (.iconst 0, 1) := by decide +kernel
theorem dX2_weighSets_1 : decode cX2_weighSets 1 = .ok (.istore_n 3, 1) := by decide +kernel
theorem dX2_weighSets_2 : decode cX2_weighSets 2 = .ok (.iload_n 3, 1) := by decide +kernel
theorem dX2_weighSets_3 : decode cX2_weighSets 3 = .ok (.sipush 256, 3) := by decide +kernel
theorem dX2_weighSets_6 : decode cX2_weighSets 6 = .ok (.if_icmp .ge 17, 3) := by decide +kernel
theorem dX2_weighSets_9 : decode cX2_weighSets 9 = .ok (.aload_n 0, 1) := by decide +kernel
theorem dX2_weighSets_10 : decode cX2_weighSets 10 = .ok (.getfield 21, 3) := by decide +kernel
theorem dX2_weighSets_13 : decode cX2_weighSets 13 = .ok (.iload_n 3, 1) := by decide +kernel
theorem dX2_weighSets_14 : decode cX2_weighSets 14 = .ok (.bipush 99, 2) := by decide +kernel
theorem dX2_weighSets_16 : decode cX2_weighSets 16 = .ok (.iastore, 1) := by decide +kernel
theorem dX2_weighSets_17 : decode cX2_weighSets 17 = .ok (.iinc 3 1, 3) := by decide +kernel
theorem dX2_weighSets_20 : decode cX2_weighSets 20 = .ok (.goto (-18), 3) := by decide +kernel
theorem dX2_weighSets_23 : decode cX2_weighSets 23 = .ok (.aload_n 0, 1) := by decide +kernel
theorem dX2_weighSets_24 : decode cX2_weighSets 24 = .ok (.getfield 21, 3) := by decide +kernel
theorem dX2_weighSets_27 : decode cX2_weighSets 27 = .ok (.iconst 0, 1) := by decide +kernel
theorem dX2_weighSets_28 : decode cX2_weighSets 28 = .ok (.iconst 0, 1) := by decide +kernel
theorem dX2_weighSets_29 : decode cX2_weighSets 29 = .ok (.iastore, 1) := by decide +kernel
theorem dX2_weighSets_30 : decode cX2_weighSets 30 = .ok (.iconst 0, 1) := by decide +kernel
theorem dX2_weighSets_31 : decode cX2_weighSets 31 = .ok (.istore_n 3, 1) := by decide +kernel
theorem dX2_weighSets_32 : decode cX2_weighSets 32 = .ok (.iload_n 3, 1) := by decide +kernel
theorem dX2_weighSets_33 : decode cX2_weighSets 33 = .ok (.aload_n 1, 1) := by decide +kernel
theorem dX2_weighSets_34 : decode cX2_weighSets 34 = .ok (.getfield 104, 3) := by decide +kernel
theorem dX2_weighSets_37 : decode cX2_weighSets 37 = .ok (.if_icmp .ge 135, 3) := by decide +kernel
theorem dX2_weighSets_40 : decode cX2_weighSets 40 = .ok (.aload_n 1, 1) := by decide +kernel
theorem dX2_weighSets_41 : decode cX2_weighSets 41 = .ok (.getfield 123, 3) := by decide +kernel
theorem dX2_weighSets_44 : decode cX2_weighSets 44 = .ok (.iload_n 3, 1) := by decide +kernel
theorem dX2_weighSets_45 : decode cX2_weighSets 45 = .ok (.iaload, 1) := by decide +kernel
theorem dX2_weighSets_46 : decode cX2_weighSets 46 = .ok (.istore 4, 2) := by decide +kernel
theorem dX2_weighSets_48 : decode cX2_weighSets 48 = .ok (.iload 4, 2) := by decide +kernel
theorem dX2_weighSets_50 : decode cX2_weighSets 50 = .ok (.aload_n 2, 1) := by decide +kernel
theorem dX2_weighSets_51 : decode cX2_weighSets 51 = .ok (.getfield 126, 3) := by decide +kernel
theorem dX2_weighSets_54 : decode cX2_weighSets 54 = .ok (.iload_n 3, 1) := by decide +kernel
theorem dX2_weighSets_55 : decode cX2_weighSets 55 = .ok (.iaload, 1) := by decide +kernel
theorem dX2_weighSets_56 : decode cX2_weighSets 56 = .ok (.aload_n 2, 1) := by decide +kernel
theorem dX2_weighSets_57 : decode cX2_weighSets 57 = .ok (.getfield 129, 3) := by decide +kernel
theorem dX2_weighSets_60 : decode cX2_weighSets 60 = .ok (.invokestatic 132, 3) := by decide +kernel
theorem dX2_weighSets_63 : decode cX2_weighSets 63 = .ok (.istore 5, 2) := by decide +kernel
theorem dX2_weighSets_65 : decode cX2_weighSets 65 = .ok (.iconst 1, 1) := by decide +kernel
theorem dX2_weighSets_66 : decode cX2_weighSets 66 = .ok (.iload_n 3, 1) := by decide +kernel
theorem dX2_weighSets_67 : decode cX2_weighSets 67 = .ok (.ishl, 1) := by decide +kernel
theorem dX2_weighSets_68 : decode cX2_weighSets 68 = .ok (.istore 6, 2) := by decide +kernel
theorem dX2_weighSets_70 : decode cX2_weighSets 70 = .ok (.iconst 0, 1) := by decide +kernel
theorem dX2_weighSets_71 : decode cX2_weighSets 71 = .ok (.istore 7, 2) := by decide +kernel
theorem dX2_weighSets_73 : decode cX2_weighSets 73 = .ok (.iload 7, 2) := by decide +kernel
theorem dX2_weighSets_75 : decode cX2_weighSets 75 = .ok (.iload 6, 2) := by decide +kernel
theorem dX2_weighSets_77 : decode cX2_weighSets 77 = .ok (.if_icmp .ge 89, 3) := by decide +kernel
theorem dX2_weighSets_80 : decode cX2_weighSets 80 = .ok (.iload 7, 2) := by decide +kernel
theorem dX2_weighSets_82 : decode cX2_weighSets 82 = .ok (.iload 6, 2) := by decide +kernel
theorem dX2_weighSets_84 : decode cX2_weighSets 84 = .ok (.ior, 1) := by decide +kernel
theorem dX2_weighSets_85 : decode cX2_weighSets 85 = .ok (.sipush 256, 3) := by decide +kernel
theorem dX2_weighSets_88 : decode cX2_weighSets 88 = .ok (.if_icmp .ge 78, 3) := by decide +kernel
theorem dX2_weighSets_91 : decode cX2_weighSets 91 = .ok (.aload_n 0, 1) := by decide +kernel
theorem dX2_weighSets_92 : decode cX2_weighSets 92 = .ok (.getfield 11, 3) := by decide +kernel
theorem dX2_weighSets_95 : decode cX2_weighSets 95 = .ok (.iload 7, 2) := by decide +kernel
theorem dX2_weighSets_97 : decode cX2_weighSets 97 = .ok (.iload 6, 2) := by decide +kernel
theorem dX2_weighSets_99 : decode cX2_weighSets 99 = .ok (.ior, 1) := by decide +kernel
theorem dX2_weighSets_100 : decode cX2_weighSets 100 = .ok (.aload_n 0, 1) := by decide +kernel
theorem dX2_weighSets_101 : decode cX2_weighSets 101 = .ok (.getfield 11, 3) := by decide +kernel
theorem dX2_weighSets_104 : decode cX2_weighSets 104 = .ok (.iload 7, 2) := by decide +kernel
theorem dX2_weighSets_106 : decode cX2_weighSets 106 = .ok (.iaload, 1) := by decide +kernel
theorem dX2_weighSets_107 : decode cX2_weighSets 107 = .ok (.iload 4, 2) := by decide +kernel
theorem dX2_weighSets_109 : decode cX2_weighSets 109 = .ok (.iadd, 1) := by decide +kernel
theorem dX2_weighSets_110 : decode cX2_weighSets 110 = .ok (.iload 5, 2) := by decide +kernel
theorem dX2_weighSets_112 : decode cX2_weighSets 112 = .ok (.ldc 136, 2) := by decide +kernel
theorem dX2_weighSets_114 : decode cX2_weighSets 114 = .ok (.imul, 1) := by decide +kernel
theorem dX2_weighSets_115 : decode cX2_weighSets 115 = .ok (.iadd, 1) := by decide +kernel
theorem dX2_weighSets_116 : decode cX2_weighSets 116 = .ok (.iastore, 1) := by decide +kernel
theorem dX2_weighSets_117 : decode cX2_weighSets 117 = .ok (.aload_n 0, 1) := by decide +kernel
theorem dX2_weighSets_118 : decode cX2_weighSets 118 = .ok (.getfield 15, 3) := by decide +kernel
theorem dX2_weighSets_121 : decode cX2_weighSets 121 = .ok (.iload 7, 2) := by decide +kernel
theorem dX2_weighSets_123 : decode cX2_weighSets 123 = .ok (.iload 6, 2) := by decide +kernel
theorem dX2_weighSets_125 : decode cX2_weighSets 125 = .ok (.ior, 1) := by decide +kernel
theorem dX2_weighSets_126 : decode cX2_weighSets 126 = .ok (.aload_n 0, 1) := by decide +kernel
theorem dX2_weighSets_127 : decode cX2_weighSets 127 = .ok (.getfield 15, 3) := by decide +kernel
theorem dX2_weighSets_130 : decode cX2_weighSets 130 = .ok (.iload 7, 2) := by decide +kernel
theorem dX2_weighSets_132 : decode cX2_weighSets 132 = .ok (.iaload, 1) := by decide +kernel
theorem dX2_weighSets_133 : decode cX2_weighSets 133 = .ok (.aload_n 1, 1) := by decide +kernel
theorem dX2_weighSets_134 : decode cX2_weighSets 134 = .ok (.getfield 137, 3) := by decide +kernel
theorem dX2_weighSets_137 : decode cX2_weighSets 137 = .ok (.iload_n 3, 1) := by decide +kernel
theorem dX2_weighSets_138 : decode cX2_weighSets 138 = .ok (.iaload, 1) := by decide +kernel
theorem dX2_weighSets_139 : decode cX2_weighSets 139 = .ok (.iadd, 1) := by decide +kernel
theorem dX2_weighSets_140 : decode cX2_weighSets 140 = .ok (.iastore, 1) := by decide +kernel
theorem dX2_weighSets_141 : decode cX2_weighSets 141 = .ok (.aload_n 0, 1) := by decide +kernel
theorem dX2_weighSets_142 : decode cX2_weighSets 142 = .ok (.getfield 18, 3) := by decide +kernel
theorem dX2_weighSets_145 : decode cX2_weighSets 145 = .ok (.iload 7, 2) := by decide +kernel
theorem dX2_weighSets_147 : decode cX2_weighSets 147 = .ok (.iload 6, 2) := by decide +kernel
theorem dX2_weighSets_149 : decode cX2_weighSets 149 = .ok (.ior, 1) := by decide +kernel
theorem dX2_weighSets_150 : decode cX2_weighSets 150 = .ok (.aload_n 0, 1) := by decide +kernel
theorem dX2_weighSets_151 : decode cX2_weighSets 151 = .ok (.getfield 18, 3) := by decide +kernel
theorem dX2_weighSets_154 : decode cX2_weighSets 154 = .ok (.iload 7, 2) := by decide +kernel
theorem dX2_weighSets_156 : decode cX2_weighSets 156 = .ok (.iaload, 1) := by decide +kernel
theorem dX2_weighSets_157 : decode cX2_weighSets 157 = .ok (.iconst 1, 1) := by decide +kernel
theorem dX2_weighSets_158 : decode cX2_weighSets 158 = .ok (.iadd, 1) := by decide +kernel
theorem dX2_weighSets_159 : decode cX2_weighSets 159 = .ok (.iastore, 1) := by decide +kernel
theorem dX2_weighSets_160 : decode cX2_weighSets 160 = .ok (.iinc 7 1, 3) := by decide +kernel
theorem dX2_weighSets_163 : decode cX2_weighSets 163 = .ok (.goto (-90), 3) := by decide +kernel
theorem dX2_weighSets_166 : decode cX2_weighSets 166 = .ok (.iinc 3 1, 3) := by decide +kernel
theorem dX2_weighSets_169 : decode cX2_weighSets 169 = .ok (.goto (-137), 3) := by decide +kernel
theorem dX2_weighSets_172 : decode cX2_weighSets 172 = .ok (.return_, 1) := by decide +kernel
theorem dX2_pullOf_0 : decode cX2_pullOf 0 = .ok (.aload_n 0, 1) := by decide +kernel
theorem dX2_pullOf_1 : decode cX2_pullOf 1 = .ok (.getfield 33, 3) := by decide +kernel
theorem dX2_pullOf_4 : decode cX2_pullOf 4 = .ok (.iload_n 1, 1) := by decide +kernel
theorem dX2_pullOf_5 : decode cX2_pullOf 5 = .ok (.iaload, 1) := by decide +kernel
theorem dX2_pullOf_6 : decode cX2_pullOf 6 = .ok (.aload_n 0, 1) := by decide +kernel
theorem dX2_pullOf_7 : decode cX2_pullOf 7 = .ok (.getfield 30, 3) := by decide +kernel
theorem dX2_pullOf_10 : decode cX2_pullOf 10 = .ok (.iload_n 1, 1) := by decide +kernel
theorem dX2_pullOf_11 : decode cX2_pullOf 11 = .ok (.iaload, 1) := by decide +kernel
theorem dX2_pullOf_12 : decode cX2_pullOf 12 = .ok (.aload_n 0, 1) := by decide +kernel
theorem dX2_pullOf_13 : decode cX2_pullOf 13 = .ok (.getfield 11, 3) := by decide +kernel
theorem dX2_pullOf_16 : decode cX2_pullOf 16 = .ok (.iload_n 2, 1) := by decide +kernel
theorem dX2_pullOf_17 : decode cX2_pullOf 17 = .ok (.iaload, 1) := by decide +kernel
theorem dX2_pullOf_18 : decode cX2_pullOf 18 = .ok (.imul, 1) := by decide +kernel
theorem dX2_pullOf_19 : decode cX2_pullOf 19 = .ok (.iadd, 1) := by decide +kernel
theorem dX2_pullOf_20 : decode cX2_pullOf 20 = .ok (.ireturn, 1) := by decide +kernel
theorem dX2_searchWithLast_0 : decode cX2_searchWithLast 0 = .ok (.iload_n 1, 1) := by decide +kernel
theorem dX2_searchWithLast_1 : decode cX2_searchWithLast 1 = .ok (.ifCond .ne 7, 3) := by decide +kernel
theorem dX2_searchWithLast_4 : decode cX2_searchWithLast 4 = .ok (.iconst 1, 1) := by decide +kernel
theorem dX2_searchWithLast_5 : decode cX2_searchWithLast 5 = .ok (.goto 4, 3) := by decide +kernel
theorem dX2_searchWithLast_8 : decode cX2_searchWithLast 8 = .ok (.iconst 0, 1) := by decide +kernel
theorem dX2_searchWithLast_9 : decode cX2_searchWithLast 9 = .ok (.istore_n 3, 1) := by decide +kernel
theorem dX2_searchWithLast_10 : decode cX2_searchWithLast 10 = .ok (.aload_n 0, 1) := by decide +kernel
theorem dX2_searchWithLast_11 : decode cX2_searchWithLast 11 = .ok (.getfield 27, 3) := by decide +kernel
theorem dX2_searchWithLast_14 : decode cX2_searchWithLast 14 = .ok (.iload_n 3, 1) := by decide +kernel
theorem dX2_searchWithLast_15 : decode cX2_searchWithLast 15 = .ok (.iaload, 1) := by decide +kernel
theorem dX2_searchWithLast_16 : decode cX2_searchWithLast 16 = .ok (.istore 4, 2) := by decide +kernel
theorem dX2_searchWithLast_18 : decode cX2_searchWithLast 18 = .ok (.iload 4, 2) := by decide +kernel
theorem dX2_searchWithLast_20 : decode cX2_searchWithLast 20 = .ok (.istore 5, 2) := by decide +kernel
theorem dX2_searchWithLast_22 : decode cX2_searchWithLast 22 = .ok (.iload 5, 2) := by decide +kernel
theorem dX2_searchWithLast_24 : decode cX2_searchWithLast 24 = .ok (.ifCond .lt 88, 3) := by decide +kernel
theorem dX2_searchWithLast_27 : decode cX2_searchWithLast 27 = .ok (.aload_n 0, 1) := by decide +kernel
theorem dX2_searchWithLast_28 : decode cX2_searchWithLast 28 = .ok (.getfield 18, 3) := by decide +kernel
theorem dX2_searchWithLast_31 : decode cX2_searchWithLast 31 = .ok (.iload 5, 2) := by decide +kernel
theorem dX2_searchWithLast_33 : decode cX2_searchWithLast 33 = .ok (.iaload, 1) := by decide +kernel
theorem dX2_searchWithLast_34 : decode cX2_searchWithLast 34 = .ok (.aload_n 0, 1) := by decide +kernel
theorem dX2_searchWithLast_35 : decode cX2_searchWithLast 35 = .ok (.getfield 40, 3) := by decide +kernel
theorem dX2_searchWithLast_38 : decode cX2_searchWithLast 38 = .ok (.if_icmp .gt 53, 3) := by decide +kernel
theorem dX2_searchWithLast_41 : decode cX2_searchWithLast 41 = .ok (.iload 5, 2) := by decide +kernel
theorem dX2_searchWithLast_43 : decode cX2_searchWithLast 43 = .ok (.bipush 8, 2) := by decide +kernel
theorem dX2_searchWithLast_45 : decode cX2_searchWithLast 45 = .ok (.iload_n 3, 1) := by decide +kernel
theorem dX2_searchWithLast_46 : decode cX2_searchWithLast 46 = .ok (.imul, 1) := by decide +kernel
theorem dX2_searchWithLast_47 : decode cX2_searchWithLast 47 = .ok (.ishl, 1) := by decide +kernel
theorem dX2_searchWithLast_48 : decode cX2_searchWithLast 48 = .ok (.istore 6, 2) := by decide +kernel
theorem dX2_searchWithLast_50 : decode cX2_searchWithLast 50 = .ok (.aload_n 0, 1) := by decide +kernel
theorem dX2_searchWithLast_51 : decode cX2_searchWithLast 51 = .ok (.getfield 36, 3) := by decide +kernel
theorem dX2_searchWithLast_54 : decode cX2_searchWithLast 54 = .ok (.iconst 2, 1) := by decide +kernel
theorem dX2_searchWithLast_55 : decode cX2_searchWithLast 55 = .ok (.if_icmp .ne 21, 3) := by decide +kernel
theorem dX2_searchWithLast_58 : decode cX2_searchWithLast 58 = .ok (.aload_n 0, 1) := by decide +kernel
theorem dX2_searchWithLast_59 : decode cX2_searchWithLast 59 = .ok (.iload_n 1, 1) := by decide +kernel
theorem dX2_searchWithLast_60 : decode cX2_searchWithLast 60 = .ok (.iload 6, 2) := by decide +kernel
theorem dX2_searchWithLast_62 : decode cX2_searchWithLast 62 = .ok (.aload_n 0, 1) := by decide +kernel
theorem dX2_searchWithLast_63 : decode cX2_searchWithLast 63 = .ok (.iload_n 3, 1) := by decide +kernel
theorem dX2_searchWithLast_64 : decode cX2_searchWithLast 64 = .ok (.iload 5, 2) := by decide +kernel
theorem dX2_searchWithLast_66 : decode cX2_searchWithLast 66 = .ok (.invokevirtual 140, 3) := by decide +kernel
theorem dX2_searchWithLast_69 : decode cX2_searchWithLast 69 = .ok (.iload_n 2, 1) := by decide +kernel
theorem dX2_searchWithLast_70 : decode cX2_searchWithLast 70 = .ok (.invokevirtual 143, 3) := by decide +kernel
theorem dX2_searchWithLast_73 : decode cX2_searchWithLast 73 = .ok (.goto 18, 3) := by decide +kernel
theorem dX2_searchWithLast_76 : decode cX2_searchWithLast 76 = .ok (.aload_n 0, 1) := by decide +kernel
theorem dX2_searchWithLast_77 : decode cX2_searchWithLast 77 = .ok (.iload_n 1, 1) := by decide +kernel
theorem dX2_searchWithLast_78 : decode cX2_searchWithLast 78 = .ok (.iload 6, 2) := by decide +kernel
theorem dX2_searchWithLast_80 : decode cX2_searchWithLast 80 = .ok (.aload_n 0, 1) := by decide +kernel
theorem dX2_searchWithLast_81 : decode cX2_searchWithLast 81 = .ok (.iload_n 3, 1) := by decide +kernel
theorem dX2_searchWithLast_82 : decode cX2_searchWithLast 82 = .ok (.iload 5, 2) := by decide +kernel
theorem dX2_searchWithLast_84 : decode cX2_searchWithLast 84 = .ok (.invokevirtual 140, 3) := by decide +kernel
theorem dX2_searchWithLast_87 : decode cX2_searchWithLast 87 = .ok (.iload_n 2, 1) := by decide +kernel
theorem dX2_searchWithLast_88 : decode cX2_searchWithLast 88 = .ok (.invokevirtual 147, 3) := by decide +kernel
theorem dX2_searchWithLast_91 : decode cX2_searchWithLast 91 = .ok (.iload 5, 2) := by decide +kernel
theorem dX2_searchWithLast_93 : decode cX2_searchWithLast 93 = .ok (.ifCond .ne 7, 3) := by decide +kernel
theorem dX2_searchWithLast_96 : decode cX2_searchWithLast 96 = .ok (.iconst (-1), 1) := by decide +kernel
theorem dX2_searchWithLast_97 : decode cX2_searchWithLast 97 = .ok (.goto 10, 3) := by decide +kernel
theorem dX2_searchWithLast_100 : decode cX2_searchWithLast 100 = .ok (.iload 5, 2) := by decide +kernel
theorem dX2_searchWithLast_102 : decode cX2_searchWithLast 102 = .ok (.iconst 1, 1) := by decide +kernel
theorem dX2_searchWithLast_103 : decode cX2_searchWithLast 103 = .ok (.isub, 1) := by decide +kernel
theorem dX2_searchWithLast_104 : decode cX2_searchWithLast 104 = .ok (.iload 4, 2) := by decide +kernel
theorem dX2_searchWithLast_106 : decode cX2_searchWithLast 106 = .ok (.iand, 1) := by decide +kernel
theorem dX2_searchWithLast_107 : decode cX2_searchWithLast 107 = .ok (.istore 5, 2) := by decide +kernel
theorem dX2_searchWithLast_109 : decode cX2_searchWithLast 109 = .ok (.goto (-87), 3) := by decide +kernel
theorem dX2_searchWithLast_112 : decode cX2_searchWithLast 112 = .ok (.return_, 1) := by decide +kernel
theorem dX2_trySecond_0 : decode cX2_trySecond 0 = .ok (.iload_n 1, 1) := by decide +kernel
theorem dX2_trySecond_1 : decode cX2_trySecond 1 = .ok (.iconst 2, 1) := by decide +kernel
theorem dX2_trySecond_2 : decode cX2_trySecond 2 = .ok (.if_icmp .ne 7, 3) := by decide +kernel
theorem dX2_trySecond_5 : decode cX2_trySecond 5 = .ok (.iconst 1, 1) := by decide +kernel
theorem dX2_trySecond_6 : decode cX2_trySecond 6 = .ok (.goto 4, 3) := by decide +kernel
theorem dX2_trySecond_9 : decode cX2_trySecond 9 = .ok (.iconst 2, 1) := by decide +kernel
theorem dX2_trySecond_10 : decode cX2_trySecond 10 = .ok (.istore 5, 2) := by decide +kernel
theorem dX2_trySecond_12 : decode cX2_trySecond 12 = .ok (.aload_n 0, 1) := by decide +kernel
theorem dX2_trySecond_13 : decode cX2_trySecond 13 = .ok (.getfield 27, 3) := by decide +kernel
theorem dX2_trySecond_16 : decode cX2_trySecond 16 = .ok (.iload 5, 2) := by decide +kernel
theorem dX2_trySecond_18 : decode cX2_trySecond 18 = .ok (.iaload, 1) := by decide +kernel
theorem dX2_trySecond_19 : decode cX2_trySecond 19 = .ok (.iload_n 2, 1) := by decide +kernel
theorem dX2_trySecond_20 : decode cX2_trySecond 20 = .ok (.invokestatic 150, 3) := by decide +kernel
theorem dX2_trySecond_23 : decode cX2_trySecond 23 = .ok (.iconst (-1), 1) := by decide +kernel
theorem dX2_trySecond_24 : decode cX2_trySecond 24 = .ok (.ixor, 1) := by decide +kernel
theorem dX2_trySecond_25 : decode cX2_trySecond 25 = .ok (.iand, 1) := by decide +kernel
theorem dX2_trySecond_26 : decode cX2_trySecond 26 = .ok (.istore 6, 2) := by decide +kernel
theorem dX2_trySecond_28 : decode cX2_trySecond 28 = .ok (.iload 6, 2) := by decide +kernel
theorem dX2_trySecond_30 : decode cX2_trySecond 30 = .ok (.istore 7, 2) := by decide +kernel
theorem dX2_trySecond_32 : decode cX2_trySecond 32 = .ok (.iload 7, 2) := by decide +kernel
theorem dX2_trySecond_34 : decode cX2_trySecond 34 = .ok (.ifCond .lt 68, 3) := by decide +kernel
theorem dX2_trySecond_37 : decode cX2_trySecond 37 = .ok (.aload_n 0, 1) := by decide +kernel
theorem dX2_trySecond_38 : decode cX2_trySecond 38 = .ok (.getfield 18, 3) := by decide +kernel
theorem dX2_trySecond_41 : decode cX2_trySecond 41 = .ok (.iload 7, 2) := by decide +kernel
theorem dX2_trySecond_43 : decode cX2_trySecond 43 = .ok (.iaload, 1) := by decide +kernel
theorem dX2_trySecond_44 : decode cX2_trySecond 44 = .ok (.aload_n 0, 1) := by decide +kernel
theorem dX2_trySecond_45 : decode cX2_trySecond 45 = .ok (.getfield 40, 3) := by decide +kernel
theorem dX2_trySecond_48 : decode cX2_trySecond 48 = .ok (.if_icmp .gt 33, 3) := by decide +kernel
theorem dX2_trySecond_51 : decode cX2_trySecond 51 = .ok (.aload_n 0, 1) := by decide +kernel
theorem dX2_trySecond_52 : decode cX2_trySecond 52 = .ok (.iload 5, 2) := by decide +kernel
theorem dX2_trySecond_54 : decode cX2_trySecond 54 = .ok (.iload 7, 2) := by decide +kernel
theorem dX2_trySecond_56 : decode cX2_trySecond 56 = .ok (.invokevirtual 140, 3) := by decide +kernel
theorem dX2_trySecond_59 : decode cX2_trySecond 59 = .ok (.iload_n 3, 1) := by decide +kernel
theorem dX2_trySecond_60 : decode cX2_trySecond 60 = .ok (.if_icmp .ne 21, 3) := by decide +kernel
theorem dX2_trySecond_63 : decode cX2_trySecond 63 = .ok (.aload_n 0, 1) := by decide +kernel
theorem dX2_trySecond_64 : decode cX2_trySecond 64 = .ok (.iload_n 1, 1) := by decide +kernel
theorem dX2_trySecond_65 : decode cX2_trySecond 65 = .ok (.iload_n 2, 1) := by decide +kernel
theorem dX2_trySecond_66 : decode cX2_trySecond 66 = .ok (.iload 7, 2) := by decide +kernel
theorem dX2_trySecond_68 : decode cX2_trySecond 68 = .ok (.bipush 8, 2) := by decide +kernel
theorem dX2_trySecond_70 : decode cX2_trySecond 70 = .ok (.iload 5, 2) := by decide +kernel
theorem dX2_trySecond_72 : decode cX2_trySecond 72 = .ok (.imul, 1) := by decide +kernel
theorem dX2_trySecond_73 : decode cX2_trySecond 73 = .ok (.ishl, 1) := by decide +kernel
theorem dX2_trySecond_74 : decode cX2_trySecond 74 = .ok (.ior, 1) := by decide +kernel
theorem dX2_trySecond_75 : decode cX2_trySecond 75 = .ok (.iload_n 3, 1) := by decide +kernel
theorem dX2_trySecond_76 : decode cX2_trySecond 76 = .ok (.iload 4, 2) := by decide +kernel
theorem dX2_trySecond_78 : decode cX2_trySecond 78 = .ok (.invokevirtual 143, 3) := by decide +kernel
theorem dX2_trySecond_81 : decode cX2_trySecond 81 = .ok (.iload 7, 2) := by decide +kernel
theorem dX2_trySecond_83 : decode cX2_trySecond 83 = .ok (.ifCond .ne 7, 3) := by decide +kernel
theorem dX2_trySecond_86 : decode cX2_trySecond 86 = .ok (.iconst (-1), 1) := by decide +kernel
theorem dX2_trySecond_87 : decode cX2_trySecond 87 = .ok (.goto 10, 3) := by decide +kernel
theorem dX2_trySecond_90 : decode cX2_trySecond 90 = .ok (.iload 7, 2) := by decide +kernel
theorem dX2_trySecond_92 : decode cX2_trySecond 92 = .ok (.iconst 1, 1) := by decide +kernel
theorem dX2_trySecond_93 : decode cX2_trySecond 93 = .ok (.isub, 1) := by decide +kernel
theorem dX2_trySecond_94 : decode cX2_trySecond 94 = .ok (.iload 6, 2) := by decide +kernel
theorem dX2_trySecond_96 : decode cX2_trySecond 96 = .ok (.iand, 1) := by decide +kernel
theorem dX2_trySecond_97 : decode cX2_trySecond 97 = .ok (.istore 7, 2) := by decide +kernel
theorem dX2_trySecond_99 : decode cX2_trySecond 99 = .ok (.goto (-67), 3) := by decide +kernel
theorem dX2_trySecond_102 : decode cX2_trySecond 102 = .ok (.return_, 1) := by decide +kernel
theorem dX2_tryLast_0 : decode cX2_tryLast 0 = .ok (.iload_n 2, 1) := by decide +kernel
theorem dX2_tryLast_1 : decode cX2_tryLast 1 = .ok (.invokestatic 150, 3) := by decide +kernel
theorem dX2_tryLast_4 : decode cX2_tryLast 4 = .ok (.istore 5, 2) := by decide +kernel
theorem dX2_tryLast_6 : decode cX2_tryLast 6 = .ok (.aload_n 0, 1) := by decide +kernel
theorem dX2_tryLast_7 : decode cX2_tryLast 7 = .ok (.getfield 27, 3) := by decide +kernel
theorem dX2_tryLast_10 : decode cX2_tryLast 10 = .ok (.iload_n 1, 1) := by decide +kernel
theorem dX2_tryLast_11 : decode cX2_tryLast 11 = .ok (.iaload, 1) := by decide +kernel
theorem dX2_tryLast_12 : decode cX2_tryLast 12 = .ok (.iload 5, 2) := by decide +kernel
theorem dX2_tryLast_14 : decode cX2_tryLast 14 = .ok (.iconst (-1), 1) := by decide +kernel
theorem dX2_tryLast_15 : decode cX2_tryLast 15 = .ok (.ixor, 1) := by decide +kernel
theorem dX2_tryLast_16 : decode cX2_tryLast 16 = .ok (.iand, 1) := by decide +kernel
theorem dX2_tryLast_17 : decode cX2_tryLast 17 = .ok (.istore 6, 2) := by decide +kernel
theorem dX2_tryLast_19 : decode cX2_tryLast 19 = .ok (.iload 6, 2) := by decide +kernel
theorem dX2_tryLast_21 : decode cX2_tryLast 21 = .ok (.istore 7, 2) := by decide +kernel
theorem dX2_tryLast_23 : decode cX2_tryLast 23 = .ok (.iload 7, 2) := by decide +kernel
theorem dX2_tryLast_25 : decode cX2_tryLast 25 = .ok (.ifCond .lt 116, 3) := by decide +kernel
theorem dX2_tryLast_28 : decode cX2_tryLast 28 = .ok (.iload_n 3, 1) := by decide +kernel
theorem dX2_tryLast_29 : decode cX2_tryLast 29 = .ok (.aload_n 0, 1) := by decide +kernel
theorem dX2_tryLast_30 : decode cX2_tryLast 30 = .ok (.iload_n 1, 1) := by decide +kernel
theorem dX2_tryLast_31 : decode cX2_tryLast 31 = .ok (.iload 7, 2) := by decide +kernel
theorem dX2_tryLast_33 : decode cX2_tryLast 33 = .ok (.invokevirtual 140, 3) := by decide +kernel
theorem dX2_tryLast_36 : decode cX2_tryLast 36 = .ok (.isub, 1) := by decide +kernel
theorem dX2_tryLast_37 : decode cX2_tryLast 37 = .ok (.istore 8, 2) := by decide +kernel
theorem dX2_tryLast_39 : decode cX2_tryLast 39 = .ok (.iload 4, 2) := by decide +kernel
theorem dX2_tryLast_41 : decode cX2_tryLast 41 = .ok (.ifCond .eq 42, 3) := by decide +kernel
theorem dX2_tryLast_44 : decode cX2_tryLast 44 = .ok (.iload 8, 2) := by decide +kernel
theorem dX2_tryLast_46 : decode cX2_tryLast 46 = .ok (.ifCond .le 74, 3) := by decide +kernel
theorem dX2_tryLast_49 : decode cX2_tryLast 49 = .ok (.aload_n 0, 1) := by decide +kernel
theorem dX2_tryLast_50 : decode cX2_tryLast 50 = .ok (.getfield 18, 3) := by decide +kernel
theorem dX2_tryLast_53 : decode cX2_tryLast 53 = .ok (.iload 7, 2) := by decide +kernel
theorem dX2_tryLast_55 : decode cX2_tryLast 55 = .ok (.iaload, 1) := by decide +kernel
theorem dX2_tryLast_56 : decode cX2_tryLast 56 = .ok (.aload_n 0, 1) := by decide +kernel
theorem dX2_tryLast_57 : decode cX2_tryLast 57 = .ok (.getfield 40, 3) := by decide +kernel
theorem dX2_tryLast_60 : decode cX2_tryLast 60 = .ok (.if_icmp .ge 60, 3) := by decide +kernel
theorem dX2_tryLast_63 : decode cX2_tryLast 63 = .ok (.aload_n 0, 1) := by decide +kernel
theorem dX2_tryLast_64 : decode cX2_tryLast 64 = .ok (.iload 5, 2) := by decide +kernel
theorem dX2_tryLast_66 : decode cX2_tryLast 66 = .ok (.iload 7, 2) := by decide +kernel
theorem dX2_tryLast_68 : decode cX2_tryLast 68 = .ok (.ior, 1) := by decide +kernel
theorem dX2_tryLast_69 : decode cX2_tryLast 69 = .ok (.iload 8, 2) := by decide +kernel
theorem dX2_tryLast_71 : decode cX2_tryLast 71 = .ok (.aload_n 0, 1) := by decide +kernel
theorem dX2_tryLast_72 : decode cX2_tryLast 72 = .ok (.getfield 30, 3) := by decide +kernel
theorem dX2_tryLast_75 : decode cX2_tryLast 75 = .ok (.iload_n 1, 1) := by decide +kernel
theorem dX2_tryLast_76 : decode cX2_tryLast 76 = .ok (.iaload, 1) := by decide +kernel
theorem dX2_tryLast_77 : decode cX2_tryLast 77 = .ok (.invokevirtual 153, 3) := by decide +kernel
theorem dX2_tryLast_80 : decode cX2_tryLast 80 = .ok (.goto 40, 3) := by decide +kernel
theorem dX2_tryLast_83 : decode cX2_tryLast 83 = .ok (.iload 8, 2) := by decide +kernel
theorem dX2_tryLast_85 : decode cX2_tryLast 85 = .ok (.ifCond .ne 35, 3) := by decide +kernel
theorem dX2_tryLast_88 : decode cX2_tryLast 88 = .ok (.aload_n 0, 1) := by decide +kernel
theorem dX2_tryLast_89 : decode cX2_tryLast 89 = .ok (.getfield 18, 3) := by decide +kernel
theorem dX2_tryLast_92 : decode cX2_tryLast 92 = .ok (.iload 7, 2) := by decide +kernel
theorem dX2_tryLast_94 : decode cX2_tryLast 94 = .ok (.iaload, 1) := by decide +kernel
theorem dX2_tryLast_95 : decode cX2_tryLast 95 = .ok (.aload_n 0, 1) := by decide +kernel
theorem dX2_tryLast_96 : decode cX2_tryLast 96 = .ok (.getfield 40, 3) := by decide +kernel
theorem dX2_tryLast_99 : decode cX2_tryLast 99 = .ok (.if_icmp .gt 21, 3) := by decide +kernel
theorem dX2_tryLast_102 : decode cX2_tryLast 102 = .ok (.aload_n 0, 1) := by decide +kernel
theorem dX2_tryLast_103 : decode cX2_tryLast 103 = .ok (.iload 5, 2) := by decide +kernel
theorem dX2_tryLast_105 : decode cX2_tryLast 105 = .ok (.iload 7, 2) := by decide +kernel
theorem dX2_tryLast_107 : decode cX2_tryLast 107 = .ok (.ior, 1) := by decide +kernel
theorem dX2_tryLast_108 : decode cX2_tryLast 108 = .ok (.iload_n 2, 1) := by decide +kernel
theorem dX2_tryLast_109 : decode cX2_tryLast 109 = .ok (.iload 7, 2) := by decide +kernel
theorem dX2_tryLast_111 : decode cX2_tryLast 111 = .ok (.bipush 8, 2) := by decide +kernel
theorem dX2_tryLast_113 : decode cX2_tryLast 113 = .ok (.iload_n 1, 1) := by decide +kernel
theorem dX2_tryLast_114 : decode cX2_tryLast 114 = .ok (.imul, 1) := by decide +kernel
theorem dX2_tryLast_115 : decode cX2_tryLast 115 = .ok (.ishl, 1) := by decide +kernel
theorem dX2_tryLast_116 : decode cX2_tryLast 116 = .ok (.ior, 1) := by decide +kernel
theorem dX2_tryLast_117 : decode cX2_tryLast 117 = .ok (.invokevirtual 157, 3) := by decide +kernel
theorem dX2_tryLast_120 : decode cX2_tryLast 120 = .ok (.iload 7, 2) := by decide +kernel
theorem dX2_tryLast_122 : decode cX2_tryLast 122 = .ok (.ifCond .ne 7, 3) := by decide +kernel
theorem dX2_tryLast_125 : decode cX2_tryLast 125 = .ok (.iconst (-1), 1) := by decide +kernel
theorem dX2_tryLast_126 : decode cX2_tryLast 126 = .ok (.goto 10, 3) := by decide +kernel
theorem dX2_tryLast_129 : decode cX2_tryLast 129 = .ok (.iload 7, 2) := by decide +kernel
theorem dX2_tryLast_131 : decode cX2_tryLast 131 = .ok (.iconst 1, 1) := by decide +kernel
theorem dX2_tryLast_132 : decode cX2_tryLast 132 = .ok (.isub, 1) := by decide +kernel
theorem dX2_tryLast_133 : decode cX2_tryLast 133 = .ok (.iload 6, 2) := by decide +kernel
theorem dX2_tryLast_135 : decode cX2_tryLast 135 = .ok (.iand, 1) := by decide +kernel
theorem dX2_tryLast_136 : decode cX2_tryLast 136 = .ok (.istore 7, 2) := by decide +kernel
theorem dX2_tryLast_138 : decode cX2_tryLast 138 = .ok (.goto (-115), 3) := by decide +kernel
theorem dX2_tryLast_141 : decode cX2_tryLast 141 = .ok (.return_, 1) := by decide +kernel
theorem dX2_noteMakeWeight_0 : decode cX2_noteMakeWeight 0 = .ok (.iload_n 2, 1) := by decide +kernel
theorem dX2_noteMakeWeight_1 : decode cX2_noteMakeWeight 1 = .ok (.ldc 161, 2) := by decide +kernel
theorem dX2_noteMakeWeight_3 : decode cX2_noteMakeWeight 3 = .ok (.iand, 1) := by decide +kernel
theorem dX2_noteMakeWeight_4 : decode cX2_noteMakeWeight 4 = .ok (.istore 4, 2) := by decide +kernel
theorem dX2_noteMakeWeight_6 : decode cX2_noteMakeWeight 6 = .ok (.aload_n 0, 1) := by decide +kernel
theorem dX2_noteMakeWeight_7 : decode cX2_noteMakeWeight 7 = .ok (.getfield 15, 3) := by decide +kernel
theorem dX2_noteMakeWeight_10 : decode cX2_noteMakeWeight 10 = .ok (.iload_n 1, 1) := by decide +kernel
theorem dX2_noteMakeWeight_11 : decode cX2_noteMakeWeight 11 = .ok (.iaload, 1) := by decide +kernel
theorem dX2_noteMakeWeight_12 : decode cX2_noteMakeWeight 12 = .ok (.aload_n 0, 1) := by decide +kernel
theorem dX2_noteMakeWeight_13 : decode cX2_noteMakeWeight 13 = .ok (.getfield 24, 3) := by decide +kernel
theorem dX2_noteMakeWeight_16 : decode cX2_noteMakeWeight 16 = .ok (.iconst 0, 1) := by decide +kernel
theorem dX2_noteMakeWeight_17 : decode cX2_noteMakeWeight 17 = .ok (.iaload, 1) := by decide +kernel
theorem dX2_noteMakeWeight_18 : decode cX2_noteMakeWeight 18 = .ok (.if_icmp .le 24, 3) := by decide +kernel
theorem dX2_noteMakeWeight_21 : decode cX2_noteMakeWeight 21 = .ok (.iload_n 3, 1) := by decide +kernel
theorem dX2_noteMakeWeight_22 : decode cX2_noteMakeWeight 22 = .ok (.iconst 1, 1) := by decide +kernel
theorem dX2_noteMakeWeight_23 : decode cX2_noteMakeWeight 23 = .ok (.if_icmp .lt 19, 3) := by decide +kernel
theorem dX2_noteMakeWeight_26 : decode cX2_noteMakeWeight 26 = .ok (.iload 4, 2) := by decide +kernel
theorem dX2_noteMakeWeight_28 : decode cX2_noteMakeWeight 28 = .ok (.ldc 118, 2) := by decide +kernel
theorem dX2_noteMakeWeight_30 : decode cX2_noteMakeWeight 30 = .ok (.imul, 1) := by decide +kernel
theorem dX2_noteMakeWeight_31 : decode cX2_noteMakeWeight 31 = .ok (.iload_n 2, 1) := by decide +kernel
theorem dX2_noteMakeWeight_32 : decode cX2_noteMakeWeight 32 = .ok (.if_icmp .ne 10, 3) := by decide +kernel
theorem dX2_noteMakeWeight_35 : decode cX2_noteMakeWeight 35 = .ok (.iload 4, 2) := by decide +kernel
theorem dX2_noteMakeWeight_37 : decode cX2_noteMakeWeight 37 = .ok (.iload_n 3, 1) := by decide +kernel
theorem dX2_noteMakeWeight_38 : decode cX2_noteMakeWeight 38 = .ok (.irem, 1) := by decide +kernel
theorem dX2_noteMakeWeight_39 : decode cX2_noteMakeWeight 39 = .ok (.ifCond .eq 4, 3) := by decide +kernel
theorem dX2_noteMakeWeight_42 : decode cX2_noteMakeWeight 42 = .ok (.return_, 1) := by decide +kernel
theorem dX2_noteMakeWeight_43 : decode cX2_noteMakeWeight 43 = .ok (.iload 4, 2) := by decide +kernel
theorem dX2_noteMakeWeight_45 : decode cX2_noteMakeWeight 45 = .ok (.iload_n 3, 1) := by decide +kernel
theorem dX2_noteMakeWeight_46 : decode cX2_noteMakeWeight 46 = .ok (.idiv, 1) := by decide +kernel
theorem dX2_noteMakeWeight_47 : decode cX2_noteMakeWeight 47 = .ok (.istore 5, 2) := by decide +kernel
theorem dX2_noteMakeWeight_49 : decode cX2_noteMakeWeight 49 = .ok (.iload 5, 2) := by decide +kernel
theorem dX2_noteMakeWeight_51 : decode cX2_noteMakeWeight 51 = .ok (.iconst 1, 1) := by decide +kernel
theorem dX2_noteMakeWeight_52 : decode cX2_noteMakeWeight 52 = .ok (.if_icmp .lt 33, 3) := by decide +kernel
theorem dX2_noteMakeWeight_55 : decode cX2_noteMakeWeight 55 = .ok (.iload 5, 2) := by decide +kernel
theorem dX2_noteMakeWeight_57 : decode cX2_noteMakeWeight 57 = .ok (.bipush 99, 2) := by decide +kernel
theorem dX2_noteMakeWeight_59 : decode cX2_noteMakeWeight 59 = .ok (.if_icmp .gt 26, 3) := by decide +kernel
theorem dX2_noteMakeWeight_62 : decode cX2_noteMakeWeight 62 = .ok (.aload_n 0, 1) := by decide +kernel
theorem dX2_noteMakeWeight_63 : decode cX2_noteMakeWeight 63 = .ok (.getfield 24, 3) := by decide +kernel
theorem dX2_noteMakeWeight_66 : decode cX2_noteMakeWeight 66 = .ok (.iload 5, 2) := by decide +kernel
theorem dX2_noteMakeWeight_68 : decode cX2_noteMakeWeight 68 = .ok (.aload_n 0, 1) := by decide +kernel
theorem dX2_noteMakeWeight_69 : decode cX2_noteMakeWeight 69 = .ok (.getfield 24, 3) := by decide +kernel
theorem dX2_noteMakeWeight_72 : decode cX2_noteMakeWeight 72 = .ok (.iload 5, 2) := by decide +kernel
theorem dX2_noteMakeWeight_74 : decode cX2_noteMakeWeight 74 = .ok (.iaload, 1) := by decide +kernel
theorem dX2_noteMakeWeight_75 : decode cX2_noteMakeWeight 75 = .ok (.aload_n 0, 1) := by decide +kernel
theorem dX2_noteMakeWeight_76 : decode cX2_noteMakeWeight 76 = .ok (.getfield 15, 3) := by decide +kernel
theorem dX2_noteMakeWeight_79 : decode cX2_noteMakeWeight 79 = .ok (.iload_n 1, 1) := by decide +kernel
theorem dX2_noteMakeWeight_80 : decode cX2_noteMakeWeight 80 = .ok (.iaload, 1) := by decide +kernel
theorem dX2_noteMakeWeight_81 : decode cX2_noteMakeWeight 81 = .ok (.invokestatic 69, 3) := by decide +kernel
theorem dX2_noteMakeWeight_84 : decode cX2_noteMakeWeight 84 = .ok (.iastore, 1) := by decide +kernel
theorem dX2_noteMakeWeight_85 : decode cX2_noteMakeWeight 85 = .ok (.return_, 1) := by decide +kernel
theorem dX2_noteChoice_0 : decode cX2_noteChoice 0 = .ok (.iload_n 1, 1) := by decide +kernel
theorem dX2_noteChoice_1 : decode cX2_noteChoice 1 = .ok (.ifCond .ne 4, 3) := by decide +kernel
theorem dX2_noteChoice_4 : decode cX2_noteChoice 4 = .ok (.return_, 1) := by decide +kernel
theorem dX2_noteChoice_5 : decode cX2_noteChoice 5 = .ok (.aload_n 0, 1) := by decide +kernel
theorem dX2_noteChoice_6 : decode cX2_noteChoice 6 = .ok (.getfield 21, 3) := by decide +kernel
theorem dX2_noteChoice_9 : decode cX2_noteChoice 9 = .ok (.iload_n 1, 1) := by decide +kernel
theorem dX2_noteChoice_10 : decode cX2_noteChoice 10 = .ok (.iconst 1, 1) := by decide +kernel
theorem dX2_noteChoice_11 : decode cX2_noteChoice 11 = .ok (.iastore, 1) := by decide +kernel
theorem dX2_noteChoice_12 : decode cX2_noteChoice 12 = .ok (.aload_n 0, 1) := by decide +kernel
theorem dX2_noteChoice_13 : decode cX2_noteChoice 13 = .ok (.getfield 15, 3) := by decide +kernel
theorem dX2_noteChoice_16 : decode cX2_noteChoice 16 = .ok (.iload_n 1, 1) := by decide +kernel
theorem dX2_noteChoice_17 : decode cX2_noteChoice 17 = .ok (.iaload, 1) := by decide +kernel
theorem dX2_noteChoice_18 : decode cX2_noteChoice 18 = .ok (.bipush 16, 2) := by decide +kernel
theorem dX2_noteChoice_20 : decode cX2_noteChoice 20 = .ok (.imul, 1) := by decide +kernel
theorem dX2_noteChoice_21 : decode cX2_noteChoice 21 = .ok (.aload_n 0, 1) := by decide +kernel
theorem dX2_noteChoice_22 : decode cX2_noteChoice 22 = .ok (.getfield 18, 3) := by decide +kernel
theorem dX2_noteChoice_25 : decode cX2_noteChoice 25 = .ok (.iload_n 1, 1) := by decide +kernel
theorem dX2_noteChoice_26 : decode cX2_noteChoice 26 = .ok (.iaload, 1) := by decide +kernel
theorem dX2_noteChoice_27 : decode cX2_noteChoice 27 = .ok (.iadd, 1) := by decide +kernel
theorem dX2_noteChoice_28 : decode cX2_noteChoice 28 = .ok (.istore_n 3, 1) := by decide +kernel
theorem dX2_noteChoice_29 : decode cX2_noteChoice 29 = .ok (.iload_n 3, 1) := by decide +kernel
theorem dX2_noteChoice_30 : decode cX2_noteChoice 30 = .ok (.aload_n 0, 1) := by decide +kernel
theorem dX2_noteChoice_31 : decode cX2_noteChoice 31 = .ok (.getfield 49, 3) := by decide +kernel
theorem dX2_noteChoice_34 : decode cX2_noteChoice 34 = .ok (.if_icmp .gt 22, 3) := by decide +kernel
theorem dX2_noteChoice_37 : decode cX2_noteChoice 37 = .ok (.iload_n 3, 1) := by decide +kernel
theorem dX2_noteChoice_38 : decode cX2_noteChoice 38 = .ok (.aload_n 0, 1) := by decide +kernel
theorem dX2_noteChoice_39 : decode cX2_noteChoice 39 = .ok (.getfield 49, 3) := by decide +kernel
theorem dX2_noteChoice_42 : decode cX2_noteChoice 42 = .ok (.if_icmp .ne 24, 3) := by decide +kernel
theorem dX2_noteChoice_45 : decode cX2_noteChoice 45 = .ok (.iload_n 2, 1) := by decide +kernel
theorem dX2_noteChoice_46 : decode cX2_noteChoice 46 = .ok (.aload_n 0, 1) := by decide +kernel
theorem dX2_noteChoice_47 : decode cX2_noteChoice 47 = .ok (.getfield 52, 3) := by decide +kernel
theorem dX2_noteChoice_50 : decode cX2_noteChoice 50 = .ok (.invokestatic 162, 3) := by decide +kernel
theorem dX2_noteChoice_53 : decode cX2_noteChoice 53 = .ok (.ifCond .eq 13, 3) := by decide +kernel
theorem dX2_noteChoice_56 : decode cX2_noteChoice 56 = .ok (.aload_n 0, 1) := by decide +kernel
theorem dX2_noteChoice_57 : decode cX2_noteChoice 57 = .ok (.iload_n 3, 1) := by decide +kernel
theorem dX2_noteChoice_58 : decode cX2_noteChoice 58 = .ok (.putfield 49, 3) := by decide +kernel
theorem dX2_noteChoice_61 : decode cX2_noteChoice 61 = .ok (.aload_n 0, 1) := by decide +kernel
theorem dX2_noteChoice_62 : decode cX2_noteChoice 62 = .ok (.iload_n 2, 1) := by decide +kernel
theorem dX2_noteChoice_63 : decode cX2_noteChoice 63 = .ok (.putfield 52, 3) := by decide +kernel
theorem dX2_noteChoice_66 : decode cX2_noteChoice 66 = .ok (.return_, 1) := by decide +kernel
theorem dX2_isAhead_0 : decode cX2_isAhead 0 = .ok (.iload_n 0, 1) := by decide +kernel
theorem dX2_isAhead_1 : decode cX2_isAhead 1 = .ok (.iload_n 1, 1) := by decide +kernel
theorem dX2_isAhead_2 : decode cX2_isAhead 2 = .ok (.ixor, 1) := by decide +kernel
theorem dX2_isAhead_3 : decode cX2_isAhead 3 = .ok (.istore_n 2, 1) := by decide +kernel
theorem dX2_isAhead_4 : decode cX2_isAhead 4 = .ok (.iload_n 2, 1) := by decide +kernel
theorem dX2_isAhead_5 : decode cX2_isAhead 5 = .ok (.iload_n 2, 1) := by decide +kernel
theorem dX2_isAhead_6 : decode cX2_isAhead 6 = .ok (.bipush 8, 2) := by decide +kernel
theorem dX2_isAhead_8 : decode cX2_isAhead 8 = .ok (.iushr, 1) := by decide +kernel
theorem dX2_isAhead_9 : decode cX2_isAhead 9 = .ok (.ior, 1) := by decide +kernel
theorem dX2_isAhead_10 : decode cX2_isAhead 10 = .ok (.iload_n 2, 1) := by decide +kernel
theorem dX2_isAhead_11 : decode cX2_isAhead 11 = .ok (.bipush 16, 2) := by decide +kernel
theorem dX2_isAhead_13 : decode cX2_isAhead 13 = .ok (.iushr, 1) := by decide +kernel
theorem dX2_isAhead_14 : decode cX2_isAhead 14 = .ok (.ior, 1) := by decide +kernel
theorem dX2_isAhead_15 : decode cX2_isAhead 15 = .ok (.istore_n 3, 1) := by decide +kernel
theorem dX2_isAhead_16 : decode cX2_isAhead 16 = .ok (.iload_n 3, 1) := by decide +kernel
theorem dX2_isAhead_17 : decode cX2_isAhead 17 = .ok (.iload_n 3, 1) := by decide +kernel
theorem dX2_isAhead_18 : decode cX2_isAhead 18 = .ok (.ineg, 1) := by decide +kernel
theorem dX2_isAhead_19 : decode cX2_isAhead 19 = .ok (.iand, 1) := by decide +kernel
theorem dX2_isAhead_20 : decode cX2_isAhead 20 = .ok (.ldc 165, 2) := by decide +kernel
theorem dX2_isAhead_22 : decode cX2_isAhead 22 = .ok (.imul, 1) := by decide +kernel
theorem dX2_isAhead_23 : decode cX2_isAhead 23 = .ok (.istore 4, 2) := by decide +kernel
theorem dX2_isAhead_25 : decode cX2_isAhead 25 = .ok (.iload_n 0, 1) := by decide +kernel
theorem dX2_isAhead_26 : decode cX2_isAhead 26 = .ok (.iload 4, 2) := by decide +kernel
theorem dX2_isAhead_28 : decode cX2_isAhead 28 = .ok (.iand, 1) := by decide +kernel
theorem dX2_isAhead_29 : decode cX2_isAhead 29 = .ok (.iload_n 1, 1) := by decide +kernel
theorem dX2_isAhead_30 : decode cX2_isAhead 30 = .ok (.iload 4, 2) := by decide +kernel
theorem dX2_isAhead_32 : decode cX2_isAhead 32 = .ok (.iand, 1) := by decide +kernel
theorem dX2_isAhead_33 : decode cX2_isAhead 33 = .ok (.if_icmp .ge 7, 3) := by decide +kernel
theorem dX2_isAhead_36 : decode cX2_isAhead 36 = .ok (.iconst 1, 1) := by decide +kernel
theorem dX2_isAhead_37 : decode cX2_isAhead 37 = .ok (.goto 4, 3) := by decide +kernel
theorem dX2_isAhead_40 : decode cX2_isAhead 40 = .ok (.iconst 0, 1) := by decide +kernel
theorem dX2_isAhead_41 : decode cX2_isAhead 41 = .ok (.ireturn, 1) := by decide +kernel
theorem dX3_init_0 : decode cX3_init 0 = .ok (.aload_n 0, 1) := by decide +kernel
theorem dX3_init_1 : decode cX3_init 1 = .ok (.invokespecial 3, 3) := by decide +kernel
theorem dX3_init_4 : decode cX3_init 4 = .ok (.aload_n 0, 1) := by decide +kernel
theorem dX3_init_5 : decode cX3_init 5 = .ok (.bipush 48, 2) := by decide +kernel
theorem dX3_init_7 : decode cX3_init 7 = .ok (.newarray .int, 2) := by decide +kernel
theorem dX3_init_9 : decode cX3_init 9 = .ok (.putfield 9, 3) := by decide +kernel
theorem dX3_init_12 : decode cX3_init 12 = .ok (.aload_n 0, 1) := by decide +kernel
theorem dX3_init_13 : decode cX3_init 13 = .ok (.iconst 0, 1) := by decide +kernel
theorem dX3_init_14 : decode cX3_init 14 = .ok (.putfield 15, 3) := by decide +kernel
theorem dX3_init_17 : decode cX3_init 17 = .ok (.return_, 1) := by decide +kernel
theorem dX3_append_0 : decode cX3_append 0 = .ok (.iload_n 1, 1) := by decide +kernel
theorem dX3_append_1 : decode cX3_append 1 = .ok (.iconst 1, 1) := by decide +kernel
theorem dX3_append_2 : decode cX3_append 2 = .ok (.isub, 1) := by decide +kernel
theorem dX3_append_3 : decode cX3_append 3 = .ok (.istore 4, 2) := by decide +kernel
theorem dX3_append_5 : decode cX3_append 5 = .ok (.iload 4, 2) := by decide +kernel
theorem dX3_append_7 : decode cX3_append 7 = .ok (.ifCond .lt 49, 3) := by decide +kernel
theorem dX3_append_10 : decode cX3_append 10 = .ok (.aload_n 0, 1) := by decide +kernel
theorem dX3_append_11 : decode cX3_append 11 = .ok (.getfield 15, 3) := by decide +kernel
theorem dX3_append_14 : decode cX3_append 14 = .ok (.bipush 48, 2) := by decide +kernel
theorem dX3_append_16 : decode cX3_append 16 = .ok (.if_icmp .ge 40, 3) := by decide +kernel
theorem dX3_append_19 : decode cX3_append 19 = .ok (.aload_n 0, 1) := by decide +kernel
theorem dX3_append_20 : decode cX3_append 20 = .ok (.getfield 9, 3) := by decide +kernel
theorem dX3_append_23 : decode cX3_append 23 = .ok (.aload_n 0, 1) := by decide +kernel
theorem dX3_append_24 : decode cX3_append 24 = .ok (.getfield 15, 3) := by decide +kernel
theorem dX3_append_27 : decode cX3_append 27 = .ok (.lload_n 2, 1) := by decide +kernel
theorem dX3_append_28 : decode cX3_append 28 = .ok (.bipush 8, 2) := by decide +kernel
theorem dX3_append_30 : decode cX3_append 30 = .ok (.iload 4, 2) := by decide +kernel
theorem dX3_append_32 : decode cX3_append 32 = .ok (.imul, 1) := by decide +kernel
theorem dX3_append_33 : decode cX3_append 33 = .ok (.lushr, 1) := by decide +kernel
theorem dX3_append_34 : decode cX3_append 34 = .ok (.l2i, 1) := by decide +kernel
theorem dX3_append_35 : decode cX3_append 35 = .ok (.sipush 255, 3) := by decide +kernel
theorem dX3_append_38 : decode cX3_append 38 = .ok (.iand, 1) := by decide +kernel
theorem dX3_append_39 : decode cX3_append 39 = .ok (.iastore, 1) := by decide +kernel
theorem dX3_append_40 : decode cX3_append 40 = .ok (.aload_n 0, 1) := by decide +kernel
theorem dX3_append_41 : decode cX3_append 41 = .ok (.dup, 1) := by decide +kernel
theorem dX3_append_42 : decode cX3_append 42 = .ok (.getfield 15, 3) := by decide +kernel
theorem dX3_append_45 : decode cX3_append 45 = .ok (.iconst 1, 1) := by decide +kernel
theorem dX3_append_46 : decode cX3_append 46 = .ok (.iadd, 1) := by decide +kernel
theorem dX3_append_47 : decode cX3_append 47 = .ok (.putfield 15, 3) := by decide +kernel
theorem dX3_append_50 : decode cX3_append 50 = .ok (.iinc 4 (-1), 3) := by decide +kernel
theorem dX3_append_53 : decode cX3_append 53 = .ok (.goto (-48), 3) := by decide +kernel
theorem dX3_append_56 : decode cX3_append 56 = .ok (.return_, 1) := by decide +kernel
theorem dX3_firstFault_0 : decode cX3_firstFault 0 = .ok (.iconst 0, 1) := by decide +kernel
theorem dX3_firstFault_1 : decode cX3_firstFault 1 = .ok (.istore_n 1, 1) := by decide +kernel
theorem dX3_firstFault_2 : decode cX3_firstFault 2 = .ok (.iload_n 1, 1) := by decide +kernel
theorem dX3_firstFault_3 : decode cX3_firstFault 3 = .ok (.aload_n 0, 1) := by decide +kernel
theorem dX3_firstFault_4 : decode cX3_firstFault 4 = .ok (.getfield 15, 3) := by decide +kernel
theorem dX3_firstFault_7 : decode cX3_firstFault 7 = .ok (.if_icmp .ge 19, 3) := by decide +kernel
theorem dX3_firstFault_10 : decode cX3_firstFault 10 = .ok (.aload_n 0, 1) := by decide +kernel
theorem dX3_firstFault_11 : decode cX3_firstFault 11 = .ok (.iload_n 1, 1) := by decide +kernel
theorem dX3_firstFault_12 : decode cX3_firstFault 12 = .ok (.invokevirtual 19, 3) := by decide +kernel
theorem dX3_firstFault_15 : decode cX3_firstFault 15 = .ok (.ifCond .ne 5, 3) := by decide +kernel
theorem dX3_firstFault_18 : decode cX3_firstFault 18 = .ok (.iload_n 1, 1) := by decide +kernel
theorem dX3_firstFault_19 : decode cX3_firstFault 19 = .ok (.ireturn, 1) := by decide +kernel
theorem dX3_firstFault_20 : decode cX3_firstFault 20 = .ok (.iinc 1 1, 3) := by decide +kernel
theorem dX3_firstFault_23 : decode cX3_firstFault 23 = .ok (.goto (-21), 3) := by decide +kernel
theorem dX3_firstFault_26 : decode cX3_firstFault 26 = .ok (.aload_n 0, 1) := by decide +kernel
theorem dX3_firstFault_27 : decode cX3_firstFault 27 = .ok (.getfield 15, 3) := by decide +kernel
theorem dX3_firstFault_30 : decode cX3_firstFault 30 = .ok (.bipush 6, 2) := by decide +kernel
theorem dX3_firstFault_32 : decode cX3_firstFault 32 = .ok (.if_icmp .lt 19, 3) := by decide +kernel
theorem dX3_firstFault_35 : decode cX3_firstFault 35 = .ok (.aload_n 0, 1) := by decide +kernel
theorem dX3_firstFault_36 : decode cX3_firstFault 36 = .ok (.getfield 15, 3) := by decide +kernel
theorem dX3_firstFault_39 : decode cX3_firstFault 39 = .ok (.bipush 6, 2) := by decide +kernel
theorem dX3_firstFault_41 : decode cX3_firstFault 41 = .ok (.isub, 1) := by decide +kernel
theorem dX3_firstFault_42 : decode cX3_firstFault 42 = .ok (.iconst 5, 1) := by decide +kernel
theorem dX3_firstFault_43 : decode cX3_firstFault 43 = .ok (.irem, 1) := by decide +kernel
theorem dX3_firstFault_44 : decode cX3_firstFault 44 = .ok (.ifCond .ne 7, 3) := by decide +kernel
theorem dX3_firstFault_47 : decode cX3_firstFault 47 = .ok (.iconst 1, 1) := by decide +kernel
theorem dX3_firstFault_48 : decode cX3_firstFault 48 = .ok (.goto 4, 3) := by decide +kernel
theorem dX3_firstFault_51 : decode cX3_firstFault 51 = .ok (.iconst 0, 1) := by decide +kernel
theorem dX3_firstFault_52 : decode cX3_firstFault 52 = .ok (.istore_n 1, 1) := by decide +kernel
theorem dX3_firstFault_53 : decode cX3_firstFault 53 = .ok (.iload_n 1, 1) := by decide +kernel
theorem dX3_firstFault_54 : decode cX3_firstFault 54 = .ok (.ifCond .eq 8, 3) := by decide +kernel
theorem dX3_firstFault_57 : decode cX3_firstFault 57 = .ok (.bipush (-9), 2) := by decide +kernel
theorem dX3_firstFault_59 : decode cX3_firstFault 59 = .ok (.goto 7, 3) := by decide +kernel
theorem dX3_firstFault_62 : decode cX3_firstFault 62 = .ok (.aload_n 0, 1) := by decide +kernel
theorem dX3_firstFault_63 : decode cX3_firstFault 63 = .ok (.getfield 15, 3) := by decide +kernel
theorem dX3_firstFault_66 : decode cX3_firstFault 66 = .ok (.ireturn, 1) := by decide +kernel
theorem dX3_mayStand_0 : decode cX3_mayStand 0 = .ok (.iload_n 1, 1) := by decide +kernel
theorem dX3_mayStand_1 : decode cX3_mayStand 1 = .ok (.bipush 6, 2) := by decide +kernel
theorem dX3_mayStand_3 : decode cX3_mayStand 3 = .ok (.if_icmp .lt 23, 3) := by decide +kernel
theorem dX3_mayStand_6 : decode cX3_mayStand 6 = .ok (.iload_n 1, 1) := by decide +kernel
theorem dX3_mayStand_7 : decode cX3_mayStand 7 = .ok (.bipush 46, 2) := by decide +kernel
theorem dX3_mayStand_9 : decode cX3_mayStand 9 = .ok (.if_icmp .ge 15, 3) := by decide +kernel
theorem dX3_mayStand_12 : decode cX3_mayStand 12 = .ok (.aload_n 0, 1) := by decide +kernel
theorem dX3_mayStand_13 : decode cX3_mayStand 13 = .ok (.iload_n 1, 1) := by decide +kernel
theorem dX3_mayStand_14 : decode cX3_mayStand 14 = .ok (.invokevirtual 23, 3) := by decide +kernel
theorem dX3_mayStand_17 : decode cX3_mayStand 17 = .ok (.ifCond .eq 7, 3) := by decide +kernel
theorem dX3_mayStand_20 : decode cX3_mayStand 20 = .ok (.iconst 1, 1) := by decide +kernel
theorem dX3_mayStand_21 : decode cX3_mayStand 21 = .ok (.goto 4, 3) := by decide +kernel
theorem dX3_mayStand_24 : decode cX3_mayStand 24 = .ok (.iconst 0, 1) := by decide +kernel
theorem dX3_mayStand_25 : decode cX3_mayStand 25 = .ok (.ireturn, 1) := by decide +kernel
theorem dX3_mayStand_26 : decode cX3_mayStand 26 = .ok (.iload_n 1, 1) := by decide +kernel
theorem dX3_mayStand_27 : decode cX3_mayStand 27 = .ok (.tableswitch 82 0 4 #[33, 49, 57, 65, 73], 33) := by decide +kernel
theorem dX3_mayStand_60 : decode cX3_mayStand 60 = .ok (.aload_n 0, 1) := by decide +kernel
theorem dX3_mayStand_61 : decode cX3_mayStand 61 = .ok (.iconst 0, 1) := by decide +kernel
theorem dX3_mayStand_62 : decode cX3_mayStand 62 = .ok (.invokevirtual 26, 3) := by decide +kernel
theorem dX3_mayStand_65 : decode cX3_mayStand 65 = .ok (.bipush 66, 2) := by decide +kernel
theorem dX3_mayStand_67 : decode cX3_mayStand 67 = .ok (.if_icmp .ne 7, 3) := by decide +kernel
theorem dX3_mayStand_70 : decode cX3_mayStand 70 = .ok (.iconst 1, 1) := by decide +kernel
theorem dX3_mayStand_71 : decode cX3_mayStand 71 = .ok (.goto 4, 3) := by decide +kernel
theorem dX3_mayStand_74 : decode cX3_mayStand 74 = .ok (.iconst 0, 1) := by decide +kernel
theorem dX3_mayStand_75 : decode cX3_mayStand 75 = .ok (.ireturn, 1) := by decide +kernel
theorem dX3_mayStand_76 : decode cX3_mayStand 76 = .ok (.aload_n 0, 1) := by decide +kernel
theorem dX3_mayStand_77 : decode cX3_mayStand 77 = .ok (.iload_n 1, 1) := by decide +kernel
theorem dX3_mayStand_78 : decode cX3_mayStand 78 = .ok (.iconst 2, 1) := by decide +kernel
theorem dX3_mayStand_79 : decode cX3_mayStand 79 = .ok (.iconst 3, 1) := by decide +kernel
theorem dX3_mayStand_80 : decode cX3_mayStand 80 = .ok (.invokevirtual 30, 3) := by decide +kernel
theorem dX3_mayStand_83 : decode cX3_mayStand 83 = .ok (.ireturn, 1) := by decide +kernel
theorem dX3_mayStand_84 : decode cX3_mayStand 84 = .ok (.aload_n 0, 1) := by decide +kernel
theorem dX3_mayStand_85 : decode cX3_mayStand 85 = .ok (.iload_n 1, 1) := by decide +kernel
theorem dX3_mayStand_86 : decode cX3_mayStand 86 = .ok (.iconst 1, 1) := by decide +kernel
theorem dX3_mayStand_87 : decode cX3_mayStand 87 = .ok (.iconst 3, 1) := by decide +kernel
theorem dX3_mayStand_88 : decode cX3_mayStand 88 = .ok (.invokevirtual 30, 3) := by decide +kernel
theorem dX3_mayStand_91 : decode cX3_mayStand 91 = .ok (.ireturn, 1) := by decide +kernel
theorem dX3_mayStand_92 : decode cX3_mayStand 92 = .ok (.aload_n 0, 1) := by decide +kernel
theorem dX3_mayStand_93 : decode cX3_mayStand 93 = .ok (.iload_n 1, 1) := by decide +kernel
theorem dX3_mayStand_94 : decode cX3_mayStand 94 = .ok (.iconst 1, 1) := by decide +kernel
theorem dX3_mayStand_95 : decode cX3_mayStand 95 = .ok (.iconst 3, 1) := by decide +kernel
theorem dX3_mayStand_96 : decode cX3_mayStand 96 = .ok (.invokevirtual 30, 3) := by decide +kernel
theorem dX3_mayStand_99 : decode cX3_mayStand 99 = .ok (.ireturn, 1) := by decide +kernel
theorem dX3_mayStand_100 : decode cX3_mayStand 100 = .ok (.aload_n 0, 1) := by decide +kernel
theorem dX3_mayStand_101 : decode cX3_mayStand 101 = .ok (.iload_n 1, 1) := by decide +kernel
theorem dX3_mayStand_102 : decode cX3_mayStand 102 = .ok (.iconst 1, 1) := by decide +kernel
theorem dX3_mayStand_103 : decode cX3_mayStand 103 = .ok (.bipush 8, 2) := by decide +kernel
theorem dX3_mayStand_105 : decode cX3_mayStand 105 = .ok (.invokevirtual 30, 3) := by decide +kernel
theorem dX3_mayStand_108 : decode cX3_mayStand 108 = .ok (.ireturn, 1) := by decide +kernel
theorem dX3_mayStand_109 : decode cX3_mayStand 109 = .ok (.aload_n 0, 1) := by decide +kernel
theorem dX3_mayStand_110 : decode cX3_mayStand 110 = .ok (.iload_n 1, 1) := by decide +kernel
theorem dX3_mayStand_111 : decode cX3_mayStand 111 = .ok (.iconst 0, 1) := by decide +kernel
theorem dX3_mayStand_112 : decode cX3_mayStand 112 = .ok (.bipush 9, 2) := by decide +kernel
theorem dX3_mayStand_114 : decode cX3_mayStand 114 = .ok (.invokevirtual 30, 3) := by decide +kernel
theorem dX3_mayStand_117 : decode cX3_mayStand 117 = .ok (.ireturn, 1) := by decide +kernel
theorem dX3_mayStandInPerson_0 : decode cX3_mayStandInPerson 0 = .ok (.iload_n 1, 1) := by decide +kernel
theorem dX3_mayStandInPerson_1 : decode cX3_mayStandInPerson 1 = .ok (.bipush 6, 2) := by decide +kernel
theorem dX3_mayStandInPerson_3 : decode cX3_mayStandInPerson 3 = .ok (.isub, 1) := by decide +kernel
theorem dX3_mayStandInPerson_4 : decode cX3_mayStandInPerson 4 = .ok (.iconst 5, 1) := by decide +kernel
theorem dX3_mayStandInPerson_5 : decode cX3_mayStandInPerson 5 = .ok (.irem, 1) := by decide +kernel
theorem dX3_mayStandInPerson_6 : decode cX3_mayStandInPerson 6 = .ok (.tableswitch 104 0 4 #[34, 104, 50, 104, 73], 34) := by decide +kernel
theorem dX3_mayStandInPerson_40 : decode cX3_mayStandInPerson 40 = .ok (.aload_n 0, 1) := by decide +kernel
theorem dX3_mayStandInPerson_41 : decode cX3_mayStandInPerson 41 = .ok (.iload_n 1, 1) := by decide +kernel
theorem dX3_mayStandInPerson_42 : decode cX3_mayStandInPerson 42 = .ok (.invokevirtual 26, 3) := by decide +kernel
theorem dX3_mayStandInPerson_45 : decode cX3_mayStandInPerson 45 = .ok (.bipush 80, 2) := by decide +kernel
theorem dX3_mayStandInPerson_47 : decode cX3_mayStandInPerson 47 = .ok (.if_icmp .ne 7, 3) := by decide +kernel
theorem dX3_mayStandInPerson_50 : decode cX3_mayStandInPerson 50 = .ok (.iconst 1, 1) := by decide +kernel
theorem dX3_mayStandInPerson_51 : decode cX3_mayStandInPerson 51 = .ok (.goto 4, 3) := by decide +kernel
theorem dX3_mayStandInPerson_54 : decode cX3_mayStandInPerson 54 = .ok (.iconst 0, 1) := by decide +kernel
theorem dX3_mayStandInPerson_55 : decode cX3_mayStandInPerson 55 = .ok (.ireturn, 1) := by decide +kernel
theorem dX3_mayStandInPerson_56 : decode cX3_mayStandInPerson 56 = .ok (.aload_n 0, 1) := by decide +kernel
theorem dX3_mayStandInPerson_57 : decode cX3_mayStandInPerson 57 = .ok (.iload_n 1, 1) := by decide +kernel
theorem dX3_mayStandInPerson_58 : decode cX3_mayStandInPerson 58 = .ok (.aload_n 0, 1) := by decide +kernel
theorem dX3_mayStandInPerson_59 : decode cX3_mayStandInPerson 59 = .ok (.iload_n 1, 1) := by decide +kernel
theorem dX3_mayStandInPerson_60 : decode cX3_mayStandInPerson 60 = .ok (.iconst 1, 1) := by decide +kernel
theorem dX3_mayStandInPerson_61 : decode cX3_mayStandInPerson 61 = .ok (.isub, 1) := by decide +kernel
theorem dX3_mayStandInPerson_62 : decode cX3_mayStandInPerson 62 = .ok (.invokevirtual 34, 3) := by decide +kernel
theorem dX3_mayStandInPerson_65 : decode cX3_mayStandInPerson 65 = .ok (.ifCond .ne 7, 3) := by decide +kernel
theorem dX3_mayStandInPerson_68 : decode cX3_mayStandInPerson 68 = .ok (.iconst 1, 1) := by decide +kernel
theorem dX3_mayStandInPerson_69 : decode cX3_mayStandInPerson 69 = .ok (.goto 4, 3) := by decide +kernel
theorem dX3_mayStandInPerson_72 : decode cX3_mayStandInPerson 72 = .ok (.iconst 0, 1) := by decide +kernel
theorem dX3_mayStandInPerson_73 : decode cX3_mayStandInPerson 73 = .ok (.bipush 9, 2) := by decide +kernel
theorem dX3_mayStandInPerson_75 : decode cX3_mayStandInPerson 75 = .ok (.invokevirtual 30, 3) := by decide +kernel
theorem dX3_mayStandInPerson_78 : decode cX3_mayStandInPerson 78 = .ok (.ireturn, 1) := by decide +kernel
theorem dX3_mayStandInPerson_79 : decode cX3_mayStandInPerson 79 = .ok (.aload_n 0, 1) := by decide +kernel
theorem dX3_mayStandInPerson_80 : decode cX3_mayStandInPerson 80 = .ok (.iload_n 1, 1) := by decide +kernel
theorem dX3_mayStandInPerson_81 : decode cX3_mayStandInPerson 81 = .ok (.invokevirtual 34, 3) := by decide +kernel
theorem dX3_mayStandInPerson_84 : decode cX3_mayStandInPerson 84 = .ok (.iconst 3, 1) := by decide +kernel
theorem dX3_mayStandInPerson_85 : decode cX3_mayStandInPerson 85 = .ok (.if_icmp .eq 19, 3) := by decide +kernel
theorem dX3_mayStandInPerson_88 : decode cX3_mayStandInPerson 88 = .ok (.aload_n 0, 1) := by decide +kernel
theorem dX3_mayStandInPerson_89 : decode cX3_mayStandInPerson 89 = .ok (.iload_n 1, 1) := by decide +kernel
theorem dX3_mayStandInPerson_90 : decode cX3_mayStandInPerson 90 = .ok (.iconst 0, 1) := by decide +kernel
theorem dX3_mayStandInPerson_91 : decode cX3_mayStandInPerson 91 = .ok (.aload_n 0, 1) := by decide +kernel
theorem dX3_mayStandInPerson_92 : decode cX3_mayStandInPerson 92 = .ok (.iconst 1, 1) := by decide +kernel
theorem dX3_mayStandInPerson_93 : decode cX3_mayStandInPerson 93 = .ok (.invokevirtual 34, 3) := by decide +kernel
theorem dX3_mayStandInPerson_96 : decode cX3_mayStandInPerson 96 = .ok (.iconst 1, 1) := by decide +kernel
theorem dX3_mayStandInPerson_97 : decode cX3_mayStandInPerson 97 = .ok (.isub, 1) := by decide +kernel
theorem dX3_mayStandInPerson_98 : decode cX3_mayStandInPerson 98 = .ok (.invokevirtual 30, 3) := by decide +kernel
theorem dX3_mayStandInPerson_101 : decode cX3_mayStandInPerson 101 = .ok (.ifCond .eq 7, 3) := by decide +kernel
theorem dX3_mayStandInPerson_104 : decode cX3_mayStandInPerson 104 = .ok (.iconst 1, 1) := by decide +kernel
theorem dX3_mayStandInPerson_105 : decode cX3_mayStandInPerson 105 = .ok (.goto 4, 3) := by decide +kernel
theorem dX3_mayStandInPerson_108 : decode cX3_mayStandInPerson 108 = .ok (.iconst 0, 1) := by decide +kernel
theorem dX3_mayStandInPerson_109 : decode cX3_mayStandInPerson 109 = .ok (.ireturn, 1) := by decide +kernel
theorem dX3_mayStandInPerson_110 : decode cX3_mayStandInPerson 110 = .ok (.aload_n 0, 1) := by decide +kernel
theorem dX3_mayStandInPerson_111 : decode cX3_mayStandInPerson 111 = .ok (.iload_n 1, 1) := by decide +kernel
theorem dX3_mayStandInPerson_112 : decode cX3_mayStandInPerson 112 = .ok (.iconst 0, 1) := by decide +kernel
theorem dX3_mayStandInPerson_113 : decode cX3_mayStandInPerson 113 = .ok (.bipush 9, 2) := by decide +kernel
theorem dX3_mayStandInPerson_115 : decode cX3_mayStandInPerson 115 = .ok (.invokevirtual 30, 3) := by decide +kernel
theorem dX3_mayStandInPerson_118 : decode cX3_mayStandInPerson 118 = .ok (.ireturn, 1) := by decide +kernel
theorem dX3_isFigure_0 : decode cX3_isFigure 0 = .ok (.aload_n 0, 1) := by decide +kernel
theorem dX3_isFigure_1 : decode cX3_isFigure 1 = .ok (.iload_n 1, 1) := by decide +kernel
theorem dX3_isFigure_2 : decode cX3_isFigure 2 = .ok (.invokevirtual 34, 3) := by decide +kernel
theorem dX3_isFigure_5 : decode cX3_isFigure 5 = .ok (.iload_n 2, 1) := by decide +kernel
theorem dX3_isFigure_6 : decode cX3_isFigure 6 = .ok (.if_icmp .lt 16, 3) := by decide +kernel
theorem dX3_isFigure_9 : decode cX3_isFigure 9 = .ok (.aload_n 0, 1) := by decide +kernel
theorem dX3_isFigure_10 : decode cX3_isFigure 10 = .ok (.iload_n 1, 1) := by decide +kernel
theorem dX3_isFigure_11 : decode cX3_isFigure 11 = .ok (.invokevirtual 34, 3) := by decide +kernel
theorem dX3_isFigure_14 : decode cX3_isFigure 14 = .ok (.iload_n 3, 1) := by decide +kernel
theorem dX3_isFigure_15 : decode cX3_isFigure 15 = .ok (.if_icmp .gt 7, 3) := by decide +kernel
theorem dX3_isFigure_18 : decode cX3_isFigure 18 = .ok (.iconst 1, 1) := by decide +kernel
theorem dX3_isFigure_19 : decode cX3_isFigure 19 = .ok (.goto 4, 3) := by decide +kernel
theorem dX3_isFigure_22 : decode cX3_isFigure 22 = .ok (.iconst 0, 1) := by decide +kernel
theorem dX3_isFigure_23 : decode cX3_isFigure 23 = .ok (.ireturn, 1) := by decide +kernel
theorem dX3_figure_0 : decode cX3_figure 0 = .ok (.aload_n 0, 1) := by decide +kernel
theorem dX3_figure_1 : decode cX3_figure 1 = .ok (.iload_n 1, 1) := by decide +kernel
theorem dX3_figure_2 : decode cX3_figure 2 = .ok (.invokevirtual 26, 3) := by decide +kernel
theorem dX3_figure_5 : decode cX3_figure 5 = .ok (.bipush 48, 2) := by decide +kernel
theorem dX3_figure_7 : decode cX3_figure 7 = .ok (.isub, 1) := by decide +kernel
theorem dX3_figure_8 : decode cX3_figure 8 = .ok (.ireturn, 1) := by decide +kernel
theorem dX3_byteAt_0 : decode cX3_byteAt 0 = .ok (.iload_n 1, 1) := by decide +kernel
theorem dX3_byteAt_1 : decode cX3_byteAt 1 = .ok (.ifCond .lt 26, 3) := by decide +kernel
theorem dX3_byteAt_4 : decode cX3_byteAt 4 = .ok (.iload_n 1, 1) := by decide +kernel
theorem dX3_byteAt_5 : decode cX3_byteAt 5 = .ok (.aload_n 0, 1) := by decide +kernel
theorem dX3_byteAt_6 : decode cX3_byteAt 6 = .ok (.getfield 15, 3) := by decide +kernel
theorem dX3_byteAt_9 : decode cX3_byteAt 9 = .ok (.if_icmp .ge 18, 3) := by decide +kernel
theorem dX3_byteAt_12 : decode cX3_byteAt 12 = .ok (.iload_n 1, 1) := by decide +kernel
theorem dX3_byteAt_13 : decode cX3_byteAt 13 = .ok (.bipush 48, 2) := by decide +kernel
theorem dX3_byteAt_15 : decode cX3_byteAt 15 = .ok (.if_icmp .ge 12, 3) := by decide +kernel
theorem dX3_byteAt_18 : decode cX3_byteAt 18 = .ok (.aload_n 0, 1) := by decide +kernel
theorem dX3_byteAt_19 : decode cX3_byteAt 19 = .ok (.getfield 9, 3) := by decide +kernel
theorem dX3_byteAt_22 : decode cX3_byteAt 22 = .ok (.iload_n 1, 1) := by decide +kernel
theorem dX3_byteAt_23 : decode cX3_byteAt 23 = .ok (.iaload, 1) := by decide +kernel
theorem dX3_byteAt_24 : decode cX3_byteAt 24 = .ok (.goto 4, 3) := by decide +kernel
theorem dX3_byteAt_27 : decode cX3_byteAt 27 = .ok (.iconst 0, 1) := by decide +kernel
theorem dX3_byteAt_28 : decode cX3_byteAt 28 = .ok (.ireturn, 1) := by decide +kernel
theorem dX4_init_0 : decode cX4_init 0 = .ok (.aload_n 0, 1) := by decide +kernel
theorem dX4_init_1 : decode cX4_init 1 = .ok (.invokespecial 1, 3) := by decide +kernel
theorem dX4_init_4 : decode cX4_init 4 = .ok (.aload_n 0, 1) := by decide +kernel
theorem dX4_init_5 : decode cX4_init 5 = .ok (.new 7, 3) := by decide +kernel
theorem dX4_init_8 : decode cX4_init 8 = .ok (.dup, 1) := by decide +kernel
theorem dX4_init_9 : decode cX4_init 9 = .ok (.invokespecial 9, 3) := by decide +kernel
theorem dX4_init_12 : decode cX4_init 12 = .ok (.putfield 10, 3) := by decide +kernel
theorem dX4_init_15 : decode cX4_init 15 = .ok (.aload_n 0, 1) := by decide +kernel
theorem dX4_init_16 : decode cX4_init 16 = .ok (.new 16, 3) := by decide +kernel
theorem dX4_init_19 : decode cX4_init 19 = .ok (.dup, 1) := by decide +kernel
theorem dX4_init_20 : decode cX4_init 20 = .ok (.invokespecial 18, 3) := by decide +kernel
theorem dX4_init_23 : decode cX4_init 23 = .ok (.putfield 19, 3) := by decide +kernel
theorem dX4_init_26 : decode cX4_init 26 = .ok (.aload_n 0, 1) := by decide +kernel
theorem dX4_init_27 : decode cX4_init 27 = .ok (.new 23, 3) := by decide +kernel
theorem dX4_init_30 : decode cX4_init 30 = .ok (.dup, 1) := by decide +kernel
theorem dX4_init_31 : decode cX4_init 31 = .ok (.invokespecial 25, 3) := by decide +kernel
theorem dX4_init_34 : decode cX4_init 34 = .ok (.putfield 26, 3) := by decide +kernel
theorem dX4_init_37 : decode cX4_init 37 = .ok (.aload_n 0, 1) := by decide +kernel
theorem dX4_init_38 : decode cX4_init 38 = .ok (.new 23, 3) := by decide +kernel
theorem dX4_init_41 : decode cX4_init 41 = .ok (.dup, 1) := by decide +kernel
theorem dX4_init_42 : decode cX4_init 42 = .ok (.invokespecial 25, 3) := by decide +kernel
theorem dX4_init_45 : decode cX4_init 45 = .ok (.putfield 30, 3) := by decide +kernel
theorem dX4_init_48 : decode cX4_init 48 = .ok (.aload_n 0, 1) := by decide +kernel
theorem dX4_init_49 : decode cX4_init 49 = .ok (.new 23, 3) := by decide +kernel
theorem dX4_init_52 : decode cX4_init 52 = .ok (.dup, 1) := by decide +kernel
theorem dX4_init_53 : decode cX4_init 53 = .ok (.invokespecial 25, 3) := by decide +kernel
theorem dX4_init_56 : decode cX4_init 56 = .ok (.putfield 33, 3) := by decide +kernel
theorem dX4_init_59 : decode cX4_init 59 = .ok (.aload_n 0, 1) := by decide +kernel
theorem dX4_init_60 : decode cX4_init 60 = .ok (.new 36, 3) := by decide +kernel
theorem dX4_init_63 : decode cX4_init 63 = .ok (.dup, 1) := by decide +kernel
theorem dX4_init_64 : decode cX4_init 64 = .ok (.invokespecial 38, 3) := by decide +kernel
theorem dX4_init_67 : decode cX4_init 67 = .ok (.putfield 39, 3) := by decide +kernel
theorem dX4_init_70 : decode cX4_init 70 = .ok (.return_, 1) := by decide +kernel
theorem dX4_write_0 : decode cX4_write 0 = .ok (.iload_n 1, 1) := by decide +kernel
theorem dX4_write_1 : decode cX4_write 1 = .ok (.iconst 1, 1) := by decide +kernel
theorem dX4_write_2 : decode cX4_write 2 = .ok (.if_icmp .lt 9, 3) := by decide +kernel
theorem dX4_write_5 : decode cX4_write 5 = .ok (.iload_n 1, 1) := by decide +kernel
theorem dX4_write_6 : decode cX4_write 6 = .ok (.bipush 8, 2) := by decide +kernel
theorem dX4_write_8 : decode cX4_write 8 = .ok (.if_icmp .le 6, 3) := by decide +kernel
theorem dX4_write_11 : decode cX4_write 11 = .ok (.bipush (-2), 2) := by decide +kernel
theorem dX4_write_13 : decode cX4_write 13 = .ok (.ireturn, 1) := by decide +kernel
theorem dX4_write_14 : decode cX4_write 14 = .ok (.aload_n 0, 1) := by decide +kernel
theorem dX4_write_15 : decode cX4_write 15 = .ok (.getfield 10, 3) := by decide +kernel
theorem dX4_write_18 : decode cX4_write 18 = .ok (.getfield 43, 3) := by decide +kernel
theorem dX4_write_21 : decode cX4_write 21 = .ok (.iload_n 1, 1) := by decide +kernel
theorem dX4_write_22 : decode cX4_write 22 = .ok (.iadd, 1) := by decide +kernel
theorem dX4_write_23 : decode cX4_write 23 = .ok (.bipush 48, 2) := by decide +kernel
theorem dX4_write_25 : decode cX4_write 25 = .ok (.if_icmp .le 6, 3) := by decide +kernel
theorem dX4_write_28 : decode cX4_write 28 = .ok (.bipush (-4), 2) := by decide +kernel
theorem dX4_write_30 : decode cX4_write 30 = .ok (.ireturn, 1) := by decide +kernel
theorem dX4_write_31 : decode cX4_write 31 = .ok (.aload_n 0, 1) := by decide +kernel
theorem dX4_write_32 : decode cX4_write 32 = .ok (.getfield 10, 3) := by decide +kernel
theorem dX4_write_35 : decode cX4_write 35 = .ok (.iload_n 1, 1) := by decide +kernel
theorem dX4_write_36 : decode cX4_write 36 = .ok (.lload_n 2, 1) := by decide +kernel
theorem dX4_write_37 : decode cX4_write 37 = .ok (.invokevirtual 47, 3) := by decide +kernel
theorem dX4_write_40 : decode cX4_write 40 = .ok (.aload_n 0, 1) := by decide +kernel
theorem dX4_write_41 : decode cX4_write 41 = .ok (.getfield 10, 3) := by decide +kernel
theorem dX4_write_44 : decode cX4_write 44 = .ok (.getfield 43, 3) := by decide +kernel
theorem dX4_write_47 : decode cX4_write 47 = .ok (.ireturn, 1) := by decide +kernel
theorem dX4_wipe_0 : decode cX4_wipe 0 = .ok (.aload_n 0, 1) := by decide +kernel
theorem dX4_wipe_1 : decode cX4_wipe 1 = .ok (.getfield 10, 3) := by decide +kernel
theorem dX4_wipe_4 : decode cX4_wipe 4 = .ok (.getfield 43, 3) := by decide +kernel
theorem dX4_wipe_7 : decode cX4_wipe 7 = .ok (.istore_n 1, 1) := by decide +kernel
theorem dX4_wipe_8 : decode cX4_wipe 8 = .ok (.aload_n 0, 1) := by decide +kernel
theorem dX4_wipe_9 : decode cX4_wipe 9 = .ok (.getfield 10, 3) := by decide +kernel
theorem dX4_wipe_12 : decode cX4_wipe 12 = .ok (.iconst 0, 1) := by decide +kernel
theorem dX4_wipe_13 : decode cX4_wipe 13 = .ok (.putfield 43, 3) := by decide +kernel
theorem dX4_wipe_16 : decode cX4_wipe 16 = .ok (.iload_n 1, 1) := by decide +kernel
theorem dX4_wipe_17 : decode cX4_wipe 17 = .ok (.ireturn, 1) := by decide +kernel
theorem dX4_fault_0 : decode cX4_fault 0 = .ok (.aload_n 0, 1) := by decide +kernel
theorem dX4_fault_1 : decode cX4_fault 1 = .ok (.getfield 10, 3) := by decide +kernel
theorem dX4_fault_4 : decode cX4_fault 4 = .ok (.invokevirtual 51, 3) := by decide +kernel
theorem dX4_fault_7 : decode cX4_fault 7 = .ok (.ireturn, 1) := by decide +kernel
theorem dX4_ferry_0 : decode cX4_ferry 0 = .ok (.aload_n 0, 1) := by decide +kernel
theorem dX4_ferry_1 : decode cX4_ferry 1 = .ok (.getfield 10, 3) := by decide +kernel
theorem dX4_ferry_4 : decode cX4_ferry 4 = .ok (.invokevirtual 51, 3) := by decide +kernel
theorem dX4_ferry_7 : decode cX4_ferry 7 = .ok (.bipush (-9), 2) := by decide +kernel
theorem dX4_ferry_9 : decode cX4_ferry 9 = .ok (.if_icmp .eq 6, 3) := by decide +kernel
theorem dX4_ferry_12 : decode cX4_ferry 12 = .ok (.bipush (-3), 2) := by decide +kernel
theorem dX4_ferry_14 : decode cX4_ferry 14 = .ok (.ireturn, 1) := by decide +kernel
theorem dX4_ferry_15 : decode cX4_ferry 15 = .ok (.aload_n 0, 1) := by decide +kernel
theorem dX4_ferry_16 : decode cX4_ferry 16 = .ok (.getfield 19, 3) := by decide +kernel
theorem dX4_ferry_19 : decode cX4_ferry 19 = .ok (.aload_n 0, 1) := by decide +kernel
theorem dX4_ferry_20 : decode cX4_ferry 20 = .ok (.getfield 10, 3) := by decide +kernel
theorem dX4_ferry_23 : decode cX4_ferry 23 = .ok (.invokevirtual 55, 3) := by decide +kernel
theorem dX4_ferry_26 : decode cX4_ferry 26 = .ok (.aload_n 0, 1) := by decide +kernel
theorem dX4_ferry_27 : decode cX4_ferry 27 = .ok (.getfield 26, 3) := by decide +kernel
theorem dX4_ferry_30 : decode cX4_ferry 30 = .ok (.aload_n 0, 1) := by decide +kernel
theorem dX4_ferry_31 : decode cX4_ferry 31 = .ok (.getfield 19, 3) := by decide +kernel
theorem dX4_ferry_34 : decode cX4_ferry 34 = .ok (.invokevirtual 59, 3) := by decide +kernel
theorem dX4_ferry_37 : decode cX4_ferry 37 = .ok (.aload_n 0, 1) := by decide +kernel
theorem dX4_ferry_38 : decode cX4_ferry 38 = .ok (.getfield 30, 3) := by decide +kernel
theorem dX4_ferry_41 : decode cX4_ferry 41 = .ok (.iconst 0, 1) := by decide +kernel
theorem dX4_ferry_42 : decode cX4_ferry 42 = .ok (.putfield 63, 3) := by decide +kernel
theorem dX4_ferry_45 : decode cX4_ferry 45 = .ok (.aload_n 0, 1) := by decide +kernel
theorem dX4_ferry_46 : decode cX4_ferry 46 = .ok (.getfield 33, 3) := by decide +kernel
theorem dX4_ferry_49 : decode cX4_ferry 49 = .ok (.iconst 0, 1) := by decide +kernel
theorem dX4_ferry_50 : decode cX4_ferry 50 = .ok (.putfield 63, 3) := by decide +kernel
theorem dX4_ferry_53 : decode cX4_ferry 53 = .ok (.aload_n 0, 1) := by decide +kernel
theorem dX4_ferry_54 : decode cX4_ferry 54 = .ok (.getfield 39, 3) := by decide +kernel
theorem dX4_ferry_57 : decode cX4_ferry 57 = .ok (.invokevirtual 67, 3) := by decide +kernel
theorem dX4_ferry_60 : decode cX4_ferry 60 = .ok (.aload_n 0, 1) := by decide +kernel
theorem dX4_ferry_61 : decode cX4_ferry 61 = .ok (.getfield 19, 3) := by decide +kernel
theorem dX4_ferry_64 : decode cX4_ferry 64 = .ok (.getfield 70, 3) := by decide +kernel
theorem dX4_ferry_67 : decode cX4_ferry 67 = .ok (.ireturn, 1) := by decide +kernel
theorem dX4_boat_0 : decode cX4_boat 0 = .ok (.iload_n 1, 1) := by decide +kernel
theorem dX4_boat_1 : decode cX4_boat 1 = .ok (.tableswitch 87 0 5 #[39, 47, 55, 63, 71, 79], 39) := by decide +kernel
theorem dX4_boat_40 : decode cX4_boat 40 = .ok (.aload_n 0, 1) := by decide +kernel
theorem dX4_boat_41 : decode cX4_boat 41 = .ok (.getfield 19, 3) := by decide +kernel
theorem dX4_boat_44 : decode cX4_boat 44 = .ok (.getfield 73, 3) := by decide +kernel
theorem dX4_boat_47 : decode cX4_boat 47 = .ok (.ireturn, 1) := by decide +kernel
theorem dX4_boat_48 : decode cX4_boat 48 = .ok (.aload_n 0, 1) := by decide +kernel
theorem dX4_boat_49 : decode cX4_boat 49 = .ok (.getfield 19, 3) := by decide +kernel
theorem dX4_boat_52 : decode cX4_boat 52 = .ok (.getfield 76, 3) := by decide +kernel
theorem dX4_boat_55 : decode cX4_boat 55 = .ok (.ireturn, 1) := by decide +kernel
theorem dX4_boat_56 : decode cX4_boat 56 = .ok (.aload_n 0, 1) := by decide +kernel
theorem dX4_boat_57 : decode cX4_boat 57 = .ok (.getfield 19, 3) := by decide +kernel
theorem dX4_boat_60 : decode cX4_boat 60 = .ok (.getfield 79, 3) := by decide +kernel
theorem dX4_boat_63 : decode cX4_boat 63 = .ok (.ireturn, 1) := by decide +kernel
theorem dX4_boat_64 : decode cX4_boat 64 = .ok (.aload_n 0, 1) := by decide +kernel
theorem dX4_boat_65 : decode cX4_boat 65 = .ok (.getfield 19, 3) := by decide +kernel
theorem dX4_boat_68 : decode cX4_boat 68 = .ok (.getfield 82, 3) := by decide +kernel
theorem dX4_boat_71 : decode cX4_boat 71 = .ok (.ireturn, 1) := by decide +kernel
theorem dX4_boat_72 : decode cX4_boat 72 = .ok (.aload_n 0, 1) := by decide +kernel
theorem dX4_boat_73 : decode cX4_boat 73 = .ok (.getfield 19, 3) := by decide +kernel
theorem dX4_boat_76 : decode cX4_boat 76 = .ok (.getfield 85, 3) := by decide +kernel
theorem dX4_boat_79 : decode cX4_boat 79 = .ok (.ireturn, 1) := by decide +kernel
theorem dX4_boat_80 : decode cX4_boat 80 = .ok (.aload_n 0, 1) := by decide +kernel
theorem dX4_boat_81 : decode cX4_boat 81 = .ok (.getfield 26, 3) := by decide +kernel
theorem dX4_boat_84 : decode cX4_boat 84 = .ok (.getfield 88, 3) := by decide +kernel
theorem dX4_boat_87 : decode cX4_boat 87 = .ok (.ireturn, 1) := by decide +kernel
theorem dX4_boat_88 : decode cX4_boat 88 = .ok (.bipush (-2), 2) := by decide +kernel
theorem dX4_boat_90 : decode cX4_boat 90 = .ok (.ireturn, 1) := by decide +kernel
theorem dX4_person_0 : decode cX4_person 0 = .ok (.aload_n 0, 1) := by decide +kernel
theorem dX4_person_1 : decode cX4_person 1 = .ok (.getfield 19, 3) := by decide +kernel
theorem dX4_person_4 : decode cX4_person 4 = .ok (.iload_n 1, 1) := by decide +kernel
theorem dX4_person_5 : decode cX4_person 5 = .ok (.invokevirtual 91, 3) := by decide +kernel
theorem dX4_person_8 : decode cX4_person 8 = .ok (.ifCond .ne 5, 3) := by decide +kernel
theorem dX4_person_11 : decode cX4_person 11 = .ok (.iconst (-1), 1) := by decide +kernel
theorem dX4_person_12 : decode cX4_person 12 = .ok (.ireturn, 1) := by decide +kernel
theorem dX4_person_13 : decode cX4_person 13 = .ok (.iload_n 2, 1) := by decide +kernel
theorem dX4_person_14 : decode cX4_person 14 = .ok (.tableswitch 100 0 5 #[38, 48, 58, 68, 81, 91], 38) := by decide +kernel
theorem dX4_person_52 : decode cX4_person 52 = .ok (.aload_n 0, 1) := by decide +kernel
theorem dX4_person_53 : decode cX4_person 53 = .ok (.getfield 19, 3) := by decide +kernel
theorem dX4_person_56 : decode cX4_person 56 = .ok (.getfield 95, 3) := by decide +kernel
theorem dX4_person_59 : decode cX4_person 59 = .ok (.iload_n 1, 1) := by decide +kernel
theorem dX4_person_60 : decode cX4_person 60 = .ok (.iaload, 1) := by decide +kernel
theorem dX4_person_61 : decode cX4_person 61 = .ok (.ireturn, 1) := by decide +kernel
theorem dX4_person_62 : decode cX4_person 62 = .ok (.aload_n 0, 1) := by decide +kernel
theorem dX4_person_63 : decode cX4_person 63 = .ok (.getfield 19, 3) := by decide +kernel
theorem dX4_person_66 : decode cX4_person 66 = .ok (.getfield 99, 3) := by decide +kernel
theorem dX4_person_69 : decode cX4_person 69 = .ok (.iload_n 1, 1) := by decide +kernel
theorem dX4_person_70 : decode cX4_person 70 = .ok (.iaload, 1) := by decide +kernel
theorem dX4_person_71 : decode cX4_person 71 = .ok (.ireturn, 1) := by decide +kernel
theorem dX4_person_72 : decode cX4_person 72 = .ok (.aload_n 0, 1) := by decide +kernel
theorem dX4_person_73 : decode cX4_person 73 = .ok (.getfield 19, 3) := by decide +kernel
theorem dX4_person_76 : decode cX4_person 76 = .ok (.getfield 102, 3) := by decide +kernel
theorem dX4_person_79 : decode cX4_person 79 = .ok (.iload_n 1, 1) := by decide +kernel
theorem dX4_person_80 : decode cX4_person 80 = .ok (.iaload, 1) := by decide +kernel
theorem dX4_person_81 : decode cX4_person 81 = .ok (.ireturn, 1) := by decide +kernel
theorem dX4_person_82 : decode cX4_person 82 = .ok (.aload_n 0, 1) := by decide +kernel
theorem dX4_person_83 : decode cX4_person 83 = .ok (.getfield 26, 3) := by decide +kernel
theorem dX4_person_86 : decode cX4_person 86 = .ok (.getfield 105, 3) := by decide +kernel
theorem dX4_person_89 : decode cX4_person 89 = .ok (.iload_n 1, 1) := by decide +kernel
theorem dX4_person_90 : decode cX4_person 90 = .ok (.iaload, 1) := by decide +kernel
theorem dX4_person_91 : decode cX4_person 91 = .ok (.bipush 10, 2) := by decide +kernel
theorem dX4_person_93 : decode cX4_person 93 = .ok (.iadd, 1) := by decide +kernel
theorem dX4_person_94 : decode cX4_person 94 = .ok (.ireturn, 1) := by decide +kernel
theorem dX4_person_95 : decode cX4_person 95 = .ok (.aload_n 0, 1) := by decide +kernel
theorem dX4_person_96 : decode cX4_person 96 = .ok (.getfield 26, 3) := by decide +kernel
theorem dX4_person_99 : decode cX4_person 99 = .ok (.getfield 108, 3) := by decide +kernel
theorem dX4_person_102 : decode cX4_person 102 = .ok (.iload_n 1, 1) := by decide +kernel
theorem dX4_person_103 : decode cX4_person 103 = .ok (.iaload, 1) := by decide +kernel
theorem dX4_person_104 : decode cX4_person 104 = .ok (.ireturn, 1) := by decide +kernel
theorem dX4_person_105 : decode cX4_person 105 = .ok (.aload_n 0, 1) := by decide +kernel
theorem dX4_person_106 : decode cX4_person 106 = .ok (.getfield 26, 3) := by decide +kernel
theorem dX4_person_109 : decode cX4_person 109 = .ok (.iload_n 1, 1) := by decide +kernel
theorem dX4_person_110 : decode cX4_person 110 = .ok (.invokevirtual 111, 3) := by decide +kernel
theorem dX4_person_113 : decode cX4_person 113 = .ok (.ireturn, 1) := by decide +kernel
theorem dX4_person_114 : decode cX4_person 114 = .ok (.bipush (-2), 2) := by decide +kernel
theorem dX4_person_116 : decode cX4_person 116 = .ok (.ireturn, 1) := by decide +kernel
theorem dX4_gain_0 : decode cX4_gain 0 = .ok (.aload_n 0, 1) := by decide +kernel
theorem dX4_gain_1 : decode cX4_gain 1 = .ok (.getfield 19, 3) := by decide +kernel
theorem dX4_gain_4 : decode cX4_gain 4 = .ok (.iload_n 1, 1) := by decide +kernel
theorem dX4_gain_5 : decode cX4_gain 5 = .ok (.invokevirtual 91, 3) := by decide +kernel
theorem dX4_gain_8 : decode cX4_gain 8 = .ok (.ifCond .ne 5, 3) := by decide +kernel
theorem dX4_gain_11 : decode cX4_gain 11 = .ok (.iconst (-1), 1) := by decide +kernel
theorem dX4_gain_12 : decode cX4_gain 12 = .ok (.ireturn, 1) := by decide +kernel
theorem dX4_gain_13 : decode cX4_gain 13 = .ok (.iload_n 2, 1) := by decide +kernel
theorem dX4_gain_14 : decode cX4_gain 14 = .ok (.bipush (-3), 2) := by decide +kernel
theorem dX4_gain_16 : decode cX4_gain 16 = .ok (.if_icmp .lt 8, 3) := by decide +kernel
theorem dX4_gain_19 : decode cX4_gain 19 = .ok (.iload_n 2, 1) := by decide +kernel
theorem dX4_gain_20 : decode cX4_gain 20 = .ok (.iconst 3, 1) := by decide +kernel
theorem dX4_gain_21 : decode cX4_gain 21 = .ok (.if_icmp .le 6, 3) := by decide +kernel
theorem dX4_gain_24 : decode cX4_gain 24 = .ok (.bipush (-2), 2) := by decide +kernel
theorem dX4_gain_26 : decode cX4_gain 26 = .ok (.ireturn, 1) := by decide +kernel
theorem dX4_gain_27 : decode cX4_gain 27 = .ok (.aload_n 0, 1) := by decide +kernel
theorem dX4_gain_28 : decode cX4_gain 28 = .ok (.getfield 26, 3) := by decide +kernel
theorem dX4_gain_31 : decode cX4_gain 31 = .ok (.getfield 105, 3) := by decide +kernel
theorem dX4_gain_34 : decode cX4_gain 34 = .ok (.iload_n 1, 1) := by decide +kernel
theorem dX4_gain_35 : decode cX4_gain 35 = .ok (.iaload, 1) := by decide +kernel
theorem dX4_gain_36 : decode cX4_gain 36 = .ok (.istore_n 3, 1) := by decide +kernel
theorem dX4_gain_37 : decode cX4_gain 37 = .ok (.aload_n 0, 1) := by decide +kernel
theorem dX4_gain_38 : decode cX4_gain 38 = .ok (.getfield 26, 3) := by decide +kernel
theorem dX4_gain_41 : decode cX4_gain 41 = .ok (.getfield 105, 3) := by decide +kernel
theorem dX4_gain_44 : decode cX4_gain 44 = .ok (.iload_n 1, 1) := by decide +kernel
theorem dX4_gain_45 : decode cX4_gain 45 = .ok (.iload_n 2, 1) := by decide +kernel
theorem dX4_gain_46 : decode cX4_gain 46 = .ok (.iastore, 1) := by decide +kernel
theorem dX4_gain_47 : decode cX4_gain 47 = .ok (.aload_n 0, 1) := by decide +kernel
theorem dX4_gain_48 : decode cX4_gain 48 = .ok (.getfield 39, 3) := by decide +kernel
theorem dX4_gain_51 : decode cX4_gain 51 = .ok (.invokevirtual 67, 3) := by decide +kernel
theorem dX4_gain_54 : decode cX4_gain 54 = .ok (.iload_n 3, 1) := by decide +kernel
theorem dX4_gain_55 : decode cX4_gain 55 = .ok (.bipush 10, 2) := by decide +kernel
theorem dX4_gain_57 : decode cX4_gain 57 = .ok (.iadd, 1) := by decide +kernel
theorem dX4_gain_58 : decode cX4_gain 58 = .ok (.ireturn, 1) := by decide +kernel
theorem dX4_minutes_0 : decode cX4_minutes 0 = .ok (.iload_n 1, 1) := by decide +kernel
theorem dX4_minutes_1 : decode cX4_minutes 1 = .ok (.invokestatic 115, 3) := by decide +kernel
theorem dX4_minutes_4 : decode cX4_minutes 4 = .ok (.ifCond .ne 6, 3) := by decide +kernel
theorem dX4_minutes_7 : decode cX4_minutes 7 = .ok (.bipush (-2), 2) := by decide +kernel
theorem dX4_minutes_9 : decode cX4_minutes 9 = .ok (.ireturn, 1) := by decide +kernel
theorem dX4_minutes_10 : decode cX4_minutes 10 = .ok (.aload_n 0, 1) := by decide +kernel
theorem dX4_minutes_11 : decode cX4_minutes 11 = .ok (.getfield 26, 3) := by decide +kernel
theorem dX4_minutes_14 : decode cX4_minutes 14 = .ok (.getfield 88, 3) := by decide +kernel
theorem dX4_minutes_17 : decode cX4_minutes 17 = .ok (.istore_n 2, 1) := by decide +kernel
theorem dX4_minutes_18 : decode cX4_minutes 18 = .ok (.aload_n 0, 1) := by decide +kernel
theorem dX4_minutes_19 : decode cX4_minutes 19 = .ok (.getfield 26, 3) := by decide +kernel
theorem dX4_minutes_22 : decode cX4_minutes 22 = .ok (.iload_n 1, 1) := by decide +kernel
theorem dX4_minutes_23 : decode cX4_minutes 23 = .ok (.putfield 88, 3) := by decide +kernel
theorem dX4_minutes_26 : decode cX4_minutes 26 = .ok (.aload_n 0, 1) := by decide +kernel
theorem dX4_minutes_27 : decode cX4_minutes 27 = .ok (.getfield 39, 3) := by decide +kernel
theorem dX4_minutes_30 : decode cX4_minutes 30 = .ok (.invokevirtual 67, 3) := by decide +kernel
theorem dX4_minutes_33 : decode cX4_minutes 33 = .ok (.iload_n 2, 1) := by decide +kernel
theorem dX4_minutes_34 : decode cX4_minutes 34 = .ok (.ireturn, 1) := by decide +kernel
theorem dX4_lay_0 : decode cX4_lay 0 = .ok (.aload_n 0, 1) := by decide +kernel
theorem dX4_lay_1 : decode cX4_lay 1 = .ok (.getfield 19, 3) := by decide +kernel
theorem dX4_lay_4 : decode cX4_lay 4 = .ok (.iload_n 1, 1) := by decide +kernel
theorem dX4_lay_5 : decode cX4_lay 5 = .ok (.invokevirtual 91, 3) := by decide +kernel
theorem dX4_lay_8 : decode cX4_lay 8 = .ok (.ifCond .eq 14, 3) := by decide +kernel
theorem dX4_lay_11 : decode cX4_lay 11 = .ok (.aload_n 0, 1) := by decide +kernel
theorem dX4_lay_12 : decode cX4_lay 12 = .ok (.getfield 19, 3) := by decide +kernel
theorem dX4_lay_15 : decode cX4_lay 15 = .ok (.iload_n 2, 1) := by decide +kernel
theorem dX4_lay_16 : decode cX4_lay 16 = .ok (.invokevirtual 118, 3) := by decide +kernel
theorem dX4_lay_19 : decode cX4_lay 19 = .ok (.ifCond .ne 5, 3) := by decide +kernel
theorem dX4_lay_22 : decode cX4_lay 22 = .ok (.iconst (-1), 1) := by decide +kernel
theorem dX4_lay_23 : decode cX4_lay 23 = .ok (.ireturn, 1) := by decide +kernel
theorem dX4_lay_24 : decode cX4_lay 24 = .ok (.aload_n 0, 1) := by decide +kernel
theorem dX4_lay_25 : decode cX4_lay 25 = .ok (.getfield 26, 3) := by decide +kernel
theorem dX4_lay_28 : decode cX4_lay 28 = .ok (.iload_n 1, 1) := by decide +kernel
theorem dX4_lay_29 : decode cX4_lay 29 = .ok (.invokevirtual 111, 3) := by decide +kernel
theorem dX4_lay_32 : decode cX4_lay 32 = .ok (.bipush 10, 2) := by decide +kernel
theorem dX4_lay_34 : decode cX4_lay 34 = .ok (.if_icmp .ne 15, 3) := by decide +kernel
theorem dX4_lay_37 : decode cX4_lay 37 = .ok (.aload_n 0, 1) := by decide +kernel
theorem dX4_lay_38 : decode cX4_lay 38 = .ok (.getfield 19, 3) := by decide +kernel
theorem dX4_lay_41 : decode cX4_lay 41 = .ok (.iload_n 1, 1) := by decide +kernel
theorem dX4_lay_42 : decode cX4_lay 42 = .ok (.iload_n 2, 1) := by decide +kernel
theorem dX4_lay_43 : decode cX4_lay 43 = .ok (.invokevirtual 121, 3) := by decide +kernel
theorem dX4_lay_46 : decode cX4_lay 46 = .ok (.ifCond .ne 6, 3) := by decide +kernel
theorem dX4_lay_49 : decode cX4_lay 49 = .ok (.bipush (-3), 2) := by decide +kernel
theorem dX4_lay_51 : decode cX4_lay 51 = .ok (.ireturn, 1) := by decide +kernel
theorem dX4_lay_52 : decode cX4_lay 52 = .ok (.aload_n 0, 1) := by decide +kernel
theorem dX4_lay_53 : decode cX4_lay 53 = .ok (.getfield 26, 3) := by decide +kernel
theorem dX4_lay_56 : decode cX4_lay 56 = .ok (.invokevirtual 125, 3) := by decide +kernel
theorem dX4_lay_59 : decode cX4_lay 59 = .ok (.iload_n 2, 1) := by decide +kernel
theorem dX4_lay_60 : decode cX4_lay 60 = .ok (.invokestatic 128, 3) := by decide +kernel
theorem dX4_lay_63 : decode cX4_lay 63 = .ok (.invokestatic 132, 3) := by decide +kernel
theorem dX4_lay_66 : decode cX4_lay 66 = .ok (.istore_n 3, 1) := by decide +kernel
theorem dX4_lay_67 : decode cX4_lay 67 = .ok (.iload_n 3, 1) := by decide +kernel
theorem dX4_lay_68 : decode cX4_lay 68 = .ok (.aload_n 0, 1) := by decide +kernel
theorem dX4_lay_69 : decode cX4_lay 69 = .ok (.getfield 19, 3) := by decide +kernel
theorem dX4_lay_72 : decode cX4_lay 72 = .ok (.getfield 82, 3) := by decide +kernel
theorem dX4_lay_75 : decode cX4_lay 75 = .ok (.if_icmp .lt 6, 3) := by decide +kernel
theorem dX4_lay_78 : decode cX4_lay 78 = .ok (.bipush (-4), 2) := by decide +kernel
theorem dX4_lay_80 : decode cX4_lay 80 = .ok (.ireturn, 1) := by decide +kernel
theorem dX4_lay_81 : decode cX4_lay 81 = .ok (.aload_n 0, 1) := by decide +kernel
theorem dX4_lay_82 : decode cX4_lay 82 = .ok (.getfield 26, 3) := by decide +kernel
theorem dX4_lay_85 : decode cX4_lay 85 = .ok (.aload_n 0, 1) := by decide +kernel
theorem dX4_lay_86 : decode cX4_lay 86 = .ok (.getfield 26, 3) := by decide +kernel
theorem dX4_lay_89 : decode cX4_lay 89 = .ok (.invokevirtual 125, 3) := by decide +kernel
theorem dX4_lay_92 : decode cX4_lay 92 = .ok (.iload_n 1, 1) := by decide +kernel
theorem dX4_lay_93 : decode cX4_lay 93 = .ok (.iload_n 2, 1) := by decide +kernel
theorem dX4_lay_94 : decode cX4_lay 94 = .ok (.invokestatic 137, 3) := by decide +kernel
theorem dX4_lay_97 : decode cX4_lay 97 = .ok (.invokevirtual 141, 3) := by decide +kernel
theorem dX4_lay_100 : decode cX4_lay 100 = .ok (.iload_n 3, 1) := by decide +kernel
theorem dX4_lay_101 : decode cX4_lay 101 = .ok (.iconst 1, 1) := by decide +kernel
theorem dX4_lay_102 : decode cX4_lay 102 = .ok (.iadd, 1) := by decide +kernel
theorem dX4_lay_103 : decode cX4_lay 103 = .ok (.ireturn, 1) := by decide +kernel
theorem dX4_unlay_0 : decode cX4_unlay 0 = .ok (.aload_n 0, 1) := by decide +kernel
theorem dX4_unlay_1 : decode cX4_unlay 1 = .ok (.getfield 19, 3) := by decide +kernel
theorem dX4_unlay_4 : decode cX4_unlay 4 = .ok (.iload_n 1, 1) := by decide +kernel
theorem dX4_unlay_5 : decode cX4_unlay 5 = .ok (.invokevirtual 91, 3) := by decide +kernel
theorem dX4_unlay_8 : decode cX4_unlay 8 = .ok (.ifCond .ne 5, 3) := by decide +kernel
theorem dX4_unlay_11 : decode cX4_unlay 11 = .ok (.iconst (-1), 1) := by decide +kernel
theorem dX4_unlay_12 : decode cX4_unlay 12 = .ok (.ireturn, 1) := by decide +kernel
theorem dX4_unlay_13 : decode cX4_unlay 13 = .ok (.aload_n 0, 1) := by decide +kernel
theorem dX4_unlay_14 : decode cX4_unlay 14 = .ok (.getfield 26, 3) := by decide +kernel
theorem dX4_unlay_17 : decode cX4_unlay 17 = .ok (.invokevirtual 125, 3) := by decide +kernel
theorem dX4_unlay_20 : decode cX4_unlay 20 = .ok (.iload_n 1, 1) := by decide +kernel
theorem dX4_unlay_21 : decode cX4_unlay 21 = .ok (.invokestatic 145, 3) := by decide +kernel
theorem dX4_unlay_24 : decode cX4_unlay 24 = .ok (.istore_n 2, 1) := by decide +kernel
theorem dX4_unlay_25 : decode cX4_unlay 25 = .ok (.iload_n 2, 1) := by decide +kernel
theorem dX4_unlay_26 : decode cX4_unlay 26 = .ok (.bipush (-9), 2) := by decide +kernel
theorem dX4_unlay_28 : decode cX4_unlay 28 = .ok (.if_icmp .ne 6, 3) := by decide +kernel
theorem dX4_unlay_31 : decode cX4_unlay 31 = .ok (.bipush (-3), 2) := by decide +kernel
theorem dX4_unlay_33 : decode cX4_unlay 33 = .ok (.ireturn, 1) := by decide +kernel
theorem dX4_unlay_34 : decode cX4_unlay 34 = .ok (.aload_n 0, 1) := by decide +kernel
theorem dX4_unlay_35 : decode cX4_unlay 35 = .ok (.getfield 26, 3) := by decide +kernel
theorem dX4_unlay_38 : decode cX4_unlay 38 = .ok (.aload_n 0, 1) := by decide +kernel
theorem dX4_unlay_39 : decode cX4_unlay 39 = .ok (.getfield 26, 3) := by decide +kernel
theorem dX4_unlay_42 : decode cX4_unlay 42 = .ok (.invokevirtual 125, 3) := by decide +kernel
theorem dX4_unlay_45 : decode cX4_unlay 45 = .ok (.iload_n 1, 1) := by decide +kernel
theorem dX4_unlay_46 : decode cX4_unlay 46 = .ok (.iload_n 2, 1) := by decide +kernel
theorem dX4_unlay_47 : decode cX4_unlay 47 = .ok (.invokestatic 148, 3) := by decide +kernel
theorem dX4_unlay_50 : decode cX4_unlay 50 = .ok (.invokevirtual 141, 3) := by decide +kernel
theorem dX4_unlay_53 : decode cX4_unlay 53 = .ok (.aload_n 0, 1) := by decide +kernel
theorem dX4_unlay_54 : decode cX4_unlay 54 = .ok (.getfield 26, 3) := by decide +kernel
theorem dX4_unlay_57 : decode cX4_unlay 57 = .ok (.invokevirtual 125, 3) := by decide +kernel
theorem dX4_unlay_60 : decode cX4_unlay 60 = .ok (.invokestatic 132, 3) := by decide +kernel
theorem dX4_unlay_63 : decode cX4_unlay 63 = .ok (.ireturn, 1) := by decide +kernel
theorem dX4_weighs_0 : decode cX4_weighs 0 = .ok (.aload_n 0, 1) := by decide +kernel
theorem dX4_weighs_1 : decode cX4_weighs 1 = .ok (.getfield 19, 3) := by decide +kernel
theorem dX4_weighs_4 : decode cX4_weighs 4 = .ok (.iload_n 1, 1) := by decide +kernel
theorem dX4_weighs_5 : decode cX4_weighs 5 = .ok (.invokevirtual 118, 3) := by decide +kernel
theorem dX4_weighs_8 : decode cX4_weighs 8 = .ok (.ifCond .ne 5, 3) := by decide +kernel
theorem dX4_weighs_11 : decode cX4_weighs 11 = .ok (.iconst (-1), 1) := by decide +kernel
theorem dX4_weighs_12 : decode cX4_weighs 12 = .ok (.ireturn, 1) := by decide +kernel
theorem dX4_weighs_13 : decode cX4_weighs 13 = .ok (.iload_n 2, 1) := by decide +kernel
theorem dX4_weighs_14 : decode cX4_weighs 14 = .ok (.invokestatic 115, 3) := by decide +kernel
theorem dX4_weighs_17 : decode cX4_weighs 17 = .ok (.ifCond .ne 6, 3) := by decide +kernel
theorem dX4_weighs_20 : decode cX4_weighs 20 = .ok (.bipush (-2), 2) := by decide +kernel
theorem dX4_weighs_22 : decode cX4_weighs 22 = .ok (.ireturn, 1) := by decide +kernel
theorem dX4_weighs_23 : decode cX4_weighs 23 = .ok (.aload_n 0, 1) := by decide +kernel
theorem dX4_weighs_24 : decode cX4_weighs 24 = .ok (.getfield 19, 3) := by decide +kernel
theorem dX4_weighs_27 : decode cX4_weighs 27 = .ok (.aload_n 0, 1) := by decide +kernel
theorem dX4_weighs_28 : decode cX4_weighs 28 = .ok (.getfield 26, 3) := by decide +kernel
theorem dX4_weighs_31 : decode cX4_weighs 31 = .ok (.invokevirtual 125, 3) := by decide +kernel
theorem dX4_weighs_34 : decode cX4_weighs 34 = .ok (.iload_n 1, 1) := by decide +kernel
theorem dX4_weighs_35 : decode cX4_weighs 35 = .ok (.aload_n 0, 1) := by decide +kernel
theorem dX4_weighs_36 : decode cX4_weighs 36 = .ok (.getfield 19, 3) := by decide +kernel
theorem dX4_weighs_39 : decode cX4_weighs 39 = .ok (.getfield 95, 3) := by decide +kernel
theorem dX4_weighs_42 : decode cX4_weighs 42 = .ok (.aload_n 0, 1) := by decide +kernel
theorem dX4_weighs_43 : decode cX4_weighs 43 = .ok (.getfield 26, 3) := by decide +kernel
theorem dX4_weighs_46 : decode cX4_weighs 46 = .ok (.getfield 105, 3) := by decide +kernel
theorem dX4_weighs_49 : decode cX4_weighs 49 = .ok (.iload_n 2, 1) := by decide +kernel
theorem dX4_weighs_50 : decode cX4_weighs 50 = .ok (.invokevirtual 151, 3) := by decide +kernel
theorem dX4_weighs_53 : decode cX4_weighs 53 = .ok (.ireturn, 1) := by decide +kernel
theorem dX4_off_0 : decode cX4_off 0 = .ok (.iload_n 1, 1) := by decide +kernel
theorem dX4_off_1 : decode cX4_off 1 = .ok (.invokestatic 115, 3) := by decide +kernel
theorem dX4_off_4 : decode cX4_off 4 = .ok (.ifCond .ne 6, 3) := by decide +kernel
theorem dX4_off_7 : decode cX4_off 7 = .ok (.bipush (-2), 2) := by decide +kernel
theorem dX4_off_9 : decode cX4_off 9 = .ok (.ireturn, 1) := by decide +kernel
theorem dX4_off_10 : decode cX4_off 10 = .ok (.aload_n 0, 1) := by decide +kernel
theorem dX4_off_11 : decode cX4_off 11 = .ok (.getfield 19, 3) := by decide +kernel
theorem dX4_off_14 : decode cX4_off 14 = .ok (.aload_n 0, 1) := by decide +kernel
theorem dX4_off_15 : decode cX4_off 15 = .ok (.getfield 26, 3) := by decide +kernel
theorem dX4_off_18 : decode cX4_off 18 = .ok (.invokevirtual 125, 3) := by decide +kernel
theorem dX4_off_21 : decode cX4_off 21 = .ok (.aload_n 0, 1) := by decide +kernel
theorem dX4_off_22 : decode cX4_off 22 = .ok (.getfield 19, 3) := by decide +kernel
theorem dX4_off_25 : decode cX4_off 25 = .ok (.getfield 95, 3) := by decide +kernel
theorem dX4_off_28 : decode cX4_off 28 = .ok (.aload_n 0, 1) := by decide +kernel
theorem dX4_off_29 : decode cX4_off 29 = .ok (.getfield 26, 3) := by decide +kernel
theorem dX4_off_32 : decode cX4_off 32 = .ok (.getfield 105, 3) := by decide +kernel
theorem dX4_off_35 : decode cX4_off 35 = .ok (.iload_n 1, 1) := by decide +kernel
theorem dX4_off_36 : decode cX4_off 36 = .ok (.invokevirtual 155, 3) := by decide +kernel
theorem dX4_off_39 : decode cX4_off 39 = .ok (.sipush 10000, 3) := by decide +kernel
theorem dX4_off_42 : decode cX4_off 42 = .ok (.iadd, 1) := by decide +kernel
theorem dX4_off_43 : decode cX4_off 43 = .ok (.ireturn, 1) := by decide +kernel
theorem dX4_leave_0 : decode cX4_leave 0 = .ok (.aload_n 0, 1) := by decide +kernel
theorem dX4_leave_1 : decode cX4_leave 1 = .ok (.getfield 26, 3) := by decide +kernel
theorem dX4_leave_4 : decode cX4_leave 4 = .ok (.invokevirtual 125, 3) := by decide +kernel
theorem dX4_leave_7 : decode cX4_leave 7 = .ok (.istore_n 1, 1) := by decide +kernel
theorem dX4_leave_8 : decode cX4_leave 8 = .ok (.iload_n 1, 1) := by decide +kernel
theorem dX4_leave_9 : decode cX4_leave 9 = .ok (.ifCond .eq 25, 3) := by decide +kernel
theorem dX4_leave_12 : decode cX4_leave 12 = .ok (.aload_n 0, 1) := by decide +kernel
theorem dX4_leave_13 : decode cX4_leave 13 = .ok (.getfield 19, 3) := by decide +kernel
theorem dX4_leave_16 : decode cX4_leave 16 = .ok (.iload_n 1, 1) := by decide +kernel
theorem dX4_leave_17 : decode cX4_leave 17 = .ok (.aload_n 0, 1) := by decide +kernel
theorem dX4_leave_18 : decode cX4_leave 18 = .ok (.getfield 19, 3) := by decide +kernel
theorem dX4_leave_21 : decode cX4_leave 21 = .ok (.getfield 95, 3) := by decide +kernel
theorem dX4_leave_24 : decode cX4_leave 24 = .ok (.aload_n 0, 1) := by decide +kernel
theorem dX4_leave_25 : decode cX4_leave 25 = .ok (.getfield 26, 3) := by decide +kernel
theorem dX4_leave_28 : decode cX4_leave 28 = .ok (.invokevirtual 159, 3) := by decide +kernel
theorem dX4_leave_31 : decode cX4_leave 31 = .ok (.ifCond .ne 6, 3) := by decide +kernel
theorem dX4_leave_34 : decode cX4_leave 34 = .ok (.bipush (-3), 2) := by decide +kernel
theorem dX4_leave_36 : decode cX4_leave 36 = .ok (.ireturn, 1) := by decide +kernel
theorem dX4_leave_37 : decode cX4_leave 37 = .ok (.aload_n 0, 1) := by decide +kernel
theorem dX4_leave_38 : decode cX4_leave 38 = .ok (.getfield 26, 3) := by decide +kernel
theorem dX4_leave_41 : decode cX4_leave 41 = .ok (.getfield 163, 3) := by decide +kernel
theorem dX4_leave_44 : decode cX4_leave 44 = .ok (.bipush 8, 2) := by decide +kernel
theorem dX4_leave_46 : decode cX4_leave 46 = .ok (.if_icmp .lt 6, 3) := by decide +kernel
theorem dX4_leave_49 : decode cX4_leave 49 = .ok (.bipush (-4), 2) := by decide +kernel
theorem dX4_leave_51 : decode cX4_leave 51 = .ok (.ireturn, 1) := by decide +kernel
theorem dX4_leave_52 : decode cX4_leave 52 = .ok (.aload_n 0, 1) := by decide +kernel
theorem dX4_leave_53 : decode cX4_leave 53 = .ok (.getfield 26, 3) := by decide +kernel
theorem dX4_leave_56 : decode cX4_leave 56 = .ok (.invokevirtual 166, 3) := by decide +kernel
theorem dX4_leave_59 : decode cX4_leave 59 = .ok (.aload_n 0, 1) := by decide +kernel
theorem dX4_leave_60 : decode cX4_leave 60 = .ok (.getfield 39, 3) := by decide +kernel
theorem dX4_leave_63 : decode cX4_leave 63 = .ok (.invokevirtual 67, 3) := by decide +kernel
theorem dX4_leave_66 : decode cX4_leave 66 = .ok (.aload_n 0, 1) := by decide +kernel
theorem dX4_leave_67 : decode cX4_leave 67 = .ok (.getfield 19, 3) := by decide +kernel
theorem dX4_leave_70 : decode cX4_leave 70 = .ok (.iload_n 1, 1) := by decide +kernel
theorem dX4_leave_71 : decode cX4_leave 71 = .ok (.invokestatic 169, 3) := by decide +kernel
theorem dX4_leave_74 : decode cX4_leave 74 = .ok (.invokevirtual 172, 3) := by decide +kernel
theorem dX4_leave_77 : decode cX4_leave 77 = .ok (.ireturn, 1) := by decide +kernel
theorem dX4_back_0 : decode cX4_back 0 = .ok (.aload_n 0, 1) := by decide +kernel
theorem dX4_back_1 : decode cX4_back 1 = .ok (.getfield 26, 3) := by decide +kernel
theorem dX4_back_4 : decode cX4_back 4 = .ok (.getfield 163, 3) := by decide +kernel
theorem dX4_back_7 : decode cX4_back 7 = .ok (.iconst 1, 1) := by decide +kernel
theorem dX4_back_8 : decode cX4_back 8 = .ok (.if_icmp .ge 6, 3) := by decide +kernel
theorem dX4_back_11 : decode cX4_back 11 = .ok (.bipush (-3), 2) := by decide +kernel
theorem dX4_back_13 : decode cX4_back 13 = .ok (.ireturn, 1) := by decide +kernel
theorem dX4_back_14 : decode cX4_back 14 = .ok (.aload_n 0, 1) := by decide +kernel
theorem dX4_back_15 : decode cX4_back 15 = .ok (.getfield 26, 3) := by decide +kernel
theorem dX4_back_18 : decode cX4_back 18 = .ok (.invokevirtual 175, 3) := by decide +kernel
theorem dX4_back_21 : decode cX4_back 21 = .ok (.aload_n 0, 1) := by decide +kernel
theorem dX4_back_22 : decode cX4_back 22 = .ok (.getfield 39, 3) := by decide +kernel
theorem dX4_back_25 : decode cX4_back 25 = .ok (.invokevirtual 67, 3) := by decide +kernel
theorem dX4_back_28 : decode cX4_back 28 = .ok (.aload_n 0, 1) := by decide +kernel
theorem dX4_back_29 : decode cX4_back 29 = .ok (.getfield 26, 3) := by decide +kernel
theorem dX4_back_32 : decode cX4_back 32 = .ok (.getfield 163, 3) := by decide +kernel
theorem dX4_back_35 : decode cX4_back 35 = .ok (.ireturn, 1) := by decide +kernel
theorem dX4_left_0 : decode cX4_left 0 = .ok (.iload_n 1, 1) := by decide +kernel
theorem dX4_left_1 : decode cX4_left 1 = .ok (.ifCond .lt 25, 3) := by decide +kernel
theorem dX4_left_4 : decode cX4_left 4 = .ok (.iload_n 1, 1) := by decide +kernel
theorem dX4_left_5 : decode cX4_left 5 = .ok (.aload_n 0, 1) := by decide +kernel
theorem dX4_left_6 : decode cX4_left 6 = .ok (.getfield 26, 3) := by decide +kernel
theorem dX4_left_9 : decode cX4_left 9 = .ok (.getfield 163, 3) := by decide +kernel
theorem dX4_left_12 : decode cX4_left 12 = .ok (.if_icmp .ge 14, 3) := by decide +kernel
theorem dX4_left_15 : decode cX4_left 15 = .ok (.aload_n 0, 1) := by decide +kernel
theorem dX4_left_16 : decode cX4_left 16 = .ok (.getfield 19, 3) := by decide +kernel
theorem dX4_left_19 : decode cX4_left 19 = .ok (.iload_n 2, 1) := by decide +kernel
theorem dX4_left_20 : decode cX4_left 20 = .ok (.invokevirtual 118, 3) := by decide +kernel
theorem dX4_left_23 : decode cX4_left 23 = .ok (.ifCond .ne 5, 3) := by decide +kernel
theorem dX4_left_26 : decode cX4_left 26 = .ok (.iconst (-1), 1) := by decide +kernel
theorem dX4_left_27 : decode cX4_left 27 = .ok (.ireturn, 1) := by decide +kernel
theorem dX4_left_28 : decode cX4_left 28 = .ok (.aload_n 0, 1) := by decide +kernel
theorem dX4_left_29 : decode cX4_left 29 = .ok (.getfield 26, 3) := by decide +kernel
theorem dX4_left_32 : decode cX4_left 32 = .ok (.iload_n 1, 1) := by decide +kernel
theorem dX4_left_33 : decode cX4_left 33 = .ok (.invokevirtual 178, 3) := by decide +kernel
theorem dX4_left_36 : decode cX4_left 36 = .ok (.iload_n 2, 1) := by decide +kernel
theorem dX4_left_37 : decode cX4_left 37 = .ok (.invokestatic 128, 3) := by decide +kernel
theorem dX4_left_40 : decode cX4_left 40 = .ok (.ireturn, 1) := by decide +kernel
theorem dX4_best_0 : decode cX4_best 0 = .ok (.aload_n 0, 1) := by decide +kernel
theorem dX4_best_1 : decode cX4_best 1 = .ok (.getfield 39, 3) := by decide +kernel
theorem dX4_best_4 : decode cX4_best 4 = .ok (.aload_n 0, 1) := by decide +kernel
theorem dX4_best_5 : decode cX4_best 5 = .ok (.getfield 19, 3) := by decide +kernel
theorem dX4_best_8 : decode cX4_best 8 = .ok (.aload_n 0, 1) := by decide +kernel
theorem dX4_best_9 : decode cX4_best 9 = .ok (.getfield 26, 3) := by decide +kernel
theorem dX4_best_12 : decode cX4_best 12 = .ok (.invokevirtual 181, 3) := by decide +kernel
theorem dX4_best_15 : decode cX4_best 15 = .ok (.aload_n 0, 1) := by decide +kernel
theorem dX4_best_16 : decode cX4_best 16 = .ok (.getfield 39, 3) := by decide +kernel
theorem dX4_best_19 : decode cX4_best 19 = .ok (.invokevirtual 185, 3) := by decide +kernel
theorem dX4_best_22 : decode cX4_best 22 = .ok (.ifCond .eq 13, 3) := by decide +kernel
theorem dX4_best_25 : decode cX4_best 25 = .ok (.aload_n 0, 1) := by decide +kernel
theorem dX4_best_26 : decode cX4_best 26 = .ok (.getfield 39, 3) := by decide +kernel
theorem dX4_best_29 : decode cX4_best 29 = .ok (.invokevirtual 189, 3) := by decide +kernel
theorem dX4_best_32 : decode cX4_best 32 = .ok (.goto 5, 3) := by decide +kernel
theorem dX4_best_35 : decode cX4_best 35 = .ok (.bipush (-9), 2) := by decide +kernel
theorem dX4_best_37 : decode cX4_best 37 = .ok (.ireturn, 1) := by decide +kernel
theorem dX4_bestAt_0 : decode cX4_bestAt 0 = .ok (.aload_n 0, 1) := by decide +kernel
theorem dX4_bestAt_1 : decode cX4_bestAt 1 = .ok (.getfield 19, 3) := by decide +kernel
theorem dX4_bestAt_4 : decode cX4_bestAt 4 = .ok (.iload_n 1, 1) := by decide +kernel
theorem dX4_bestAt_5 : decode cX4_bestAt 5 = .ok (.invokevirtual 91, 3) := by decide +kernel
theorem dX4_bestAt_8 : decode cX4_bestAt 8 = .ok (.ifCond .ne 5, 3) := by decide +kernel
theorem dX4_bestAt_11 : decode cX4_bestAt 11 = .ok (.iconst (-1), 1) := by decide +kernel
theorem dX4_bestAt_12 : decode cX4_bestAt 12 = .ok (.ireturn, 1) := by decide +kernel
theorem dX4_bestAt_13 : decode cX4_bestAt 13 = .ok (.aload_n 0, 1) := by decide +kernel
theorem dX4_bestAt_14 : decode cX4_bestAt 14 = .ok (.getfield 39, 3) := by decide +kernel
theorem dX4_bestAt_17 : decode cX4_bestAt 17 = .ok (.aload_n 0, 1) := by decide +kernel
theorem dX4_bestAt_18 : decode cX4_bestAt 18 = .ok (.getfield 19, 3) := by decide +kernel
theorem dX4_bestAt_21 : decode cX4_bestAt 21 = .ok (.aload_n 0, 1) := by decide +kernel
theorem dX4_bestAt_22 : decode cX4_bestAt 22 = .ok (.getfield 26, 3) := by decide +kernel
theorem dX4_bestAt_25 : decode cX4_bestAt 25 = .ok (.invokevirtual 181, 3) := by decide +kernel
theorem dX4_bestAt_28 : decode cX4_bestAt 28 = .ok (.aload_n 0, 1) := by decide +kernel
theorem dX4_bestAt_29 : decode cX4_bestAt 29 = .ok (.getfield 39, 3) := by decide +kernel
theorem dX4_bestAt_32 : decode cX4_bestAt 32 = .ok (.getfield 192, 3) := by decide +kernel
theorem dX4_bestAt_35 : decode cX4_bestAt 35 = .ok (.iload_n 1, 1) := by decide +kernel
theorem dX4_bestAt_36 : decode cX4_bestAt 36 = .ok (.invokestatic 145, 3) := by decide +kernel
theorem dX4_bestAt_39 : decode cX4_bestAt 39 = .ok (.ireturn, 1) := by decide +kernel
theorem dX4_worth_0 : decode cX4_worth 0 = .ok (.aload_n 0, 1) := by decide +kernel
theorem dX4_worth_1 : decode cX4_worth 1 = .ok (.getfield 19, 3) := by decide +kernel
theorem dX4_worth_4 : decode cX4_worth 4 = .ok (.iload_n 1, 1) := by decide +kernel
theorem dX4_worth_5 : decode cX4_worth 5 = .ok (.invokevirtual 91, 3) := by decide +kernel
theorem dX4_worth_8 : decode cX4_worth 8 = .ok (.ifCond .ne 5, 3) := by decide +kernel
theorem dX4_worth_11 : decode cX4_worth 11 = .ok (.iconst (-1), 1) := by decide +kernel
theorem dX4_worth_12 : decode cX4_worth 12 = .ok (.ireturn, 1) := by decide +kernel
theorem dX4_worth_13 : decode cX4_worth 13 = .ok (.aload_n 0, 1) := by decide +kernel
theorem dX4_worth_14 : decode cX4_worth 14 = .ok (.getfield 26, 3) := by decide +kernel
theorem dX4_worth_17 : decode cX4_worth 17 = .ok (.iload_n 1, 1) := by decide +kernel
theorem dX4_worth_18 : decode cX4_worth 18 = .ok (.invokevirtual 111, 3) := by decide +kernel
theorem dX4_worth_21 : decode cX4_worth 21 = .ok (.bipush 20, 2) := by decide +kernel
theorem dX4_worth_23 : decode cX4_worth 23 = .ok (.if_icmp .ne 6, 3) := by decide +kernel
theorem dX4_worth_26 : decode cX4_worth 26 = .ok (.bipush (-3), 2) := by decide +kernel
theorem dX4_worth_28 : decode cX4_worth 28 = .ok (.ireturn, 1) := by decide +kernel
theorem dX4_worth_29 : decode cX4_worth 29 = .ok (.aload_n 0, 1) := by decide +kernel
theorem dX4_worth_30 : decode cX4_worth 30 = .ok (.getfield 39, 3) := by decide +kernel
theorem dX4_worth_33 : decode cX4_worth 33 = .ok (.aload_n 0, 1) := by decide +kernel
theorem dX4_worth_34 : decode cX4_worth 34 = .ok (.getfield 19, 3) := by decide +kernel
theorem dX4_worth_37 : decode cX4_worth 37 = .ok (.aload_n 0, 1) := by decide +kernel
theorem dX4_worth_38 : decode cX4_worth 38 = .ok (.getfield 26, 3) := by decide +kernel
theorem dX4_worth_41 : decode cX4_worth 41 = .ok (.invokevirtual 181, 3) := by decide +kernel
theorem dX4_worth_44 : decode cX4_worth 44 = .ok (.aload_n 0, 1) := by decide +kernel
theorem dX4_worth_45 : decode cX4_worth 45 = .ok (.getfield 39, 3) := by decide +kernel
theorem dX4_worth_48 : decode cX4_worth 48 = .ok (.invokevirtual 189, 3) := by decide +kernel
theorem dX4_worth_51 : decode cX4_worth 51 = .ok (.aload_n 0, 1) := by decide +kernel
theorem dX4_worth_52 : decode cX4_worth 52 = .ok (.getfield 39, 3) := by decide +kernel
theorem dX4_worth_55 : decode cX4_worth 55 = .ok (.iload_n 1, 1) := by decide +kernel
theorem dX4_worth_56 : decode cX4_worth 56 = .ok (.invokevirtual 195, 3) := by decide +kernel
theorem dX4_worth_59 : decode cX4_worth 59 = .ok (.isub, 1) := by decide +kernel
theorem dX4_worth_60 : decode cX4_worth 60 = .ok (.ireturn, 1) := by decide +kernel
theorem dX4_makes_0 : decode cX4_makes 0 = .ok (.iload_n 1, 1) := by decide +kernel
theorem dX4_makes_1 : decode cX4_makes 1 = .ok (.iconst 1, 1) := by decide +kernel
theorem dX4_makes_2 : decode cX4_makes 2 = .ok (.if_icmp .lt 9, 3) := by decide +kernel
theorem dX4_makes_5 : decode cX4_makes 5 = .ok (.iload_n 1, 1) := by decide +kernel
theorem dX4_makes_6 : decode cX4_makes 6 = .ok (.bipush 99, 2) := by decide +kernel
theorem dX4_makes_8 : decode cX4_makes 8 = .ok (.if_icmp .le 6, 3) := by decide +kernel
theorem dX4_makes_11 : decode cX4_makes 11 = .ok (.bipush (-2), 2) := by decide +kernel
theorem dX4_makes_13 : decode cX4_makes 13 = .ok (.ireturn, 1) := by decide +kernel
theorem dX4_makes_14 : decode cX4_makes 14 = .ok (.aload_n 0, 1) := by decide +kernel
theorem dX4_makes_15 : decode cX4_makes 15 = .ok (.getfield 39, 3) := by decide +kernel
theorem dX4_makes_18 : decode cX4_makes 18 = .ok (.aload_n 0, 1) := by decide +kernel
theorem dX4_makes_19 : decode cX4_makes 19 = .ok (.getfield 19, 3) := by decide +kernel
theorem dX4_makes_22 : decode cX4_makes 22 = .ok (.aload_n 0, 1) := by decide +kernel
theorem dX4_makes_23 : decode cX4_makes 23 = .ok (.getfield 26, 3) := by decide +kernel
theorem dX4_makes_26 : decode cX4_makes 26 = .ok (.invokevirtual 181, 3) := by decide +kernel
theorem dX4_makes_29 : decode cX4_makes 29 = .ok (.aload_n 0, 1) := by decide +kernel
theorem dX4_makes_30 : decode cX4_makes 30 = .ok (.getfield 39, 3) := by decide +kernel
theorem dX4_makes_33 : decode cX4_makes 33 = .ok (.invokevirtual 198, 3) := by decide +kernel
theorem dX4_makes_36 : decode cX4_makes 36 = .ok (.aload_n 0, 1) := by decide +kernel
theorem dX4_makes_37 : decode cX4_makes 37 = .ok (.getfield 39, 3) := by decide +kernel
theorem dX4_makes_40 : decode cX4_makes 40 = .ok (.iload_n 1, 1) := by decide +kernel
theorem dX4_makes_41 : decode cX4_makes 41 = .ok (.invokevirtual 201, 3) := by decide +kernel
theorem dX4_makes_44 : decode cX4_makes 44 = .ok (.ireturn, 1) := by decide +kernel
theorem dX4_bestMakes_0 : decode cX4_bestMakes 0 = .ok (.aload_n 0, 1) := by decide +kernel
theorem dX4_bestMakes_1 : decode cX4_bestMakes 1 = .ok (.getfield 39, 3) := by decide +kernel
theorem dX4_bestMakes_4 : decode cX4_bestMakes 4 = .ok (.aload_n 0, 1) := by decide +kernel
theorem dX4_bestMakes_5 : decode cX4_bestMakes 5 = .ok (.getfield 19, 3) := by decide +kernel
theorem dX4_bestMakes_8 : decode cX4_bestMakes 8 = .ok (.aload_n 0, 1) := by decide +kernel
theorem dX4_bestMakes_9 : decode cX4_bestMakes 9 = .ok (.getfield 26, 3) := by decide +kernel
theorem dX4_bestMakes_12 : decode cX4_bestMakes 12 = .ok (.invokevirtual 181, 3) := by decide +kernel
theorem dX4_bestMakes_15 : decode cX4_bestMakes 15 = .ok (.aload_n 0, 1) := by decide +kernel
theorem dX4_bestMakes_16 : decode cX4_bestMakes 16 = .ok (.getfield 39, 3) := by decide +kernel
theorem dX4_bestMakes_19 : decode cX4_bestMakes 19 = .ok (.invokevirtual 198, 3) := by decide +kernel
theorem dX4_bestMakes_22 : decode cX4_bestMakes 22 = .ok (.aload_n 0, 1) := by decide +kernel
theorem dX4_bestMakes_23 : decode cX4_bestMakes 23 = .ok (.getfield 39, 3) := by decide +kernel
theorem dX4_bestMakes_26 : decode cX4_bestMakes 26 = .ok (.invokevirtual 204, 3) := by decide +kernel
theorem dX4_bestMakes_29 : decode cX4_bestMakes 29 = .ok (.ireturn, 1) := by decide +kernel
theorem dX4_sets_0 : decode cX4_sets 0 = .ok (.aload_n 0, 1) := by decide +kernel
theorem dX4_sets_1 : decode cX4_sets 1 = .ok (.getfield 39, 3) := by decide +kernel
theorem dX4_sets_4 : decode cX4_sets 4 = .ok (.aload_n 0, 1) := by decide +kernel
theorem dX4_sets_5 : decode cX4_sets 5 = .ok (.getfield 19, 3) := by decide +kernel
theorem dX4_sets_8 : decode cX4_sets 8 = .ok (.aload_n 0, 1) := by decide +kernel
theorem dX4_sets_9 : decode cX4_sets 9 = .ok (.getfield 26, 3) := by decide +kernel
theorem dX4_sets_12 : decode cX4_sets 12 = .ok (.invokevirtual 181, 3) := by decide +kernel
theorem dX4_sets_15 : decode cX4_sets 15 = .ok (.aload_n 0, 1) := by decide +kernel
theorem dX4_sets_16 : decode cX4_sets 16 = .ok (.getfield 39, 3) := by decide +kernel
theorem dX4_sets_19 : decode cX4_sets 19 = .ok (.invokevirtual 207, 3) := by decide +kernel
theorem dX4_sets_22 : decode cX4_sets 22 = .ok (.ireturn, 1) := by decide +kernel
theorem dX4_crossings_0 : decode cX4_crossings 0 = .ok (.iload_n 1, 1) := by decide +kernel
theorem dX4_crossings_1 : decode cX4_crossings 1 = .ok (.iconst 1, 1) := by decide +kernel
theorem dX4_crossings_2 : decode cX4_crossings 2 = .ok (.if_icmp .lt 8, 3) := by decide +kernel
theorem dX4_crossings_5 : decode cX4_crossings 5 = .ok (.iload_n 1, 1) := by decide +kernel
theorem dX4_crossings_6 : decode cX4_crossings 6 = .ok (.iconst 4, 1) := by decide +kernel
theorem dX4_crossings_7 : decode cX4_crossings 7 = .ok (.if_icmp .le 6, 3) := by decide +kernel
theorem dX4_crossings_10 : decode cX4_crossings 10 = .ok (.bipush (-2), 2) := by decide +kernel
theorem dX4_crossings_12 : decode cX4_crossings 12 = .ok (.ireturn, 1) := by decide +kernel
theorem dX4_crossings_13 : decode cX4_crossings 13 = .ok (.aload_n 0, 1) := by decide +kernel
theorem dX4_crossings_14 : decode cX4_crossings 14 = .ok (.getfield 39, 3) := by decide +kernel
theorem dX4_crossings_17 : decode cX4_crossings 17 = .ok (.aload_n 0, 1) := by decide +kernel
theorem dX4_crossings_18 : decode cX4_crossings 18 = .ok (.getfield 19, 3) := by decide +kernel
theorem dX4_crossings_21 : decode cX4_crossings 21 = .ok (.aload_n 0, 1) := by decide +kernel
theorem dX4_crossings_22 : decode cX4_crossings 22 = .ok (.getfield 26, 3) := by decide +kernel
theorem dX4_crossings_25 : decode cX4_crossings 25 = .ok (.invokevirtual 181, 3) := by decide +kernel
theorem dX4_crossings_28 : decode cX4_crossings 28 = .ok (.aload_n 0, 1) := by decide +kernel
theorem dX4_crossings_29 : decode cX4_crossings 29 = .ok (.getfield 39, 3) := by decide +kernel
theorem dX4_crossings_32 : decode cX4_crossings 32 = .ok (.invokevirtual 210, 3) := by decide +kernel
theorem dX4_crossings_35 : decode cX4_crossings 35 = .ok (.aload_n 0, 1) := by decide +kernel
theorem dX4_crossings_36 : decode cX4_crossings 36 = .ok (.getfield 39, 3) := by decide +kernel
theorem dX4_crossings_39 : decode cX4_crossings 39 = .ok (.iload_n 1, 1) := by decide +kernel
theorem dX4_crossings_40 : decode cX4_crossings 40 = .ok (.invokevirtual 213, 3) := by decide +kernel
theorem dX4_crossings_43 : decode cX4_crossings 43 = .ok (.ireturn, 1) := by decide +kernel
theorem dX4_all_0 : decode cX4_all 0 = .ok (.aload_n 0, 1) := by decide +kernel
theorem dX4_all_1 : decode cX4_all 1 = .ok (.getfield 39, 3) := by decide +kernel
theorem dX4_all_4 : decode cX4_all 4 = .ok (.aload_n 0, 1) := by decide +kernel
theorem dX4_all_5 : decode cX4_all 5 = .ok (.getfield 19, 3) := by decide +kernel
theorem dX4_all_8 : decode cX4_all 8 = .ok (.aload_n 0, 1) := by decide +kernel
theorem dX4_all_9 : decode cX4_all 9 = .ok (.getfield 26, 3) := by decide +kernel
theorem dX4_all_12 : decode cX4_all 12 = .ok (.invokevirtual 181, 3) := by decide +kernel
theorem dX4_all_15 : decode cX4_all 15 = .ok (.aload_n 0, 1) := by decide +kernel
theorem dX4_all_16 : decode cX4_all 16 = .ok (.getfield 39, 3) := by decide +kernel
theorem dX4_all_19 : decode cX4_all 19 = .ok (.invokevirtual 210, 3) := by decide +kernel
theorem dX4_all_22 : decode cX4_all 22 = .ok (.aload_n 0, 1) := by decide +kernel
theorem dX4_all_23 : decode cX4_all 23 = .ok (.getfield 39, 3) := by decide +kernel
theorem dX4_all_26 : decode cX4_all 26 = .ok (.invokevirtual 216, 3) := by decide +kernel
theorem dX4_all_29 : decode cX4_all 29 = .ok (.ireturn, 1) := by decide +kernel
theorem dX4_rule_0 : decode cX4_rule 0 = .ok (.aload_n 0, 1) := by decide +kernel
theorem dX4_rule_1 : decode cX4_rule 1 = .ok (.invokevirtual 219, 3) := by decide +kernel
theorem dX4_rule_4 : decode cX4_rule 4 = .ok (.istore_n 1, 1) := by decide +kernel
theorem dX4_rule_5 : decode cX4_rule 5 = .ok (.aload_n 0, 1) := by decide +kernel
theorem dX4_rule_6 : decode cX4_rule 6 = .ok (.getfield 19, 3) := by decide +kernel
theorem dX4_rule_9 : decode cX4_rule 9 = .ok (.iload_n 1, 1) := by decide +kernel
theorem dX4_rule_10 : decode cX4_rule 10 = .ok (.aload_n 0, 1) := by decide +kernel
theorem dX4_rule_11 : decode cX4_rule 11 = .ok (.getfield 19, 3) := by decide +kernel
theorem dX4_rule_14 : decode cX4_rule 14 = .ok (.getfield 95, 3) := by decide +kernel
theorem dX4_rule_17 : decode cX4_rule 17 = .ok (.aload_n 0, 1) := by decide +kernel
theorem dX4_rule_18 : decode cX4_rule 18 = .ok (.getfield 26, 3) := by decide +kernel
theorem dX4_rule_21 : decode cX4_rule 21 = .ok (.invokevirtual 159, 3) := by decide +kernel
theorem dX4_rule_24 : decode cX4_rule 24 = .ok (.ifCond .eq 17, 3) := by decide +kernel
theorem dX4_rule_27 : decode cX4_rule 27 = .ok (.aload_n 0, 1) := by decide +kernel
theorem dX4_rule_28 : decode cX4_rule 28 = .ok (.getfield 19, 3) := by decide +kernel
theorem dX4_rule_31 : decode cX4_rule 31 = .ok (.iload_n 1, 1) := by decide +kernel
theorem dX4_rule_32 : decode cX4_rule 32 = .ok (.invokestatic 169, 3) := by decide +kernel
theorem dX4_rule_35 : decode cX4_rule 35 = .ok (.invokevirtual 172, 3) := by decide +kernel
theorem dX4_rule_38 : decode cX4_rule 38 = .ok (.goto 4, 3) := by decide +kernel
theorem dX4_rule_41 : decode cX4_rule 41 = .ok (.iconst 0, 1) := by decide +kernel
theorem dX4_rule_42 : decode cX4_rule 42 = .ok (.ireturn, 1) := by decide +kernel
theorem dX4_ruleAt_0 : decode cX4_ruleAt 0 = .ok (.aload_n 0, 1) := by decide +kernel
theorem dX4_ruleAt_1 : decode cX4_ruleAt 1 = .ok (.getfield 19, 3) := by decide +kernel
theorem dX4_ruleAt_4 : decode cX4_ruleAt 4 = .ok (.iload_n 1, 1) := by decide +kernel
theorem dX4_ruleAt_5 : decode cX4_ruleAt 5 = .ok (.invokevirtual 91, 3) := by decide +kernel
theorem dX4_ruleAt_8 : decode cX4_ruleAt 8 = .ok (.ifCond .ne 5, 3) := by decide +kernel
theorem dX4_ruleAt_11 : decode cX4_ruleAt 11 = .ok (.iconst (-1), 1) := by decide +kernel
theorem dX4_ruleAt_12 : decode cX4_ruleAt 12 = .ok (.ireturn, 1) := by decide +kernel
theorem dX4_ruleAt_13 : decode cX4_ruleAt 13 = .ok (.aload_n 0, 1) := by decide +kernel
theorem dX4_ruleAt_14 : decode cX4_ruleAt 14 = .ok (.invokevirtual 219, 3) := by decide +kernel
theorem dX4_ruleAt_17 : decode cX4_ruleAt 17 = .ok (.iload_n 1, 1) := by decide +kernel
theorem dX4_ruleAt_18 : decode cX4_ruleAt 18 = .ok (.invokestatic 145, 3) := by decide +kernel
theorem dX4_ruleAt_21 : decode cX4_ruleAt 21 = .ok (.ireturn, 1) := by decide +kernel
theorem dX4_claim_0 : decode cX4_claim 0 = .ok (.aload_n 0, 1) := by decide +kernel
theorem dX4_claim_1 : decode cX4_claim 1 = .ok (.getfield 19, 3) := by decide +kernel
theorem dX4_claim_4 : decode cX4_claim 4 = .ok (.iload_n 1, 1) := by decide +kernel
theorem dX4_claim_5 : decode cX4_claim 5 = .ok (.invokevirtual 91, 3) := by decide +kernel
theorem dX4_claim_8 : decode cX4_claim 8 = .ok (.ifCond .ne 5, 3) := by decide +kernel
theorem dX4_claim_11 : decode cX4_claim 11 = .ok (.iconst (-1), 1) := by decide +kernel
theorem dX4_claim_12 : decode cX4_claim 12 = .ok (.ireturn, 1) := by decide +kernel
theorem dX4_claim_13 : decode cX4_claim 13 = .ok (.iload_n 2, 1) := by decide +kernel
theorem dX4_claim_14 : decode cX4_claim 14 = .ok (.iconst 1, 1) := by decide +kernel
theorem dX4_claim_15 : decode cX4_claim 15 = .ok (.if_icmp .lt 9, 3) := by decide +kernel
theorem dX4_claim_18 : decode cX4_claim 18 = .ok (.iload_n 2, 1) := by decide +kernel
theorem dX4_claim_19 : decode cX4_claim 19 = .ok (.bipush 99, 2) := by decide +kernel
theorem dX4_claim_21 : decode cX4_claim 21 = .ok (.if_icmp .le 6, 3) := by decide +kernel
theorem dX4_claim_24 : decode cX4_claim 24 = .ok (.bipush (-2), 2) := by decide +kernel
theorem dX4_claim_26 : decode cX4_claim 26 = .ok (.ireturn, 1) := by decide +kernel
theorem dX4_claim_27 : decode cX4_claim 27 = .ok (.aload_n 0, 1) := by decide +kernel
theorem dX4_claim_28 : decode cX4_claim 28 = .ok (.getfield 26, 3) := by decide +kernel
theorem dX4_claim_31 : decode cX4_claim 31 = .ok (.getfield 108, 3) := by decide +kernel
theorem dX4_claim_34 : decode cX4_claim 34 = .ok (.iload_n 1, 1) := by decide +kernel
theorem dX4_claim_35 : decode cX4_claim 35 = .ok (.iaload, 1) := by decide +kernel
theorem dX4_claim_36 : decode cX4_claim 36 = .ok (.istore_n 3, 1) := by decide +kernel
theorem dX4_claim_37 : decode cX4_claim 37 = .ok (.aload_n 0, 1) := by decide +kernel
theorem dX4_claim_38 : decode cX4_claim 38 = .ok (.getfield 26, 3) := by decide +kernel
theorem dX4_claim_41 : decode cX4_claim 41 = .ok (.getfield 108, 3) := by decide +kernel
theorem dX4_claim_44 : decode cX4_claim 44 = .ok (.iload_n 1, 1) := by decide +kernel
theorem dX4_claim_45 : decode cX4_claim 45 = .ok (.iload_n 2, 1) := by decide +kernel
theorem dX4_claim_46 : decode cX4_claim 46 = .ok (.iastore, 1) := by decide +kernel
theorem dX4_claim_47 : decode cX4_claim 47 = .ok (.iload_n 3, 1) := by decide +kernel
theorem dX4_claim_48 : decode cX4_claim 48 = .ok (.ireturn, 1) := by decide +kernel
theorem dX4_fits_0 : decode cX4_fits 0 = .ok (.aload_n 0, 1) := by decide +kernel
theorem dX4_fits_1 : decode cX4_fits 1 = .ok (.bipush (-9), 2) := by decide +kernel
theorem dX4_fits_3 : decode cX4_fits 3 = .ok (.invokevirtual 222, 3) := by decide +kernel
theorem dX4_fits_6 : decode cX4_fits 6 = .ok (.ifCond .eq 7, 3) := by decide +kernel
theorem dX4_fits_9 : decode cX4_fits 9 = .ok (.iconst 1, 1) := by decide +kernel
theorem dX4_fits_10 : decode cX4_fits 10 = .ok (.goto 4, 3) := by decide +kernel
theorem dX4_fits_13 : decode cX4_fits 13 = .ok (.iconst 0, 1) := by decide +kernel
theorem dX4_fits_14 : decode cX4_fits 14 = .ok (.ireturn, 1) := by decide +kernel
theorem dX4_liars_0 : decode cX4_liars 0 = .ok (.aload_n 0, 1) := by decide +kernel
theorem dX4_liars_1 : decode cX4_liars 1 = .ok (.bipush (-9), 2) := by decide +kernel
theorem dX4_liars_3 : decode cX4_liars 3 = .ok (.invokevirtual 222, 3) := by decide +kernel
theorem dX4_liars_6 : decode cX4_liars 6 = .ok (.ifCond .eq 5, 3) := by decide +kernel
theorem dX4_liars_9 : decode cX4_liars 9 = .ok (.iconst 0, 1) := by decide +kernel
theorem dX4_liars_10 : decode cX4_liars 10 = .ok (.ireturn, 1) := by decide +kernel
theorem dX4_liars_11 : decode cX4_liars 11 = .ok (.iconst 0, 1) := by decide +kernel
theorem dX4_liars_12 : decode cX4_liars 12 = .ok (.istore_n 1, 1) := by decide +kernel
theorem dX4_liars_13 : decode cX4_liars 13 = .ok (.iconst 0, 1) := by decide +kernel
theorem dX4_liars_14 : decode cX4_liars 14 = .ok (.istore_n 2, 1) := by decide +kernel
theorem dX4_liars_15 : decode cX4_liars 15 = .ok (.iload_n 2, 1) := by decide +kernel
theorem dX4_liars_16 : decode cX4_liars 16 = .ok (.aload_n 0, 1) := by decide +kernel
theorem dX4_liars_17 : decode cX4_liars 17 = .ok (.getfield 19, 3) := by decide +kernel
theorem dX4_liars_20 : decode cX4_liars 20 = .ok (.getfield 70, 3) := by decide +kernel
theorem dX4_liars_23 : decode cX4_liars 23 = .ok (.if_icmp .ge 23, 3) := by decide +kernel
theorem dX4_liars_26 : decode cX4_liars 26 = .ok (.aload_n 0, 1) := by decide +kernel
theorem dX4_liars_27 : decode cX4_liars 27 = .ok (.iload_n 2, 1) := by decide +kernel
theorem dX4_liars_28 : decode cX4_liars 28 = .ok (.invokevirtual 225, 3) := by decide +kernel
theorem dX4_liars_31 : decode cX4_liars 31 = .ok (.ifCond .le 9, 3) := by decide +kernel
theorem dX4_liars_34 : decode cX4_liars 34 = .ok (.iload_n 1, 1) := by decide +kernel
theorem dX4_liars_35 : decode cX4_liars 35 = .ok (.iconst 1, 1) := by decide +kernel
theorem dX4_liars_36 : decode cX4_liars 36 = .ok (.iload_n 2, 1) := by decide +kernel
theorem dX4_liars_37 : decode cX4_liars 37 = .ok (.ishl, 1) := by decide +kernel
theorem dX4_liars_38 : decode cX4_liars 38 = .ok (.ior, 1) := by decide +kernel
theorem dX4_liars_39 : decode cX4_liars 39 = .ok (.istore_n 1, 1) := by decide +kernel
theorem dX4_liars_40 : decode cX4_liars 40 = .ok (.iinc 2 1, 3) := by decide +kernel
theorem dX4_liars_43 : decode cX4_liars 43 = .ok (.goto (-28), 3) := by decide +kernel
theorem dX4_liars_46 : decode cX4_liars 46 = .ok (.iload_n 1, 1) := by decide +kernel
theorem dX4_liars_47 : decode cX4_liars 47 = .ok (.ireturn, 1) := by decide +kernel
theorem dX4_mayWeigh_0 : decode cX4_mayWeigh 0 = .ok (.aload_n 0, 1) := by decide +kernel
theorem dX4_mayWeigh_1 : decode cX4_mayWeigh 1 = .ok (.getfield 19, 3) := by decide +kernel
theorem dX4_mayWeigh_4 : decode cX4_mayWeigh 4 = .ok (.iload_n 1, 1) := by decide +kernel
theorem dX4_mayWeigh_5 : decode cX4_mayWeigh 5 = .ok (.invokevirtual 91, 3) := by decide +kernel
theorem dX4_mayWeigh_8 : decode cX4_mayWeigh 8 = .ok (.ifCond .ne 5, 3) := by decide +kernel
theorem dX4_mayWeigh_11 : decode cX4_mayWeigh 11 = .ok (.iconst (-1), 1) := by decide +kernel
theorem dX4_mayWeigh_12 : decode cX4_mayWeigh 12 = .ok (.ireturn, 1) := by decide +kernel
theorem dX4_mayWeigh_13 : decode cX4_mayWeigh 13 = .ok (.aload_n 0, 1) := by decide +kernel
theorem dX4_mayWeigh_14 : decode cX4_mayWeigh 14 = .ok (.iload_n 1, 1) := by decide +kernel
theorem dX4_mayWeigh_15 : decode cX4_mayWeigh 15 = .ok (.invokevirtual 225, 3) := by decide +kernel
theorem dX4_mayWeigh_18 : decode cX4_mayWeigh 18 = .ok (.ireturn, 1) := by decide +kernel
theorem dX4_keep_0 : decode cX4_keep 0 = .ok (.iload_n 1, 1) := by decide +kernel
theorem dX4_keep_1 : decode cX4_keep 1 = .ok (.invokestatic 228, 3) := by decide +kernel
theorem dX4_keep_4 : decode cX4_keep 4 = .ok (.ifCond .ne 5, 3) := by decide +kernel
theorem dX4_keep_7 : decode cX4_keep 7 = .ok (.iconst (-1), 1) := by decide +kernel
theorem dX4_keep_8 : decode cX4_keep 8 = .ok (.ireturn, 1) := by decide +kernel
theorem dX4_keep_9 : decode cX4_keep 9 = .ok (.aload_n 0, 1) := by decide +kernel
theorem dX4_keep_10 : decode cX4_keep 10 = .ok (.iload_n 1, 1) := by decide +kernel
theorem dX4_keep_11 : decode cX4_keep 11 = .ok (.invokevirtual 231, 3) := by decide +kernel
theorem dX4_keep_14 : decode cX4_keep 14 = .ok (.astore_n 2, 1) := by decide +kernel
theorem dX4_keep_15 : decode cX4_keep 15 = .ok (.aload_n 2, 1) := by decide +kernel
theorem dX4_keep_16 : decode cX4_keep 16 = .ok (.aload_n 0, 1) := by decide +kernel
theorem dX4_keep_17 : decode cX4_keep 17 = .ok (.getfield 26, 3) := by decide +kernel
theorem dX4_keep_20 : decode cX4_keep 20 = .ok (.invokevirtual 235, 3) := by decide +kernel
theorem dX4_keep_23 : decode cX4_keep 23 = .ok (.aload_n 2, 1) := by decide +kernel
theorem dX4_keep_24 : decode cX4_keep 24 = .ok (.iconst 1, 1) := by decide +kernel
theorem dX4_keep_25 : decode cX4_keep 25 = .ok (.putfield 63, 3) := by decide +kernel
theorem dX4_keep_28 : decode cX4_keep 28 = .ok (.aload_n 0, 1) := by decide +kernel
theorem dX4_keep_29 : decode cX4_keep 29 = .ok (.getfield 26, 3) := by decide +kernel
theorem dX4_keep_32 : decode cX4_keep 32 = .ok (.getfield 163, 3) := by decide +kernel
theorem dX4_keep_35 : decode cX4_keep 35 = .ok (.ireturn, 1) := by decide +kernel
theorem dX4_again_0 : decode cX4_again 0 = .ok (.iload_n 1, 1) := by decide +kernel
theorem dX4_again_1 : decode cX4_again 1 = .ok (.invokestatic 228, 3) := by decide +kernel
theorem dX4_again_4 : decode cX4_again 4 = .ok (.ifCond .ne 5, 3) := by decide +kernel
theorem dX4_again_7 : decode cX4_again 7 = .ok (.iconst (-1), 1) := by decide +kernel
theorem dX4_again_8 : decode cX4_again 8 = .ok (.ireturn, 1) := by decide +kernel
theorem dX4_again_9 : decode cX4_again 9 = .ok (.aload_n 0, 1) := by decide +kernel
theorem dX4_again_10 : decode cX4_again 10 = .ok (.iload_n 1, 1) := by decide +kernel
theorem dX4_again_11 : decode cX4_again 11 = .ok (.invokevirtual 231, 3) := by decide +kernel
theorem dX4_again_14 : decode cX4_again 14 = .ok (.astore_n 2, 1) := by decide +kernel
theorem dX4_again_15 : decode cX4_again 15 = .ok (.aload_n 2, 1) := by decide +kernel
theorem dX4_again_16 : decode cX4_again 16 = .ok (.getfield 63, 3) := by decide +kernel
theorem dX4_again_19 : decode cX4_again 19 = .ok (.ifCond .ne 6, 3) := by decide +kernel
theorem dX4_again_22 : decode cX4_again 22 = .ok (.bipush (-3), 2) := by decide +kernel
theorem dX4_again_24 : decode cX4_again 24 = .ok (.ireturn, 1) := by decide +kernel
theorem dX4_again_25 : decode cX4_again 25 = .ok (.aload_n 0, 1) := by decide +kernel
theorem dX4_again_26 : decode cX4_again 26 = .ok (.getfield 26, 3) := by decide +kernel
theorem dX4_again_29 : decode cX4_again 29 = .ok (.aload_n 2, 1) := by decide +kernel
theorem dX4_again_30 : decode cX4_again 30 = .ok (.invokevirtual 235, 3) := by decide +kernel
theorem dX4_again_33 : decode cX4_again 33 = .ok (.aload_n 0, 1) := by decide +kernel
theorem dX4_again_34 : decode cX4_again 34 = .ok (.getfield 39, 3) := by decide +kernel
theorem dX4_again_37 : decode cX4_again 37 = .ok (.invokevirtual 67, 3) := by decide +kernel
theorem dX4_again_40 : decode cX4_again 40 = .ok (.aload_n 0, 1) := by decide +kernel
theorem dX4_again_41 : decode cX4_again 41 = .ok (.getfield 26, 3) := by decide +kernel
theorem dX4_again_44 : decode cX4_again 44 = .ok (.getfield 163, 3) := by decide +kernel
theorem dX4_again_47 : decode cX4_again 47 = .ok (.ireturn, 1) := by decide +kernel
theorem dX4_count_0 : decode cX4_count 0 = .ok (.iload_n 1, 1) := by decide +kernel
theorem dX4_count_1 : decode cX4_count 1 = .ok (.tableswitch 123 0 6 #[43, 51, 59, 78, 89, 100, 108], 43) := by decide +kernel
theorem dX4_count_44 : decode cX4_count 44 = .ok (.aload_n 0, 1) := by decide +kernel
theorem dX4_count_45 : decode cX4_count 45 = .ok (.getfield 10, 3) := by decide +kernel
theorem dX4_count_48 : decode cX4_count 48 = .ok (.getfield 43, 3) := by decide +kernel
theorem dX4_count_51 : decode cX4_count 51 = .ok (.ireturn, 1) := by decide +kernel
theorem dX4_count_52 : decode cX4_count 52 = .ok (.aload_n 0, 1) := by decide +kernel
theorem dX4_count_53 : decode cX4_count 53 = .ok (.getfield 19, 3) := by decide +kernel
theorem dX4_count_56 : decode cX4_count 56 = .ok (.getfield 70, 3) := by decide +kernel
theorem dX4_count_59 : decode cX4_count 59 = .ok (.ireturn, 1) := by decide +kernel
theorem dX4_count_60 : decode cX4_count 60 = .ok (.aload_n 0, 1) := by decide +kernel
theorem dX4_count_61 : decode cX4_count 61 = .ok (.getfield 19, 3) := by decide +kernel
theorem dX4_count_64 : decode cX4_count 64 = .ok (.getfield 70, 3) := by decide +kernel
theorem dX4_count_67 : decode cX4_count 67 = .ok (.aload_n 0, 1) := by decide +kernel
theorem dX4_count_68 : decode cX4_count 68 = .ok (.getfield 26, 3) := by decide +kernel
theorem dX4_count_71 : decode cX4_count 71 = .ok (.invokevirtual 239, 3) := by decide +kernel
theorem dX4_count_74 : decode cX4_count 74 = .ok (.invokestatic 132, 3) := by decide +kernel
theorem dX4_count_77 : decode cX4_count 77 = .ok (.isub, 1) := by decide +kernel
theorem dX4_count_78 : decode cX4_count 78 = .ok (.ireturn, 1) := by decide +kernel
theorem dX4_count_79 : decode cX4_count 79 = .ok (.aload_n 0, 1) := by decide +kernel
theorem dX4_count_80 : decode cX4_count 80 = .ok (.getfield 26, 3) := by decide +kernel
theorem dX4_count_83 : decode cX4_count 83 = .ok (.invokevirtual 125, 3) := by decide +kernel
theorem dX4_count_86 : decode cX4_count 86 = .ok (.invokestatic 132, 3) := by decide +kernel
theorem dX4_count_89 : decode cX4_count 89 = .ok (.ireturn, 1) := by decide +kernel
theorem dX4_count_90 : decode cX4_count 90 = .ok (.aload_n 0, 1) := by decide +kernel
theorem dX4_count_91 : decode cX4_count 91 = .ok (.getfield 26, 3) := by decide +kernel
theorem dX4_count_94 : decode cX4_count 94 = .ok (.invokevirtual 239, 3) := by decide +kernel
theorem dX4_count_97 : decode cX4_count 97 = .ok (.invokestatic 132, 3) := by decide +kernel
theorem dX4_count_100 : decode cX4_count 100 = .ok (.ireturn, 1) := by decide +kernel
theorem dX4_count_101 : decode cX4_count 101 = .ok (.aload_n 0, 1) := by decide +kernel
theorem dX4_count_102 : decode cX4_count 102 = .ok (.getfield 26, 3) := by decide +kernel
theorem dX4_count_105 : decode cX4_count 105 = .ok (.getfield 163, 3) := by decide +kernel
theorem dX4_count_108 : decode cX4_count 108 = .ok (.ireturn, 1) := by decide +kernel
theorem dX4_count_109 : decode cX4_count 109 = .ok (.aload_n 0, 1) := by decide +kernel
theorem dX4_count_110 : decode cX4_count 110 = .ok (.getfield 19, 3) := by decide +kernel
theorem dX4_count_113 : decode cX4_count 113 = .ok (.aload_n 0, 1) := by decide +kernel
theorem dX4_count_114 : decode cX4_count 114 = .ok (.getfield 26, 3) := by decide +kernel
theorem dX4_count_117 : decode cX4_count 117 = .ok (.invokevirtual 239, 3) := by decide +kernel
theorem dX4_count_120 : decode cX4_count 120 = .ok (.invokevirtual 172, 3) := by decide +kernel
theorem dX4_count_123 : decode cX4_count 123 = .ok (.ireturn, 1) := by decide +kernel
theorem dX4_count_124 : decode cX4_count 124 = .ok (.bipush (-2), 2) := by decide +kernel
theorem dX4_count_126 : decode cX4_count 126 = .ok (.ireturn, 1) := by decide +kernel
theorem dX4_isSlot_0 : decode cX4_isSlot 0 = .ok (.iload_n 0, 1) := by decide +kernel
theorem dX4_isSlot_1 : decode cX4_isSlot 1 = .ok (.ifCond .eq 8, 3) := by decide +kernel
theorem dX4_isSlot_4 : decode cX4_isSlot 4 = .ok (.iload_n 0, 1) := by decide +kernel
theorem dX4_isSlot_5 : decode cX4_isSlot 5 = .ok (.iconst 1, 1) := by decide +kernel
theorem dX4_isSlot_6 : decode cX4_isSlot 6 = .ok (.if_icmp .ne 7, 3) := by decide +kernel
theorem dX4_isSlot_9 : decode cX4_isSlot 9 = .ok (.iconst 1, 1) := by decide +kernel
theorem dX4_isSlot_10 : decode cX4_isSlot 10 = .ok (.goto 4, 3) := by decide +kernel
theorem dX4_isSlot_13 : decode cX4_isSlot 13 = .ok (.iconst 0, 1) := by decide +kernel
theorem dX4_isSlot_14 : decode cX4_isSlot 14 = .ok (.ireturn, 1) := by decide +kernel
theorem dX4_slotOf_0 : decode cX4_slotOf 0 = .ok (.iload_n 1, 1) := by decide +kernel
theorem dX4_slotOf_1 : decode cX4_slotOf 1 = .ok (.ifCond .ne 10, 3) := by decide +kernel
theorem dX4_slotOf_4 : decode cX4_slotOf 4 = .ok (.aload_n 0, 1) := by decide +kernel
theorem dX4_slotOf_5 : decode cX4_slotOf 5 = .ok (.getfield 30, 3) := by decide +kernel
theorem dX4_slotOf_8 : decode cX4_slotOf 8 = .ok (.goto 7, 3) := by decide +kernel
theorem dX4_slotOf_11 : decode cX4_slotOf 11 = .ok (.aload_n 0, 1) := by decide +kernel
theorem dX4_slotOf_12 : decode cX4_slotOf 12 = .ok (.getfield 33, 3) := by decide +kernel
theorem dX4_slotOf_15 : decode cX4_slotOf 15 = .ok (.areturn, 1) := by decide +kernel
theorem dX4_crewByRule_0 : decode cX4_crewByRule 0 = .ok (.aload_n 0, 1) := by decide +kernel
theorem dX4_crewByRule_1 : decode cX4_crewByRule 1 = .ok (.getfield 26, 3) := by decide +kernel
theorem dX4_crewByRule_4 : decode cX4_crewByRule 4 = .ok (.invokevirtual 239, 3) := by decide +kernel
theorem dX4_crewByRule_7 : decode cX4_crewByRule 7 = .ok (.istore_n 1, 1) := by decide +kernel
theorem dX4_crewByRule_8 : decode cX4_crewByRule 8 = .ok (.iconst 0, 1) := by decide +kernel
theorem dX4_crewByRule_9 : decode cX4_crewByRule 9 = .ok (.istore_n 2, 1) := by decide +kernel
theorem dX4_crewByRule_10 : decode cX4_crewByRule 10 = .ok (.iconst 0, 1) := by decide +kernel
theorem dX4_crewByRule_11 : decode cX4_crewByRule 11 = .ok (.istore_n 3, 1) := by decide +kernel
theorem dX4_crewByRule_12 : decode cX4_crewByRule 12 = .ok (.iload_n 3, 1) := by decide +kernel
theorem dX4_crewByRule_13 : decode cX4_crewByRule 13 = .ok (.aload_n 0, 1) := by decide +kernel
theorem dX4_crewByRule_14 : decode cX4_crewByRule 14 = .ok (.getfield 19, 3) := by decide +kernel
theorem dX4_crewByRule_17 : decode cX4_crewByRule 17 = .ok (.getfield 70, 3) := by decide +kernel
theorem dX4_crewByRule_20 : decode cX4_crewByRule 20 = .ok (.if_icmp .ge 40, 3) := by decide +kernel
theorem dX4_crewByRule_23 : decode cX4_crewByRule 23 = .ok (.iload_n 1, 1) := by decide +kernel
theorem dX4_crewByRule_24 : decode cX4_crewByRule 24 = .ok (.iload_n 3, 1) := by decide +kernel
theorem dX4_crewByRule_25 : decode cX4_crewByRule 25 = .ok (.ishr, 1) := by decide +kernel
theorem dX4_crewByRule_26 : decode cX4_crewByRule 26 = .ok (.iconst 1, 1) := by decide +kernel
theorem dX4_crewByRule_27 : decode cX4_crewByRule 27 = .ok (.iand, 1) := by decide +kernel
theorem dX4_crewByRule_28 : decode cX4_crewByRule 28 = .ok (.ifCond .ne 26, 3) := by decide +kernel
theorem dX4_crewByRule_31 : decode cX4_crewByRule 31 = .ok (.aload_n 0, 1) := by decide +kernel
theorem dX4_crewByRule_32 : decode cX4_crewByRule 32 = .ok (.iload_n 2, 1) := by decide +kernel
theorem dX4_crewByRule_33 : decode cX4_crewByRule 33 = .ok (.iload_n 3, 1) := by decide +kernel
theorem dX4_crewByRule_34 : decode cX4_crewByRule 34 = .ok (.invokevirtual 242, 3) := by decide +kernel
theorem dX4_crewByRule_37 : decode cX4_crewByRule 37 = .ok (.istore 4, 2) := by decide +kernel
theorem dX4_crewByRule_39 : decode cX4_crewByRule 39 = .ok (.iload 4, 2) := by decide +kernel
theorem dX4_crewByRule_41 : decode cX4_crewByRule 41 = .ok (.bipush (-9), 2) := by decide +kernel
theorem dX4_crewByRule_43 : decode cX4_crewByRule 43 = .ok (.if_icmp .eq 11, 3) := by decide +kernel
theorem dX4_crewByRule_46 : decode cX4_crewByRule 46 = .ok (.iload_n 2, 1) := by decide +kernel
theorem dX4_crewByRule_47 : decode cX4_crewByRule 47 = .ok (.iload_n 3, 1) := by decide +kernel
theorem dX4_crewByRule_48 : decode cX4_crewByRule 48 = .ok (.iload 4, 2) := by decide +kernel
theorem dX4_crewByRule_50 : decode cX4_crewByRule 50 = .ok (.invokestatic 137, 3) := by decide +kernel
theorem dX4_crewByRule_53 : decode cX4_crewByRule 53 = .ok (.istore_n 2, 1) := by decide +kernel
theorem dX4_crewByRule_54 : decode cX4_crewByRule 54 = .ok (.iinc 3 1, 3) := by decide +kernel
theorem dX4_crewByRule_57 : decode cX4_crewByRule 57 = .ok (.goto (-45), 3) := by decide +kernel
theorem dX4_crewByRule_60 : decode cX4_crewByRule 60 = .ok (.iload_n 2, 1) := by decide +kernel
theorem dX4_crewByRule_61 : decode cX4_crewByRule 61 = .ok (.ireturn, 1) := by decide +kernel
theorem dX4_lightestEnd_0 : decode cX4_lightestEnd 0 = .ok (.bipush (-9), 2) := by decide +kernel
theorem dX4_lightestEnd_2 : decode cX4_lightestEnd 2 = .ok (.istore_n 3, 1) := by decide +kernel
theorem dX4_lightestEnd_3 : decode cX4_lightestEnd 3 = .ok (.iconst 0, 1) := by decide +kernel
theorem dX4_lightestEnd_4 : decode cX4_lightestEnd 4 = .ok (.istore 4, 2) := by decide +kernel
theorem dX4_lightestEnd_6 : decode cX4_lightestEnd 6 = .ok (.iconst 0, 1) := by decide +kernel
theorem dX4_lightestEnd_7 : decode cX4_lightestEnd 7 = .ok (.istore 5, 2) := by decide +kernel
theorem dX4_lightestEnd_9 : decode cX4_lightestEnd 9 = .ok (.iload 5, 2) := by decide +kernel
theorem dX4_lightestEnd_11 : decode cX4_lightestEnd 11 = .ok (.aload_n 0, 1) := by decide +kernel
theorem dX4_lightestEnd_12 : decode cX4_lightestEnd 12 = .ok (.getfield 19, 3) := by decide +kernel
theorem dX4_lightestEnd_15 : decode cX4_lightestEnd 15 = .ok (.getfield 73, 3) := by decide +kernel
theorem dX4_lightestEnd_18 : decode cX4_lightestEnd 18 = .ok (.if_icmp .ge 110, 3) := by decide +kernel
theorem dX4_lightestEnd_21 : decode cX4_lightestEnd 21 = .ok (.iload_n 1, 1) := by decide +kernel
theorem dX4_lightestEnd_22 : decode cX4_lightestEnd 22 = .ok (.iload 5, 2) := by decide +kernel
theorem dX4_lightestEnd_24 : decode cX4_lightestEnd 24 = .ok (.invokestatic 128, 3) := by decide +kernel
theorem dX4_lightestEnd_27 : decode cX4_lightestEnd 27 = .ok (.invokestatic 132, 3) := by decide +kernel
theorem dX4_lightestEnd_30 : decode cX4_lightestEnd 30 = .ok (.aload_n 0, 1) := by decide +kernel
theorem dX4_lightestEnd_31 : decode cX4_lightestEnd 31 = .ok (.getfield 19, 3) := by decide +kernel
theorem dX4_lightestEnd_34 : decode cX4_lightestEnd 34 = .ok (.getfield 82, 3) := by decide +kernel
theorem dX4_lightestEnd_37 : decode cX4_lightestEnd 37 = .ok (.if_icmp .ge 7, 3) := by decide +kernel
theorem dX4_lightestEnd_40 : decode cX4_lightestEnd 40 = .ok (.iconst 1, 1) := by decide +kernel
theorem dX4_lightestEnd_41 : decode cX4_lightestEnd 41 = .ok (.goto 4, 3) := by decide +kernel
theorem dX4_lightestEnd_44 : decode cX4_lightestEnd 44 = .ok (.iconst 0, 1) := by decide +kernel
theorem dX4_lightestEnd_45 : decode cX4_lightestEnd 45 = .ok (.istore 6, 2) := by decide +kernel
theorem dX4_lightestEnd_47 : decode cX4_lightestEnd 47 = .ok (.iload 6, 2) := by decide +kernel
theorem dX4_lightestEnd_49 : decode cX4_lightestEnd 49 = .ok (.ifCond .eq 73, 3) := by decide +kernel
theorem dX4_lightestEnd_52 : decode cX4_lightestEnd 52 = .ok (.aload_n 0, 1) := by decide +kernel
theorem dX4_lightestEnd_53 : decode cX4_lightestEnd 53 = .ok (.getfield 19, 3) := by decide +kernel
theorem dX4_lightestEnd_56 : decode cX4_lightestEnd 56 = .ok (.iload_n 2, 1) := by decide +kernel
theorem dX4_lightestEnd_57 : decode cX4_lightestEnd 57 = .ok (.iload 5, 2) := by decide +kernel
theorem dX4_lightestEnd_59 : decode cX4_lightestEnd 59 = .ok (.invokevirtual 121, 3) := by decide +kernel
theorem dX4_lightestEnd_62 : decode cX4_lightestEnd 62 = .ok (.ifCond .eq 60, 3) := by decide +kernel
theorem dX4_lightestEnd_65 : decode cX4_lightestEnd 65 = .ok (.aload_n 0, 1) := by decide +kernel
theorem dX4_lightestEnd_66 : decode cX4_lightestEnd 66 = .ok (.getfield 19, 3) := by decide +kernel
theorem dX4_lightestEnd_69 : decode cX4_lightestEnd 69 = .ok (.iload 5, 2) := by decide +kernel
theorem dX4_lightestEnd_71 : decode cX4_lightestEnd 71 = .ok (.invokevirtual 245, 3) := by decide +kernel
theorem dX4_lightestEnd_74 : decode cX4_lightestEnd 74 = .ok (.aload_n 0, 1) := by decide +kernel
theorem dX4_lightestEnd_75 : decode cX4_lightestEnd 75 = .ok (.getfield 19, 3) := by decide +kernel
theorem dX4_lightestEnd_78 : decode cX4_lightestEnd 78 = .ok (.iload_n 1, 1) := by decide +kernel
theorem dX4_lightestEnd_79 : decode cX4_lightestEnd 79 = .ok (.iload 5, 2) := by decide +kernel
theorem dX4_lightestEnd_81 : decode cX4_lightestEnd 81 = .ok (.aload_n 0, 1) := by decide +kernel
theorem dX4_lightestEnd_82 : decode cX4_lightestEnd 82 = .ok (.getfield 19, 3) := by decide +kernel
theorem dX4_lightestEnd_85 : decode cX4_lightestEnd 85 = .ok (.getfield 95, 3) := by decide +kernel
theorem dX4_lightestEnd_88 : decode cX4_lightestEnd 88 = .ok (.aload_n 0, 1) := by decide +kernel
theorem dX4_lightestEnd_89 : decode cX4_lightestEnd 89 = .ok (.getfield 26, 3) := by decide +kernel
theorem dX4_lightestEnd_92 : decode cX4_lightestEnd 92 = .ok (.getfield 105, 3) := by decide +kernel
theorem dX4_lightestEnd_95 : decode cX4_lightestEnd 95 = .ok (.iconst 0, 1) := by decide +kernel
theorem dX4_lightestEnd_96 : decode cX4_lightestEnd 96 = .ok (.invokevirtual 151, 3) := by decide +kernel
theorem dX4_lightestEnd_99 : decode cX4_lightestEnd 99 = .ok (.imul, 1) := by decide +kernel
theorem dX4_lightestEnd_100 : decode cX4_lightestEnd 100 = .ok (.istore 7, 2) := by decide +kernel
theorem dX4_lightestEnd_102 : decode cX4_lightestEnd 102 = .ok (.iload_n 3, 1) := by decide +kernel
theorem dX4_lightestEnd_103 : decode cX4_lightestEnd 103 = .ok (.bipush (-9), 2) := by decide +kernel
theorem dX4_lightestEnd_105 : decode cX4_lightestEnd 105 = .ok (.if_icmp .eq 10, 3) := by decide +kernel
theorem dX4_lightestEnd_108 : decode cX4_lightestEnd 108 = .ok (.iload 7, 2) := by decide +kernel
theorem dX4_lightestEnd_110 : decode cX4_lightestEnd 110 = .ok (.iload 4, 2) := by decide +kernel
theorem dX4_lightestEnd_112 : decode cX4_lightestEnd 112 = .ok (.if_icmp .ge 10, 3) := by decide +kernel
theorem dX4_lightestEnd_115 : decode cX4_lightestEnd 115 = .ok (.iload 5, 2) := by decide +kernel
theorem dX4_lightestEnd_117 : decode cX4_lightestEnd 117 = .ok (.istore_n 3, 1) := by decide +kernel
theorem dX4_lightestEnd_118 : decode cX4_lightestEnd 118 = .ok (.iload 7, 2) := by decide +kernel
theorem dX4_lightestEnd_120 : decode cX4_lightestEnd 120 = .ok (.istore 4, 2) := by decide +kernel
theorem dX4_lightestEnd_122 : decode cX4_lightestEnd 122 = .ok (.iinc 5 1, 3) := by decide +kernel
theorem dX4_lightestEnd_125 : decode cX4_lightestEnd 125 = .ok (.goto (-116), 3) := by decide +kernel
theorem dX4_lightestEnd_128 : decode cX4_lightestEnd 128 = .ok (.iload_n 3, 1) := by decide +kernel
theorem dX4_lightestEnd_129 : decode cX4_lightestEnd 129 = .ok (.ireturn, 1) := by decide +kernel
theorem dX4_boatsFitBut_0 : decode cX4_boatsFitBut 0 = .ok (.iconst 0, 1) := by decide +kernel
theorem dX4_boatsFitBut_1 : decode cX4_boatsFitBut 1 = .ok (.istore_n 2, 1) := by decide +kernel
theorem dX4_boatsFitBut_2 : decode cX4_boatsFitBut 2 = .ok (.iload_n 2, 1) := by decide +kernel
theorem dX4_boatsFitBut_3 : decode cX4_boatsFitBut 3 = .ok (.aload_n 0, 1) := by decide +kernel
theorem dX4_boatsFitBut_4 : decode cX4_boatsFitBut 4 = .ok (.getfield 26, 3) := by decide +kernel
theorem dX4_boatsFitBut_7 : decode cX4_boatsFitBut 7 = .ok (.getfield 163, 3) := by decide +kernel
theorem dX4_boatsFitBut_10 : decode cX4_boatsFitBut 10 = .ok (.if_icmp .ge 45, 3) := by decide +kernel
theorem dX4_boatsFitBut_13 : decode cX4_boatsFitBut 13 = .ok (.iload_n 2, 1) := by decide +kernel
theorem dX4_boatsFitBut_14 : decode cX4_boatsFitBut 14 = .ok (.iload_n 1, 1) := by decide +kernel
theorem dX4_boatsFitBut_15 : decode cX4_boatsFitBut 15 = .ok (.if_icmp .eq 34, 3) := by decide +kernel
theorem dX4_boatsFitBut_18 : decode cX4_boatsFitBut 18 = .ok (.aload_n 0, 1) := by decide +kernel
theorem dX4_boatsFitBut_19 : decode cX4_boatsFitBut 19 = .ok (.getfield 19, 3) := by decide +kernel
theorem dX4_boatsFitBut_22 : decode cX4_boatsFitBut 22 = .ok (.aload_n 0, 1) := by decide +kernel
theorem dX4_boatsFitBut_23 : decode cX4_boatsFitBut 23 = .ok (.getfield 26, 3) := by decide +kernel
theorem dX4_boatsFitBut_26 : decode cX4_boatsFitBut 26 = .ok (.iload_n 2, 1) := by decide +kernel
theorem dX4_boatsFitBut_27 : decode cX4_boatsFitBut 27 = .ok (.invokevirtual 178, 3) := by decide +kernel
theorem dX4_boatsFitBut_30 : decode cX4_boatsFitBut 30 = .ok (.aload_n 0, 1) := by decide +kernel
theorem dX4_boatsFitBut_31 : decode cX4_boatsFitBut 31 = .ok (.getfield 26, 3) := by decide +kernel
theorem dX4_boatsFitBut_34 : decode cX4_boatsFitBut 34 = .ok (.getfield 108, 3) := by decide +kernel
theorem dX4_boatsFitBut_37 : decode cX4_boatsFitBut 37 = .ok (.aload_n 0, 1) := by decide +kernel
theorem dX4_boatsFitBut_38 : decode cX4_boatsFitBut 38 = .ok (.getfield 26, 3) := by decide +kernel
theorem dX4_boatsFitBut_41 : decode cX4_boatsFitBut 41 = .ok (.invokevirtual 159, 3) := by decide +kernel
theorem dX4_boatsFitBut_44 : decode cX4_boatsFitBut 44 = .ok (.ifCond .ne 5, 3) := by decide +kernel
theorem dX4_boatsFitBut_47 : decode cX4_boatsFitBut 47 = .ok (.iconst 0, 1) := by decide +kernel
theorem dX4_boatsFitBut_48 : decode cX4_boatsFitBut 48 = .ok (.ireturn, 1) := by decide +kernel
theorem dX4_boatsFitBut_49 : decode cX4_boatsFitBut 49 = .ok (.iinc 2 1, 3) := by decide +kernel
theorem dX4_boatsFitBut_52 : decode cX4_boatsFitBut 52 = .ok (.goto (-50), 3) := by decide +kernel
theorem dX4_boatsFitBut_55 : decode cX4_boatsFitBut 55 = .ok (.iconst 1, 1) := by decide +kernel
theorem dX4_boatsFitBut_56 : decode cX4_boatsFitBut 56 = .ok (.ireturn, 1) := by decide +kernel
theorem dX4_claimsThatFit_0 : decode cX4_claimsThatFit 0 = .ok (.aload_n 0, 1) := by decide +kernel
theorem dX4_claimsThatFit_1 : decode cX4_claimsThatFit 1 = .ok (.getfield 26, 3) := by decide +kernel
theorem dX4_claimsThatFit_4 : decode cX4_claimsThatFit 4 = .ok (.iload_n 1, 1) := by decide +kernel
theorem dX4_claimsThatFit_5 : decode cX4_claimsThatFit 5 = .ok (.invokevirtual 248, 3) := by decide +kernel
theorem dX4_claimsThatFit_8 : decode cX4_claimsThatFit 8 = .ok (.istore_n 2, 1) := by decide +kernel
theorem dX4_claimsThatFit_9 : decode cX4_claimsThatFit 9 = .ok (.aload_n 0, 1) := by decide +kernel
theorem dX4_claimsThatFit_10 : decode cX4_claimsThatFit 10 = .ok (.iload_n 2, 1) := by decide +kernel
theorem dX4_claimsThatFit_11 : decode cX4_claimsThatFit 11 = .ok (.invokevirtual 222, 3) := by decide +kernel
theorem dX4_claimsThatFit_14 : decode cX4_claimsThatFit 14 = .ok (.ifCond .ne 5, 3) := by decide +kernel
theorem dX4_claimsThatFit_17 : decode cX4_claimsThatFit 17 = .ok (.iconst 0, 1) := by decide +kernel
theorem dX4_claimsThatFit_18 : decode cX4_claimsThatFit 18 = .ok (.ireturn, 1) := by decide +kernel
theorem dX4_claimsThatFit_19 : decode cX4_claimsThatFit 19 = .ok (.iload_n 2, 1) := by decide +kernel
theorem dX4_claimsThatFit_20 : decode cX4_claimsThatFit 20 = .ok (.bipush (-9), 2) := by decide +kernel
theorem dX4_claimsThatFit_22 : decode cX4_claimsThatFit 22 = .ok (.if_icmp .ne 6, 3) := by decide +kernel
theorem dX4_claimsThatFit_25 : decode cX4_claimsThatFit 25 = .ok (.bipush 99, 2) := by decide +kernel
theorem dX4_claimsThatFit_27 : decode cX4_claimsThatFit 27 = .ok (.ireturn, 1) := by decide +kernel
theorem dX4_claimsThatFit_28 : decode cX4_claimsThatFit 28 = .ok (.aload_n 0, 1) := by decide +kernel
theorem dX4_claimsThatFit_29 : decode cX4_claimsThatFit 29 = .ok (.getfield 26, 3) := by decide +kernel
theorem dX4_claimsThatFit_32 : decode cX4_claimsThatFit 32 = .ok (.getfield 108, 3) := by decide +kernel
theorem dX4_claimsThatFit_35 : decode cX4_claimsThatFit 35 = .ok (.iload_n 1, 1) := by decide +kernel
theorem dX4_claimsThatFit_36 : decode cX4_claimsThatFit 36 = .ok (.iaload, 1) := by decide +kernel
theorem dX4_claimsThatFit_37 : decode cX4_claimsThatFit 37 = .ok (.istore_n 3, 1) := by decide +kernel
theorem dX4_claimsThatFit_38 : decode cX4_claimsThatFit 38 = .ok (.iconst 0, 1) := by decide +kernel
theorem dX4_claimsThatFit_39 : decode cX4_claimsThatFit 39 = .ok (.istore 4, 2) := by decide +kernel
theorem dX4_claimsThatFit_41 : decode cX4_claimsThatFit 41 = .ok (.iconst 1, 1) := by decide +kernel
theorem dX4_claimsThatFit_42 : decode cX4_claimsThatFit 42 = .ok (.istore 5, 2) := by decide +kernel
theorem dX4_claimsThatFit_44 : decode cX4_claimsThatFit 44 = .ok (.iload 5, 2) := by decide +kernel
theorem dX4_claimsThatFit_46 : decode cX4_claimsThatFit 46 = .ok (.bipush 99, 2) := by decide +kernel
theorem dX4_claimsThatFit_48 : decode cX4_claimsThatFit 48 = .ok (.if_icmp .gt 52, 3) := by decide +kernel
theorem dX4_claimsThatFit_51 : decode cX4_claimsThatFit 51 = .ok (.aload_n 0, 1) := by decide +kernel
theorem dX4_claimsThatFit_52 : decode cX4_claimsThatFit 52 = .ok (.getfield 26, 3) := by decide +kernel
theorem dX4_claimsThatFit_55 : decode cX4_claimsThatFit 55 = .ok (.getfield 108, 3) := by decide +kernel
theorem dX4_claimsThatFit_58 : decode cX4_claimsThatFit 58 = .ok (.iload_n 1, 1) := by decide +kernel
theorem dX4_claimsThatFit_59 : decode cX4_claimsThatFit 59 = .ok (.iload 5, 2) := by decide +kernel
theorem dX4_claimsThatFit_61 : decode cX4_claimsThatFit 61 = .ok (.iastore, 1) := by decide +kernel
theorem dX4_claimsThatFit_62 : decode cX4_claimsThatFit 62 = .ok (.aload_n 0, 1) := by decide +kernel
theorem dX4_claimsThatFit_63 : decode cX4_claimsThatFit 63 = .ok (.getfield 19, 3) := by decide +kernel
theorem dX4_claimsThatFit_66 : decode cX4_claimsThatFit 66 = .ok (.aload_n 0, 1) := by decide +kernel
theorem dX4_claimsThatFit_67 : decode cX4_claimsThatFit 67 = .ok (.getfield 26, 3) := by decide +kernel
theorem dX4_claimsThatFit_70 : decode cX4_claimsThatFit 70 = .ok (.iload_n 2, 1) := by decide +kernel
theorem dX4_claimsThatFit_71 : decode cX4_claimsThatFit 71 = .ok (.invokevirtual 178, 3) := by decide +kernel
theorem dX4_claimsThatFit_74 : decode cX4_claimsThatFit 74 = .ok (.aload_n 0, 1) := by decide +kernel
theorem dX4_claimsThatFit_75 : decode cX4_claimsThatFit 75 = .ok (.getfield 26, 3) := by decide +kernel
theorem dX4_claimsThatFit_78 : decode cX4_claimsThatFit 78 = .ok (.getfield 108, 3) := by decide +kernel
theorem dX4_claimsThatFit_81 : decode cX4_claimsThatFit 81 = .ok (.aload_n 0, 1) := by decide +kernel
theorem dX4_claimsThatFit_82 : decode cX4_claimsThatFit 82 = .ok (.getfield 26, 3) := by decide +kernel
theorem dX4_claimsThatFit_85 : decode cX4_claimsThatFit 85 = .ok (.invokevirtual 159, 3) := by decide +kernel
theorem dX4_claimsThatFit_88 : decode cX4_claimsThatFit 88 = .ok (.ifCond .eq 6, 3) := by decide +kernel
theorem dX4_claimsThatFit_91 : decode cX4_claimsThatFit 91 = .ok (.iinc 4 1, 3) := by decide +kernel
theorem dX4_claimsThatFit_94 : decode cX4_claimsThatFit 94 = .ok (.iinc 5 1, 3) := by decide +kernel
theorem dX4_claimsThatFit_97 : decode cX4_claimsThatFit 97 = .ok (.goto (-53), 3) := by decide +kernel
theorem dX4_claimsThatFit_100 : decode cX4_claimsThatFit 100 = .ok (.aload_n 0, 1) := by decide +kernel
theorem dX4_claimsThatFit_101 : decode cX4_claimsThatFit 101 = .ok (.getfield 26, 3) := by decide +kernel
theorem dX4_claimsThatFit_104 : decode cX4_claimsThatFit 104 = .ok (.getfield 108, 3) := by decide +kernel
theorem dX4_claimsThatFit_107 : decode cX4_claimsThatFit 107 = .ok (.iload_n 1, 1) := by decide +kernel
theorem dX4_claimsThatFit_108 : decode cX4_claimsThatFit 108 = .ok (.iload_n 3, 1) := by decide +kernel
theorem dX4_claimsThatFit_109 : decode cX4_claimsThatFit 109 = .ok (.iastore, 1) := by decide +kernel
theorem dX4_claimsThatFit_110 : decode cX4_claimsThatFit 110 = .ok (.iload 4, 2) := by decide +kernel
theorem dX4_claimsThatFit_112 : decode cX4_claimsThatFit 112 = .ok (.ireturn, 1) := by decide +kernel
theorem dX4_sitters_0 : decode cX4_sitters 0 = .ok (.iload_n 0, 1) := by decide +kernel
theorem dX4_sitters_1 : decode cX4_sitters 1 = .ok (.bipush 8, 2) := by decide +kernel
theorem dX4_sitters_3 : decode cX4_sitters 3 = .ok (.iload_n 1, 1) := by decide +kernel
theorem dX4_sitters_4 : decode cX4_sitters 4 = .ok (.imul, 1) := by decide +kernel
theorem dX4_sitters_5 : decode cX4_sitters 5 = .ok (.iushr, 1) := by decide +kernel
theorem dX4_sitters_6 : decode cX4_sitters 6 = .ok (.sipush 255, 3) := by decide +kernel
theorem dX4_sitters_9 : decode cX4_sitters 9 = .ok (.iand, 1) := by decide +kernel
theorem dX4_sitters_10 : decode cX4_sitters 10 = .ok (.ireturn, 1) := by decide +kernel
theorem dX4_members_0 : decode cX4_members 0 = .ok (.iload_n 0, 1) := by decide +kernel
theorem dX4_members_1 : decode cX4_members 1 = .ok (.iload_n 0, 1) := by decide +kernel
theorem dX4_members_2 : decode cX4_members 2 = .ok (.bipush 8, 2) := by decide +kernel
theorem dX4_members_4 : decode cX4_members 4 = .ok (.iushr, 1) := by decide +kernel
theorem dX4_members_5 : decode cX4_members 5 = .ok (.ior, 1) := by decide +kernel
theorem dX4_members_6 : decode cX4_members 6 = .ok (.iload_n 0, 1) := by decide +kernel
theorem dX4_members_7 : decode cX4_members 7 = .ok (.bipush 16, 2) := by decide +kernel
theorem dX4_members_9 : decode cX4_members 9 = .ok (.iushr, 1) := by decide +kernel
theorem dX4_members_10 : decode cX4_members 10 = .ok (.ior, 1) := by decide +kernel
theorem dX4_members_11 : decode cX4_members 11 = .ok (.sipush 255, 3) := by decide +kernel
theorem dX4_members_14 : decode cX4_members 14 = .ok (.iand, 1) := by decide +kernel
theorem dX4_members_15 : decode cX4_members 15 = .ok (.ireturn, 1) := by decide +kernel
theorem dX4_seat_0 : decode cX4_seat 0 = .ok (.iload_n 0, 1) := by decide +kernel
theorem dX4_seat_1 : decode cX4_seat 1 = .ok (.iconst 1, 1) := by decide +kernel
theorem dX4_seat_2 : decode cX4_seat 2 = .ok (.bipush 8, 2) := by decide +kernel
theorem dX4_seat_4 : decode cX4_seat 4 = .ok (.iload_n 2, 1) := by decide +kernel
theorem dX4_seat_5 : decode cX4_seat 5 = .ok (.imul, 1) := by decide +kernel
theorem dX4_seat_6 : decode cX4_seat 6 = .ok (.iload_n 1, 1) := by decide +kernel
theorem dX4_seat_7 : decode cX4_seat 7 = .ok (.iadd, 1) := by decide +kernel
theorem dX4_seat_8 : decode cX4_seat 8 = .ok (.ishl, 1) := by decide +kernel
theorem dX4_seat_9 : decode cX4_seat 9 = .ok (.ior, 1) := by decide +kernel
theorem dX4_seat_10 : decode cX4_seat 10 = .ok (.ireturn, 1) := by decide +kernel
theorem dX4_unseat_0 : decode cX4_unseat 0 = .ok (.iload_n 0, 1) := by decide +kernel
theorem dX4_unseat_1 : decode cX4_unseat 1 = .ok (.iconst 1, 1) := by decide +kernel
theorem dX4_unseat_2 : decode cX4_unseat 2 = .ok (.bipush 8, 2) := by decide +kernel
theorem dX4_unseat_4 : decode cX4_unseat 4 = .ok (.iload_n 2, 1) := by decide +kernel
theorem dX4_unseat_5 : decode cX4_unseat 5 = .ok (.imul, 1) := by decide +kernel
theorem dX4_unseat_6 : decode cX4_unseat 6 = .ok (.iload_n 1, 1) := by decide +kernel
theorem dX4_unseat_7 : decode cX4_unseat 7 = .ok (.iadd, 1) := by decide +kernel
theorem dX4_unseat_8 : decode cX4_unseat 8 = .ok (.ishl, 1) := by decide +kernel
theorem dX4_unseat_9 : decode cX4_unseat 9 = .ok (.iconst (-1), 1) := by decide +kernel
theorem dX4_unseat_10 : decode cX4_unseat 10 = .ok (.ixor, 1) := by decide +kernel
theorem dX4_unseat_11 : decode cX4_unseat 11 = .ok (.iand, 1) := by decide +kernel
theorem dX4_unseat_12 : decode cX4_unseat 12 = .ok (.ireturn, 1) := by decide +kernel
theorem dX4_endOf_0 : decode cX4_endOf 0 = .ok (.iconst 0, 1) := by decide +kernel
theorem dX4_endOf_1 : decode cX4_endOf 1 = .ok (.istore_n 2, 1) := by decide +kernel
theorem dX4_endOf_2 : decode cX4_endOf 2 = .ok (.iload_n 2, 1) := by decide +kernel
theorem dX4_endOf_3 : decode cX4_endOf 3 = .ok (.iconst 3, 1) := by decide +kernel
theorem dX4_endOf_4 : decode cX4_endOf 4 = .ok (.if_icmp .ge 23, 3) := by decide +kernel
theorem dX4_endOf_7 : decode cX4_endOf 7 = .ok (.iload_n 0, 1) := by decide +kernel
theorem dX4_endOf_8 : decode cX4_endOf 8 = .ok (.iload_n 2, 1) := by decide +kernel
theorem dX4_endOf_9 : decode cX4_endOf 9 = .ok (.invokestatic 128, 3) := by decide +kernel
theorem dX4_endOf_12 : decode cX4_endOf 12 = .ok (.iload_n 1, 1) := by decide +kernel
theorem dX4_endOf_13 : decode cX4_endOf 13 = .ok (.ishr, 1) := by decide +kernel
theorem dX4_endOf_14 : decode cX4_endOf 14 = .ok (.iconst 1, 1) := by decide +kernel
theorem dX4_endOf_15 : decode cX4_endOf 15 = .ok (.iand, 1) := by decide +kernel
theorem dX4_endOf_16 : decode cX4_endOf 16 = .ok (.ifCond .eq 5, 3) := by decide +kernel
theorem dX4_endOf_19 : decode cX4_endOf 19 = .ok (.iload_n 2, 1) := by decide +kernel
theorem dX4_endOf_20 : decode cX4_endOf 20 = .ok (.ireturn, 1) := by decide +kernel
theorem dX4_endOf_21 : decode cX4_endOf 21 = .ok (.iinc 2 1, 3) := by decide +kernel
theorem dX4_endOf_24 : decode cX4_endOf 24 = .ok (.goto (-22), 3) := by decide +kernel
theorem dX4_endOf_27 : decode cX4_endOf 27 = .ok (.bipush (-9), 2) := by decide +kernel
theorem dX4_endOf_29 : decode cX4_endOf 29 = .ok (.ireturn, 1) := by decide +kernel
theorem dX4_isMinute_0 : decode cX4_isMinute 0 = .ok (.iload_n 0, 1) := by decide +kernel
theorem dX4_isMinute_1 : decode cX4_isMinute 1 = .ok (.ifCond .lt 13, 3) := by decide +kernel
theorem dX4_isMinute_4 : decode cX4_isMinute 4 = .ok (.iload_n 0, 1) := by decide +kernel
theorem dX4_isMinute_5 : decode cX4_isMinute 5 = .ok (.bipush 9, 2) := by decide +kernel
theorem dX4_isMinute_7 : decode cX4_isMinute 7 = .ok (.if_icmp .gt 7, 3) := by decide +kernel
theorem dX4_isMinute_10 : decode cX4_isMinute 10 = .ok (.iconst 1, 1) := by decide +kernel
theorem dX4_isMinute_11 : decode cX4_isMinute 11 = .ok (.goto 4, 3) := by decide +kernel
theorem dX4_isMinute_14 : decode cX4_isMinute 14 = .ok (.iconst 0, 1) := by decide +kernel
theorem dX4_isMinute_15 : decode cX4_isMinute 15 = .ok (.ireturn, 1) := by decide +kernel
theorem dX4_poundsAfter_0 : decode cX4_poundsAfter 0 = .ok (.iload_n 0, 1) := by decide +kernel
theorem dX4_poundsAfter_1 : decode cX4_poundsAfter 1 = .ok (.iload_n 1, 1) := by decide +kernel
theorem dX4_poundsAfter_2 : decode cX4_poundsAfter 2 = .ok (.iload_n 2, 1) := by decide +kernel
theorem dX4_poundsAfter_3 : decode cX4_poundsAfter 3 = .ok (.imul, 1) := by decide +kernel
theorem dX4_poundsAfter_4 : decode cX4_poundsAfter 4 = .ok (.iadd, 1) := by decide +kernel
theorem dX4_poundsAfter_5 : decode cX4_poundsAfter 5 = .ok (.istore_n 3, 1) := by decide +kernel
theorem dX4_poundsAfter_6 : decode cX4_poundsAfter 6 = .ok (.iload_n 3, 1) := by decide +kernel
theorem dX4_poundsAfter_7 : decode cX4_poundsAfter 7 = .ok (.ifCond .ge 7, 3) := by decide +kernel
theorem dX4_poundsAfter_10 : decode cX4_poundsAfter 10 = .ok (.iconst 0, 1) := by decide +kernel
theorem dX4_poundsAfter_11 : decode cX4_poundsAfter 11 = .ok (.goto 4, 3) := by decide +kernel
theorem dX4_poundsAfter_14 : decode cX4_poundsAfter 14 = .ok (.iload_n 3, 1) := by decide +kernel
theorem dX4_poundsAfter_15 : decode cX4_poundsAfter 15 = .ok (.ireturn, 1) := by decide +kernel
theorem dJ6_bitCount_0f7a4_0 : decode cJ6_bitCount_0f7a4 0 = .ok (.iload_n 0, 1) := by decide +kernel
theorem dJ6_bitCount_0f7a4_1 : decode cJ6_bitCount_0f7a4 1 = .ok (.iload_n 0, 1) := by decide +kernel
theorem dJ6_bitCount_0f7a4_2 : decode cJ6_bitCount_0f7a4 2 = .ok (.iconst 1, 1) := by decide +kernel
theorem dJ6_bitCount_0f7a4_3 : decode cJ6_bitCount_0f7a4 3 = .ok (.iushr, 1) := by decide +kernel
theorem dJ6_bitCount_0f7a4_4 : decode cJ6_bitCount_0f7a4 4 = .ok (.ldc_w 265, 3) := by decide +kernel
theorem dJ6_bitCount_0f7a4_7 : decode cJ6_bitCount_0f7a4 7 = .ok (.iand, 1) := by decide +kernel
theorem dJ6_bitCount_0f7a4_8 : decode cJ6_bitCount_0f7a4 8 = .ok (.isub, 1) := by decide +kernel
theorem dJ6_bitCount_0f7a4_9 : decode cJ6_bitCount_0f7a4 9 = .ok (.istore_n 0, 1) := by decide +kernel
theorem dJ6_bitCount_0f7a4_10 : decode cJ6_bitCount_0f7a4 10 = .ok (.iload_n 0, 1) := by decide +kernel
theorem dJ6_bitCount_0f7a4_11 : decode cJ6_bitCount_0f7a4 11 = .ok (.ldc_w 266, 3) := by decide +kernel
theorem dJ6_bitCount_0f7a4_14 : decode cJ6_bitCount_0f7a4 14 = .ok (.iand, 1) := by decide +kernel
theorem dJ6_bitCount_0f7a4_15 : decode cJ6_bitCount_0f7a4 15 = .ok (.iload_n 0, 1) := by decide +kernel
theorem dJ6_bitCount_0f7a4_16 : decode cJ6_bitCount_0f7a4 16 = .ok (.iconst 2, 1) := by decide +kernel
theorem dJ6_bitCount_0f7a4_17 : decode cJ6_bitCount_0f7a4 17 = .ok (.iushr, 1) := by decide +kernel
theorem dJ6_bitCount_0f7a4_18 : decode cJ6_bitCount_0f7a4 18 = .ok (.ldc_w 266, 3) := by decide +kernel
theorem dJ6_bitCount_0f7a4_21 : decode cJ6_bitCount_0f7a4 21 = .ok (.iand, 1) := by decide +kernel
theorem dJ6_bitCount_0f7a4_22 : decode cJ6_bitCount_0f7a4 22 = .ok (.iadd, 1) := by decide +kernel
theorem dJ6_bitCount_0f7a4_23 : decode cJ6_bitCount_0f7a4 23 = .ok (.istore_n 0, 1) := by decide +kernel
theorem dJ6_bitCount_0f7a4_24 : decode cJ6_bitCount_0f7a4 24 = .ok (.iload_n 0, 1) := by decide +kernel
theorem dJ6_bitCount_0f7a4_25 : decode cJ6_bitCount_0f7a4 25 = .ok (.iload_n 0, 1) := by decide +kernel
theorem dJ6_bitCount_0f7a4_26 : decode cJ6_bitCount_0f7a4 26 = .ok (.iconst 4, 1) := by decide +kernel
theorem dJ6_bitCount_0f7a4_27 : decode cJ6_bitCount_0f7a4 27 = .ok (.iushr, 1) := by decide +kernel
theorem dJ6_bitCount_0f7a4_28 : decode cJ6_bitCount_0f7a4 28 = .ok (.iadd, 1) := by decide +kernel
theorem dJ6_bitCount_0f7a4_29 : decode cJ6_bitCount_0f7a4 29 = .ok (.ldc_w 267, 3) := by decide +kernel
theorem dJ6_bitCount_0f7a4_32 : decode cJ6_bitCount_0f7a4 32 = .ok (.iand, 1) := by decide +kernel
theorem dJ6_bitCount_0f7a4_33 : decode cJ6_bitCount_0f7a4 33 = .ok (.istore_n 0, 1) := by decide +kernel
theorem dJ6_bitCount_0f7a4_34 : decode cJ6_bitCount_0f7a4 34 = .ok (.iload_n 0, 1) := by decide +kernel
theorem dJ6_bitCount_0f7a4_35 : decode cJ6_bitCount_0f7a4 35 = .ok (.iload_n 0, 1) := by decide +kernel
theorem dJ6_bitCount_0f7a4_36 : decode cJ6_bitCount_0f7a4 36 = .ok (.bipush 8, 2) := by decide +kernel
theorem dJ6_bitCount_0f7a4_38 : decode cJ6_bitCount_0f7a4 38 = .ok (.iushr, 1) := by decide +kernel
theorem dJ6_bitCount_0f7a4_39 : decode cJ6_bitCount_0f7a4 39 = .ok (.iadd, 1) := by decide +kernel
theorem dJ6_bitCount_0f7a4_40 : decode cJ6_bitCount_0f7a4 40 = .ok (.istore_n 0, 1) := by decide +kernel
theorem dJ6_bitCount_0f7a4_41 : decode cJ6_bitCount_0f7a4 41 = .ok (.iload_n 0, 1) := by decide +kernel
theorem dJ6_bitCount_0f7a4_42 : decode cJ6_bitCount_0f7a4 42 = .ok (.iload_n 0, 1) := by decide +kernel
theorem dJ6_bitCount_0f7a4_43 : decode cJ6_bitCount_0f7a4 43 = .ok (.bipush 16, 2) := by decide +kernel
theorem dJ6_bitCount_0f7a4_45 : decode cJ6_bitCount_0f7a4 45 = .ok (.iushr, 1) := by decide +kernel
theorem dJ6_bitCount_0f7a4_46 : decode cJ6_bitCount_0f7a4 46 = .ok (.iadd, 1) := by decide +kernel
theorem dJ6_bitCount_0f7a4_47 : decode cJ6_bitCount_0f7a4 47 = .ok (.istore_n 0, 1) := by decide +kernel
theorem dJ6_bitCount_0f7a4_48 : decode cJ6_bitCount_0f7a4 48 = .ok (.iload_n 0, 1) := by decide +kernel
theorem dJ6_bitCount_0f7a4_49 : decode cJ6_bitCount_0f7a4 49 = .ok (.bipush 63, 2) := by decide +kernel
theorem dJ6_bitCount_0f7a4_51 : decode cJ6_bitCount_0f7a4 51 = .ok (.iand, 1) := by decide +kernel
theorem dJ6_bitCount_0f7a4_52 : decode cJ6_bitCount_0f7a4 52 = .ok (.ireturn, 1) := by decide +kernel
theorem dJ9_max_7cf53_0 : decode cJ9_max_7cf53 0 = .ok (.iload_n 0, 1) := by decide +kernel
theorem dJ9_max_7cf53_1 : decode cJ9_max_7cf53 1 = .ok (.iload_n 1, 1) := by decide +kernel
theorem dJ9_max_7cf53_2 : decode cJ9_max_7cf53 2 = .ok (.if_icmp .lt 7, 3) := by decide +kernel
theorem dJ9_max_7cf53_5 : decode cJ9_max_7cf53 5 = .ok (.iload_n 0, 1) := by decide +kernel
theorem dJ9_max_7cf53_6 : decode cJ9_max_7cf53 6 = .ok (.goto 4, 3) := by decide +kernel
theorem dJ9_max_7cf53_9 : decode cJ9_max_7cf53 9 = .ok (.iload_n 1, 1) := by decide +kernel
theorem dJ9_max_7cf53_10 : decode cJ9_max_7cf53 10 = .ok (.ireturn, 1) := by decide +kernel
theorem dJ9_min_7cf53_0 : decode cJ9_min_7cf53 0 = .ok (.iload_n 0, 1) := by decide +kernel
theorem dJ9_min_7cf53_1 : decode cJ9_min_7cf53 1 = .ok (.iload_n 1, 1) := by decide +kernel
theorem dJ9_min_7cf53_2 : decode cJ9_min_7cf53 2 = .ok (.if_icmp .gt 7, 3) := by decide +kernel
theorem dJ9_min_7cf53_5 : decode cJ9_min_7cf53 5 = .ok (.iload_n 0, 1) := by decide +kernel
theorem dJ9_min_7cf53_6 : decode cJ9_min_7cf53 6 = .ok (.goto 4, 3) := by decide +kernel
theorem dJ9_min_7cf53_9 : decode cJ9_min_7cf53 9 = .ok (.iload_n 1, 1) := by decide +kernel
theorem dJ9_min_7cf53_10 : decode cJ9_min_7cf53 10 = .ok (.ireturn, 1) := by decide +kernel
end
section
theorem dX5_init_0 : decode cX5_init 0 = .ok (.aload_n 0, 1) := by decide +kernel
theorem dX5_init_1 : decode cX5_init 1 = .ok (.invokespecial 1, 3) := by decide +kernel
theorem dX5_init_4 : decode cX5_init 4 = .ok (.aload_n 0, 1) := by decide +kernel
theorem dX5_init_5 : decode cX5_init 5 = .ok (.iconst 5, 1) := by decide +kernel
theorem dX5_init_6 : decode cX5_init 6 = .ok (.newarray .int, 2) := by decide +kernel
theorem dX5_init_8 : decode cX5_init 8 = .ok (.putfield 7, 3) := by decide +kernel
theorem dX5_init_11 : decode cX5_init 11 = .ok (.aload_n 0, 1) := by decide +kernel
theorem dX5_init_12 : decode cX5_init 12 = .ok (.bipush 24, 2) := by decide +kernel
theorem dX5_init_14 : decode cX5_init 14 = .ok (.newarray .int, 2) := by decide +kernel
theorem dX5_init_16 : decode cX5_init 16 = .ok (.putfield 13, 3) := by decide +kernel
theorem dX5_init_19 : decode cX5_init 19 = .ok (.aload_n 0, 1) := by decide +kernel
theorem dX5_init_20 : decode cX5_init 20 = .ok (.iconst 5, 1) := by decide +kernel
theorem dX5_init_21 : decode cX5_init 21 = .ok (.newarray .int, 2) := by decide +kernel
theorem dX5_init_23 : decode cX5_init 23 = .ok (.putfield 16, 3) := by decide +kernel
theorem dX5_init_26 : decode cX5_init 26 = .ok (.aload_n 0, 1) := by decide +kernel
theorem dX5_init_27 : decode cX5_init 27 = .ok (.bipush 24, 2) := by decide +kernel
theorem dX5_init_29 : decode cX5_init 29 = .ok (.newarray .int, 2) := by decide +kernel
theorem dX5_init_31 : decode cX5_init 31 = .ok (.putfield 19, 3) := by decide +kernel
theorem dX5_init_34 : decode cX5_init 34 = .ok (.aload_n 0, 1) := by decide +kernel
theorem dX5_init_35 : decode cX5_init 35 = .ok (.bipush 8, 2) := by decide +kernel
theorem dX5_init_37 : decode cX5_init 37 = .ok (.newarray .int, 2) := by decide +kernel
theorem dX5_init_39 : decode cX5_init 39 = .ok (.putfield 22, 3) := by decide +kernel
theorem dX5_init_42 : decode cX5_init 42 = .ok (.aload_n 0, 1) := by decide +kernel
theorem dX5_init_43 : decode cX5_init 43 = .ok (.bipush 8, 2) := by decide +kernel
theorem dX5_init_45 : decode cX5_init 45 = .ok (.newarray .int, 2) := by decide +kernel
theorem dX5_init_47 : decode cX5_init 47 = .ok (.putfield 25, 3) := by decide +kernel
theorem dX5_init_50 : decode cX5_init 50 = .ok (.aload_n 0, 1) := by decide +kernel
theorem dX5_init_51 : decode cX5_init 51 = .ok (.bipush 8, 2) := by decide +kernel
theorem dX5_init_53 : decode cX5_init 53 = .ok (.newarray .int, 2) := by decide +kernel
theorem dX5_init_55 : decode cX5_init 55 = .ok (.putfield 28, 3) := by decide +kernel
theorem dX5_init_58 : decode cX5_init 58 = .ok (.aload_n 0, 1) := by decide +kernel
theorem dX5_init_59 : decode cX5_init 59 = .ok (.bipush 48, 2) := by decide +kernel
theorem dX5_init_61 : decode cX5_init 61 = .ok (.newarray .int, 2) := by decide +kernel
theorem dX5_init_63 : decode cX5_init 63 = .ok (.putfield 31, 3) := by decide +kernel
theorem dX5_init_66 : decode cX5_init 66 = .ok (.aload_n 0, 1) := by decide +kernel
theorem dX5_init_67 : decode cX5_init 67 = .ok (.bipush 24, 2) := by decide +kernel
theorem dX5_init_69 : decode cX5_init 69 = .ok (.newarray .int, 2) := by decide +kernel
theorem dX5_init_71 : decode cX5_init 71 = .ok (.putfield 34, 3) := by decide +kernel
theorem dX5_init_74 : decode cX5_init 74 = .ok (.aload_n 0, 1) := by decide +kernel
theorem dX5_init_75 : decode cX5_init 75 = .ok (.iconst 3, 1) := by decide +kernel
theorem dX5_init_76 : decode cX5_init 76 = .ok (.newarray .int, 2) := by decide +kernel
theorem dX5_init_78 : decode cX5_init 78 = .ok (.putfield 37, 3) := by decide +kernel
theorem dX5_init_81 : decode cX5_init 81 = .ok (.aload_n 0, 1) := by decide +kernel
theorem dX5_init_82 : decode cX5_init 82 = .ok (.sipush 256, 3) := by decide +kernel
theorem dX5_init_85 : decode cX5_init 85 = .ok (.newarray .boolean, 2) := by decide +kernel
theorem dX5_init_87 : decode cX5_init 87 = .ok (.putfield 40, 3) := by decide +kernel
theorem dX5_init_90 : decode cX5_init 90 = .ok (.aload_n 0, 1) := by decide +kernel
theorem dX5_init_91 : decode cX5_init 91 = .ok (.bipush 100, 2) := by decide +kernel
theorem dX5_init_93 : decode cX5_init 93 = .ok (.newarray .int, 2) := by decide +kernel
theorem dX5_init_95 : decode cX5_init 95 = .ok (.putfield 44, 3) := by decide +kernel
theorem dX5_init_98 : decode cX5_init 98 = .ok (.aload_n 0, 1) := by decide +kernel
theorem dX5_init_99 : decode cX5_init 99 = .ok (.sipush 256, 3) := by decide +kernel
theorem dX5_init_102 : decode cX5_init 102 = .ok (.newarray .int, 2) := by decide +kernel
theorem dX5_init_104 : decode cX5_init 104 = .ok (.putfield 47, 3) := by decide +kernel
theorem dX5_init_107 : decode cX5_init 107 = .ok (.aload_n 0, 1) := by decide +kernel
theorem dX5_init_108 : decode cX5_init 108 = .ok (.iconst 2, 1) := by decide +kernel
theorem dX5_init_109 : decode cX5_init 109 = .ok (.newarray .boolean, 2) := by decide +kernel
theorem dX5_init_111 : decode cX5_init 111 = .ok (.putfield 50, 3) := by decide +kernel
theorem dX5_init_114 : decode cX5_init 114 = .ok (.aload_n 0, 1) := by decide +kernel
theorem dX5_init_115 : decode cX5_init 115 = .ok (.bipush 16, 2) := by decide +kernel
theorem dX5_init_117 : decode cX5_init 117 = .ok (.newarray .int, 2) := by decide +kernel
theorem dX5_init_119 : decode cX5_init 119 = .ok (.putfield 53, 3) := by decide +kernel
theorem dX5_init_122 : decode cX5_init 122 = .ok (.aload_n 0, 1) := by decide +kernel
theorem dX5_init_123 : decode cX5_init 123 = .ok (.bipush 16, 2) := by decide +kernel
theorem dX5_init_125 : decode cX5_init 125 = .ok (.newarray .int, 2) := by decide +kernel
theorem dX5_init_127 : decode cX5_init 127 = .ok (.putfield 56, 3) := by decide +kernel
theorem dX5_init_130 : decode cX5_init 130 = .ok (.aload_n 0, 1) := by decide +kernel
theorem dX5_init_131 : decode cX5_init 131 = .ok (.bipush 16, 2) := by decide +kernel
theorem dX5_init_133 : decode cX5_init 133 = .ok (.newarray .int, 2) := by decide +kernel
theorem dX5_init_135 : decode cX5_init 135 = .ok (.putfield 59, 3) := by decide +kernel
theorem dX5_init_138 : decode cX5_init 138 = .ok (.aload_n 0, 1) := by decide +kernel
theorem dX5_init_139 : decode cX5_init 139 = .ok (.bipush 48, 2) := by decide +kernel
theorem dX5_init_141 : decode cX5_init 141 = .ok (.newarray .int, 2) := by decide +kernel
theorem dX5_init_143 : decode cX5_init 143 = .ok (.putfield 62, 3) := by decide +kernel
theorem dX5_init_146 : decode cX5_init 146 = .ok (.aload_n 0, 1) := by decide +kernel
theorem dX5_init_147 : decode cX5_init 147 = .ok (.iconst 4, 1) := by decide +kernel
theorem dX5_init_148 : decode cX5_init 148 = .ok (.newarray .int, 2) := by decide +kernel
theorem dX5_init_150 : decode cX5_init 150 = .ok (.putfield 65, 3) := by decide +kernel
theorem dX5_init_153 : decode cX5_init 153 = .ok (.aload_n 0, 1) := by decide +kernel
theorem dX5_init_154 : decode cX5_init 154 = .ok (.getfield 16, 3) := by decide +kernel
theorem dX5_init_157 : decode cX5_init 157 = .ok (.iconst 0, 1) := by decide +kernel
theorem dX5_init_158 : decode cX5_init 158 = .ok (.iconst 2, 1) := by decide +kernel
theorem dX5_init_159 : decode cX5_init 159 = .ok (.iastore, 1) := by decide +kernel
theorem dX5_init_160 : decode cX5_init 160 = .ok (.aload_n 0, 1) := by decide +kernel
theorem dX5_init_161 : decode cX5_init 161 = .ok (.getfield 16, 3) := by decide +kernel
theorem dX5_init_164 : decode cX5_init 164 = .ok (.iconst 1, 1) := by decide +kernel
theorem dX5_init_165 : decode cX5_init 165 = .ok (.iconst 1, 1) := by decide +kernel
theorem dX5_init_166 : decode cX5_init 166 = .ok (.iastore, 1) := by decide +kernel
theorem dX5_init_167 : decode cX5_init 167 = .ok (.aload_n 0, 1) := by decide +kernel
theorem dX5_init_168 : decode cX5_init 168 = .ok (.getfield 16, 3) := by decide +kernel
theorem dX5_init_171 : decode cX5_init 171 = .ok (.iconst 2, 1) := by decide +kernel
theorem dX5_init_172 : decode cX5_init 172 = .ok (.iconst 1, 1) := by decide +kernel
theorem dX5_init_173 : decode cX5_init 173 = .ok (.iastore, 1) := by decide +kernel
theorem dX5_init_174 : decode cX5_init 174 = .ok (.aload_n 0, 1) := by decide +kernel
theorem dX5_init_175 : decode cX5_init 175 = .ok (.getfield 16, 3) := by decide +kernel
theorem dX5_init_178 : decode cX5_init 178 = .ok (.iconst 3, 1) := by decide +kernel
theorem dX5_init_179 : decode cX5_init 179 = .ok (.bipush 8, 2) := by decide +kernel
theorem dX5_init_181 : decode cX5_init 181 = .ok (.iastore, 1) := by decide +kernel
theorem dX5_init_182 : decode cX5_init 182 = .ok (.return_, 1) := by decide +kernel
theorem dX5_in_0 : decode cX5_in 0 = .ok (.lload_n 0, 1) := by decide +kernel
theorem dX5_in_1 : decode cX5_in 1 = .ok (.lload_n 2, 1) := by decide +kernel
theorem dX5_in_2 : decode cX5_in 2 = .ok (.lcmp, 1) := by decide +kernel
theorem dX5_in_3 : decode cX5_in 3 = .ok (.ifCond .lt 14, 3) := by decide +kernel
theorem dX5_in_6 : decode cX5_in 6 = .ok (.lload_n 0, 1) := by decide +kernel
theorem dX5_in_7 : decode cX5_in 7 = .ok (.lload 4, 2) := by decide +kernel
theorem dX5_in_9 : decode cX5_in 9 = .ok (.lcmp, 1) := by decide +kernel
theorem dX5_in_10 : decode cX5_in 10 = .ok (.ifCond .gt 7, 3) := by decide +kernel
theorem dX5_in_13 : decode cX5_in 13 = .ok (.iconst 1, 1) := by decide +kernel
theorem dX5_in_14 : decode cX5_in 14 = .ok (.goto 4, 3) := by decide +kernel
theorem dX5_in_17 : decode cX5_in 17 = .ok (.iconst 0, 1) := by decide +kernel
theorem dX5_in_18 : decode cX5_in 18 = .ok (.ireturn, 1) := by decide +kernel
theorem dX5_write_0 : decode cX5_write 0 = .ok (.iload_n 1, 1) := by decide +kernel
theorem dX5_write_1 : decode cX5_write 1 = .ok (.i2l, 1) := by decide +kernel
theorem dX5_write_2 : decode cX5_write 2 = .ok (.lconst 1, 1) := by decide +kernel
theorem dX5_write_3 : decode cX5_write 3 = .ok (.ldc2_w 68, 3) := by decide +kernel
theorem dX5_write_6 : decode cX5_write 6 = .ok (.invokestatic 70, 3) := by decide +kernel
theorem dX5_write_9 : decode cX5_write 9 = .ok (.ifCond .ne 6, 3) := by decide +kernel
theorem dX5_write_12 : decode cX5_write 12 = .ok (.bipush (-2), 2) := by decide +kernel
theorem dX5_write_14 : decode cX5_write 14 = .ok (.ireturn, 1) := by decide +kernel
theorem dX5_write_15 : decode cX5_write 15 = .ok (.aload_n 0, 1) := by decide +kernel
theorem dX5_write_16 : decode cX5_write 16 = .ok (.getfield 74, 3) := by decide +kernel
theorem dX5_write_19 : decode cX5_write 19 = .ok (.iload_n 1, 1) := by decide +kernel
theorem dX5_write_20 : decode cX5_write 20 = .ok (.iadd, 1) := by decide +kernel
theorem dX5_write_21 : decode cX5_write 21 = .ok (.bipush 48, 2) := by decide +kernel
theorem dX5_write_23 : decode cX5_write 23 = .ok (.if_icmp .le 6, 3) := by decide +kernel
theorem dX5_write_26 : decode cX5_write 26 = .ok (.bipush (-4), 2) := by decide +kernel
theorem dX5_write_28 : decode cX5_write 28 = .ok (.ireturn, 1) := by decide +kernel
theorem dX5_write_29 : decode cX5_write 29 = .ok (.iload_n 1, 1) := by decide +kernel
theorem dX5_write_30 : decode cX5_write 30 = .ok (.iconst 1, 1) := by decide +kernel
theorem dX5_write_31 : decode cX5_write 31 = .ok (.isub, 1) := by decide +kernel
theorem dX5_write_32 : decode cX5_write 32 = .ok (.istore 4, 2) := by decide +kernel
theorem dX5_write_34 : decode cX5_write 34 = .ok (.iload 4, 2) := by decide +kernel
theorem dX5_write_36 : decode cX5_write 36 = .ok (.ifCond .lt 40, 3) := by decide +kernel
theorem dX5_write_39 : decode cX5_write 39 = .ok (.aload_n 0, 1) := by decide +kernel
theorem dX5_write_40 : decode cX5_write 40 = .ok (.getfield 31, 3) := by decide +kernel
theorem dX5_write_43 : decode cX5_write 43 = .ok (.aload_n 0, 1) := by decide +kernel
theorem dX5_write_44 : decode cX5_write 44 = .ok (.getfield 74, 3) := by decide +kernel
theorem dX5_write_47 : decode cX5_write 47 = .ok (.lload_n 2, 1) := by decide +kernel
theorem dX5_write_48 : decode cX5_write 48 = .ok (.bipush 8, 2) := by decide +kernel
theorem dX5_write_50 : decode cX5_write 50 = .ok (.iload 4, 2) := by decide +kernel
theorem dX5_write_52 : decode cX5_write 52 = .ok (.imul, 1) := by decide +kernel
theorem dX5_write_53 : decode cX5_write 53 = .ok (.lshr, 1) := by decide +kernel
theorem dX5_write_54 : decode cX5_write 54 = .ok (.ldc2_w 78, 3) := by decide +kernel
theorem dX5_write_57 : decode cX5_write 57 = .ok (.land, 1) := by decide +kernel
theorem dX5_write_58 : decode cX5_write 58 = .ok (.l2i, 1) := by decide +kernel
theorem dX5_write_59 : decode cX5_write 59 = .ok (.iastore, 1) := by decide +kernel
theorem dX5_write_60 : decode cX5_write 60 = .ok (.aload_n 0, 1) := by decide +kernel
theorem dX5_write_61 : decode cX5_write 61 = .ok (.dup, 1) := by decide +kernel
theorem dX5_write_62 : decode cX5_write 62 = .ok (.getfield 74, 3) := by decide +kernel
theorem dX5_write_65 : decode cX5_write 65 = .ok (.iconst 1, 1) := by decide +kernel
theorem dX5_write_66 : decode cX5_write 66 = .ok (.iadd, 1) := by decide +kernel
theorem dX5_write_67 : decode cX5_write 67 = .ok (.putfield 74, 3) := by decide +kernel
theorem dX5_write_70 : decode cX5_write 70 = .ok (.iinc 4 (-1), 3) := by decide +kernel
theorem dX5_write_73 : decode cX5_write 73 = .ok (.goto (-39), 3) := by decide +kernel
theorem dX5_write_76 : decode cX5_write 76 = .ok (.aload_n 0, 1) := by decide +kernel
theorem dX5_write_77 : decode cX5_write 77 = .ok (.getfield 74, 3) := by decide +kernel
theorem dX5_write_80 : decode cX5_write 80 = .ok (.ireturn, 1) := by decide +kernel
theorem dX5_wipe_0 : decode cX5_wipe 0 = .ok (.aload_n 0, 1) := by decide +kernel
theorem dX5_wipe_1 : decode cX5_wipe 1 = .ok (.getfield 74, 3) := by decide +kernel
theorem dX5_wipe_4 : decode cX5_wipe 4 = .ok (.istore_n 1, 1) := by decide +kernel
theorem dX5_wipe_5 : decode cX5_wipe 5 = .ok (.aload_n 0, 1) := by decide +kernel
theorem dX5_wipe_6 : decode cX5_wipe 6 = .ok (.iconst 0, 1) := by decide +kernel
theorem dX5_wipe_7 : decode cX5_wipe 7 = .ok (.putfield 74, 3) := by decide +kernel
theorem dX5_wipe_10 : decode cX5_wipe 10 = .ok (.iload_n 1, 1) := by decide +kernel
theorem dX5_wipe_11 : decode cX5_wipe 11 = .ok (.ireturn, 1) := by decide +kernel
theorem dX5_figure_0 : decode cX5_figure 0 = .ok (.aload_n 0, 1) := by decide +kernel
theorem dX5_figure_1 : decode cX5_figure 1 = .ok (.getfield 80, 3) := by decide +kernel
theorem dX5_figure_4 : decode cX5_figure 4 = .ok (.bipush (-9), 2) := by decide +kernel
theorem dX5_figure_6 : decode cX5_figure 6 = .ok (.if_icmp .ne 29, 3) := by decide +kernel
theorem dX5_figure_9 : decode cX5_figure 9 = .ok (.aload_n 0, 1) := by decide +kernel
theorem dX5_figure_10 : decode cX5_figure 10 = .ok (.getfield 83, 3) := by decide +kernel
theorem dX5_figure_13 : decode cX5_figure 13 = .ok (.aload_n 0, 1) := by decide +kernel
theorem dX5_figure_14 : decode cX5_figure 14 = .ok (.getfield 74, 3) := by decide +kernel
theorem dX5_figure_17 : decode cX5_figure 17 = .ok (.if_icmp .ge 18, 3) := by decide +kernel
theorem dX5_figure_20 : decode cX5_figure 20 = .ok (.aload_n 0, 1) := by decide +kernel
theorem dX5_figure_21 : decode cX5_figure 21 = .ok (.getfield 31, 3) := by decide +kernel
theorem dX5_figure_24 : decode cX5_figure 24 = .ok (.aload_n 0, 1) := by decide +kernel
theorem dX5_figure_25 : decode cX5_figure 25 = .ok (.getfield 83, 3) := by decide +kernel
theorem dX5_figure_28 : decode cX5_figure 28 = .ok (.iaload, 1) := by decide +kernel
theorem dX5_figure_29 : decode cX5_figure 29 = .ok (.bipush 48, 2) := by decide +kernel
theorem dX5_figure_31 : decode cX5_figure 31 = .ok (.isub, 1) := by decide +kernel
theorem dX5_figure_32 : decode cX5_figure 32 = .ok (.goto 4, 3) := by decide +kernel
theorem dX5_figure_35 : decode cX5_figure 35 = .ok (.iconst (-1), 1) := by decide +kernel
theorem dX5_figure_36 : decode cX5_figure 36 = .ok (.istore_n 2, 1) := by decide +kernel
theorem dX5_figure_37 : decode cX5_figure 37 = .ok (.iload_n 2, 1) := by decide +kernel
theorem dX5_figure_38 : decode cX5_figure 38 = .ok (.i2l, 1) := by decide +kernel
theorem dX5_figure_39 : decode cX5_figure 39 = .ok (.lconst 0, 1) := by decide +kernel
theorem dX5_figure_40 : decode cX5_figure 40 = .ok (.ldc2_w 86, 3) := by decide +kernel
theorem dX5_figure_43 : decode cX5_figure 43 = .ok (.invokestatic 70, 3) := by decide +kernel
theorem dX5_figure_46 : decode cX5_figure 46 = .ok (.ifCond .eq 11, 3) := by decide +kernel
theorem dX5_figure_49 : decode cX5_figure 49 = .ok (.iload_n 1, 1) := by decide +kernel
theorem dX5_figure_50 : decode cX5_figure 50 = .ok (.iload_n 2, 1) := by decide +kernel
theorem dX5_figure_51 : decode cX5_figure 51 = .ok (.ishr, 1) := by decide +kernel
theorem dX5_figure_52 : decode cX5_figure 52 = .ok (.iconst 1, 1) := by decide +kernel
theorem dX5_figure_53 : decode cX5_figure 53 = .ok (.iand, 1) := by decide +kernel
theorem dX5_figure_54 : decode cX5_figure 54 = .ok (.ifCond .ne 29, 3) := by decide +kernel
theorem dX5_figure_57 : decode cX5_figure 57 = .ok (.aload_n 0, 1) := by decide +kernel
theorem dX5_figure_58 : decode cX5_figure 58 = .ok (.aload_n 0, 1) := by decide +kernel
theorem dX5_figure_59 : decode cX5_figure 59 = .ok (.getfield 80, 3) := by decide +kernel
theorem dX5_figure_62 : decode cX5_figure 62 = .ok (.bipush (-9), 2) := by decide +kernel
theorem dX5_figure_64 : decode cX5_figure 64 = .ok (.if_icmp .ne 10, 3) := by decide +kernel
theorem dX5_figure_67 : decode cX5_figure 67 = .ok (.aload_n 0, 1) := by decide +kernel
theorem dX5_figure_68 : decode cX5_figure 68 = .ok (.getfield 83, 3) := by decide +kernel
theorem dX5_figure_71 : decode cX5_figure 71 = .ok (.goto 7, 3) := by decide +kernel
theorem dX5_figure_74 : decode cX5_figure 74 = .ok (.aload_n 0, 1) := by decide +kernel
theorem dX5_figure_75 : decode cX5_figure 75 = .ok (.getfield 80, 3) := by decide +kernel
theorem dX5_figure_78 : decode cX5_figure 78 = .ok (.putfield 80, 3) := by decide +kernel
theorem dX5_figure_81 : decode cX5_figure 81 = .ok (.iconst 0, 1) := by decide +kernel
theorem dX5_figure_82 : decode cX5_figure 82 = .ok (.ireturn, 1) := by decide +kernel
theorem dX5_figure_83 : decode cX5_figure 83 = .ok (.aload_n 0, 1) := by decide +kernel
theorem dX5_figure_84 : decode cX5_figure 84 = .ok (.dup, 1) := by decide +kernel
theorem dX5_figure_85 : decode cX5_figure 85 = .ok (.getfield 83, 3) := by decide +kernel
theorem dX5_figure_88 : decode cX5_figure 88 = .ok (.iconst 1, 1) := by decide +kernel
theorem dX5_figure_89 : decode cX5_figure 89 = .ok (.iadd, 1) := by decide +kernel
theorem dX5_figure_90 : decode cX5_figure 90 = .ok (.putfield 83, 3) := by decide +kernel
theorem dX5_figure_93 : decode cX5_figure 93 = .ok (.iload_n 2, 1) := by decide +kernel
theorem dX5_figure_94 : decode cX5_figure 94 = .ok (.ireturn, 1) := by decide +kernel
theorem dX5_readText_0 : decode cX5_readText 0 = .ok (.aload_n 0, 1) := by decide +kernel
theorem dX5_readText_1 : decode cX5_readText 1 = .ok (.iconst 0, 1) := by decide +kernel
theorem dX5_readText_2 : decode cX5_readText 2 = .ok (.putfield 83, 3) := by decide +kernel
theorem dX5_readText_5 : decode cX5_readText 5 = .ok (.aload_n 0, 1) := by decide +kernel
theorem dX5_readText_6 : decode cX5_readText 6 = .ok (.bipush (-9), 2) := by decide +kernel
theorem dX5_readText_8 : decode cX5_readText 8 = .ok (.putfield 80, 3) := by decide +kernel
theorem dX5_readText_11 : decode cX5_readText 11 = .ok (.aload_n 0, 1) := by decide +kernel
theorem dX5_readText_12 : decode cX5_readText 12 = .ok (.iconst 0, 1) := by decide +kernel
theorem dX5_readText_13 : decode cX5_readText 13 = .ok (.putfield 88, 3) := by decide +kernel
theorem dX5_readText_16 : decode cX5_readText 16 = .ok (.aload_n 0, 1) := by decide +kernel
theorem dX5_readText_17 : decode cX5_readText 17 = .ok (.getfield 74, 3) := by decide +kernel
theorem dX5_readText_20 : decode cX5_readText 20 = .ok (.ifCond .eq 14, 3) := by decide +kernel
theorem dX5_readText_23 : decode cX5_readText 23 = .ok (.aload_n 0, 1) := by decide +kernel
theorem dX5_readText_24 : decode cX5_readText 24 = .ok (.getfield 31, 3) := by decide +kernel
theorem dX5_readText_27 : decode cX5_readText 27 = .ok (.iconst 0, 1) := by decide +kernel
theorem dX5_readText_28 : decode cX5_readText 28 = .ok (.iaload, 1) := by decide +kernel
theorem dX5_readText_29 : decode cX5_readText 29 = .ok (.bipush 66, 2) := by decide +kernel
theorem dX5_readText_31 : decode cX5_readText 31 = .ok (.if_icmp .eq 5, 3) := by decide +kernel
theorem dX5_readText_34 : decode cX5_readText 34 = .ok (.iconst 0, 1) := by decide +kernel
theorem dX5_readText_35 : decode cX5_readText 35 = .ok (.ireturn, 1) := by decide +kernel
theorem dX5_readText_36 : decode cX5_readText 36 = .ok (.aload_n 0, 1) := by decide +kernel
theorem dX5_readText_37 : decode cX5_readText 37 = .ok (.iconst 1, 1) := by decide +kernel
theorem dX5_readText_38 : decode cX5_readText 38 = .ok (.putfield 83, 3) := by decide +kernel
theorem dX5_readText_41 : decode cX5_readText 41 = .ok (.aload_n 0, 1) := by decide +kernel
theorem dX5_readText_42 : decode cX5_readText 42 = .ok (.getfield 7, 3) := by decide +kernel
theorem dX5_readText_45 : decode cX5_readText 45 = .ok (.iconst 0, 1) := by decide +kernel
theorem dX5_readText_46 : decode cX5_readText 46 = .ok (.aload_n 0, 1) := by decide +kernel
theorem dX5_readText_47 : decode cX5_readText 47 = .ok (.bipush 12, 2) := by decide +kernel
theorem dX5_readText_49 : decode cX5_readText 49 = .ok (.invokevirtual 91, 3) := by decide +kernel
theorem dX5_readText_52 : decode cX5_readText 52 = .ok (.iastore, 1) := by decide +kernel
theorem dX5_readText_53 : decode cX5_readText 53 = .ok (.aload_n 0, 1) := by decide +kernel
theorem dX5_readText_54 : decode cX5_readText 54 = .ok (.getfield 7, 3) := by decide +kernel
theorem dX5_readText_57 : decode cX5_readText 57 = .ok (.iconst 1, 1) := by decide +kernel
theorem dX5_readText_58 : decode cX5_readText 58 = .ok (.aload_n 0, 1) := by decide +kernel
theorem dX5_readText_59 : decode cX5_readText 59 = .ok (.bipush 14, 2) := by decide +kernel
theorem dX5_readText_61 : decode cX5_readText 61 = .ok (.invokevirtual 91, 3) := by decide +kernel
theorem dX5_readText_64 : decode cX5_readText 64 = .ok (.iastore, 1) := by decide +kernel
theorem dX5_readText_65 : decode cX5_readText 65 = .ok (.aload_n 0, 1) := by decide +kernel
theorem dX5_readText_66 : decode cX5_readText 66 = .ok (.getfield 7, 3) := by decide +kernel
theorem dX5_readText_69 : decode cX5_readText 69 = .ok (.iconst 2, 1) := by decide +kernel
theorem dX5_readText_70 : decode cX5_readText 70 = .ok (.aload_n 0, 1) := by decide +kernel
theorem dX5_readText_71 : decode cX5_readText 71 = .ok (.bipush 14, 2) := by decide +kernel
theorem dX5_readText_73 : decode cX5_readText 73 = .ok (.invokevirtual 91, 3) := by decide +kernel
theorem dX5_readText_76 : decode cX5_readText 76 = .ok (.iastore, 1) := by decide +kernel
theorem dX5_readText_77 : decode cX5_readText 77 = .ok (.aload_n 0, 1) := by decide +kernel
theorem dX5_readText_78 : decode cX5_readText 78 = .ok (.getfield 7, 3) := by decide +kernel
theorem dX5_readText_81 : decode cX5_readText 81 = .ok (.iconst 3, 1) := by decide +kernel
theorem dX5_readText_82 : decode cX5_readText 82 = .ok (.aload_n 0, 1) := by decide +kernel
theorem dX5_readText_83 : decode cX5_readText 83 = .ok (.sipush 510, 3) := by decide +kernel
theorem dX5_readText_86 : decode cX5_readText 86 = .ok (.invokevirtual 91, 3) := by decide +kernel
theorem dX5_readText_89 : decode cX5_readText 89 = .ok (.iastore, 1) := by decide +kernel
theorem dX5_readText_90 : decode cX5_readText 90 = .ok (.aload_n 0, 1) := by decide +kernel
theorem dX5_readText_91 : decode cX5_readText 91 = .ok (.getfield 7, 3) := by decide +kernel
theorem dX5_readText_94 : decode cX5_readText 94 = .ok (.iconst 4, 1) := by decide +kernel
theorem dX5_readText_95 : decode cX5_readText 95 = .ok (.aload_n 0, 1) := by decide +kernel
theorem dX5_readText_96 : decode cX5_readText 96 = .ok (.sipush 1023, 3) := by decide +kernel
theorem dX5_readText_99 : decode cX5_readText 99 = .ok (.invokevirtual 91, 3) := by decide +kernel
theorem dX5_readText_102 : decode cX5_readText 102 = .ok (.iastore, 1) := by decide +kernel
theorem dX5_readText_103 : decode cX5_readText 103 = .ok (.aload_n 0, 1) := by decide +kernel
theorem dX5_readText_104 : decode cX5_readText 104 = .ok (.getfield 80, 3) := by decide +kernel
theorem dX5_readText_107 : decode cX5_readText 107 = .ok (.bipush (-9), 2) := by decide +kernel
theorem dX5_readText_109 : decode cX5_readText 109 = .ok (.if_icmp .ne 158, 3) := by decide +kernel
theorem dX5_readText_112 : decode cX5_readText 112 = .ok (.aload_n 0, 1) := by decide +kernel
theorem dX5_readText_113 : decode cX5_readText 113 = .ok (.getfield 83, 3) := by decide +kernel
theorem dX5_readText_116 : decode cX5_readText 116 = .ok (.aload_n 0, 1) := by decide +kernel
theorem dX5_readText_117 : decode cX5_readText 117 = .ok (.getfield 74, 3) := by decide +kernel
theorem dX5_readText_120 : decode cX5_readText 120 = .ok (.if_icmp .ge 147, 3) := by decide +kernel
theorem dX5_readText_123 : decode cX5_readText 123 = .ok (.aload_n 0, 1) := by decide +kernel
theorem dX5_readText_124 : decode cX5_readText 124 = .ok (.getfield 31, 3) := by decide +kernel
theorem dX5_readText_127 : decode cX5_readText 127 = .ok (.aload_n 0, 1) := by decide +kernel
theorem dX5_readText_128 : decode cX5_readText 128 = .ok (.getfield 83, 3) := by decide +kernel
theorem dX5_readText_131 : decode cX5_readText 131 = .ok (.iaload, 1) := by decide +kernel
theorem dX5_readText_132 : decode cX5_readText 132 = .ok (.bipush 80, 2) := by decide +kernel
theorem dX5_readText_134 : decode cX5_readText 134 = .ok (.if_icmp .ne 122, 3) := by decide +kernel
theorem dX5_readText_137 : decode cX5_readText 137 = .ok (.aload_n 0, 1) := by decide +kernel
theorem dX5_readText_138 : decode cX5_readText 138 = .ok (.getfield 88, 3) := by decide +kernel
theorem dX5_readText_141 : decode cX5_readText 141 = .ok (.bipush 8, 2) := by decide +kernel
theorem dX5_readText_143 : decode cX5_readText 143 = .ok (.if_icmp .ge 113, 3) := by decide +kernel
theorem dX5_readText_146 : decode cX5_readText 146 = .ok (.aload_n 0, 1) := by decide +kernel
theorem dX5_readText_147 : decode cX5_readText 147 = .ok (.dup, 1) := by decide +kernel
theorem dX5_readText_148 : decode cX5_readText 148 = .ok (.getfield 83, 3) := by decide +kernel
theorem dX5_readText_151 : decode cX5_readText 151 = .ok (.iconst 1, 1) := by decide +kernel
theorem dX5_readText_152 : decode cX5_readText 152 = .ok (.iadd, 1) := by decide +kernel
theorem dX5_readText_153 : decode cX5_readText 153 = .ok (.putfield 83, 3) := by decide +kernel
theorem dX5_readText_156 : decode cX5_readText 156 = .ok (.iconst 3, 1) := by decide +kernel
theorem dX5_readText_157 : decode cX5_readText 157 = .ok (.aload_n 0, 1) := by decide +kernel
theorem dX5_readText_158 : decode cX5_readText 158 = .ok (.getfield 88, 3) := by decide +kernel
theorem dX5_readText_161 : decode cX5_readText 161 = .ok (.imul, 1) := by decide +kernel
theorem dX5_readText_162 : decode cX5_readText 162 = .ok (.istore_n 1, 1) := by decide +kernel
theorem dX5_readText_163 : decode cX5_readText 163 = .ok (.aload_n 0, 1) := by decide +kernel
theorem dX5_readText_164 : decode cX5_readText 164 = .ok (.sipush 1023, 3) := by decide +kernel
theorem dX5_readText_167 : decode cX5_readText 167 = .ok (.invokevirtual 91, 3) := by decide +kernel
theorem dX5_readText_170 : decode cX5_readText 170 = .ok (.istore_n 2, 1) := by decide +kernel
theorem dX5_readText_171 : decode cX5_readText 171 = .ok (.aload_n 0, 1) := by decide +kernel
theorem dX5_readText_172 : decode cX5_readText 172 = .ok (.getfield 13, 3) := by decide +kernel
theorem dX5_readText_175 : decode cX5_readText 175 = .ok (.iload_n 1, 1) := by decide +kernel
theorem dX5_readText_176 : decode cX5_readText 176 = .ok (.bipush 10, 2) := by decide +kernel
theorem dX5_readText_178 : decode cX5_readText 178 = .ok (.iload_n 2, 1) := by decide +kernel
theorem dX5_readText_179 : decode cX5_readText 179 = .ok (.imul, 1) := by decide +kernel
theorem dX5_readText_180 : decode cX5_readText 180 = .ok (.aload_n 0, 1) := by decide +kernel
theorem dX5_readText_181 : decode cX5_readText 181 = .ok (.iload_n 2, 1) := by decide +kernel
theorem dX5_readText_182 : decode cX5_readText 182 = .ok (.ifCond .ne 9, 3) := by decide +kernel
theorem dX5_readText_185 : decode cX5_readText 185 = .ok (.sipush 1022, 3) := by decide +kernel
theorem dX5_readText_188 : decode cX5_readText 188 = .ok (.goto 6, 3) := by decide +kernel
theorem dX5_readText_191 : decode cX5_readText 191 = .ok (.sipush 1023, 3) := by decide +kernel
theorem dX5_readText_194 : decode cX5_readText 194 = .ok (.invokevirtual 91, 3) := by decide +kernel
theorem dX5_readText_197 : decode cX5_readText 197 = .ok (.iadd, 1) := by decide +kernel
theorem dX5_readText_198 : decode cX5_readText 198 = .ok (.iastore, 1) := by decide +kernel
theorem dX5_readText_199 : decode cX5_readText 199 = .ok (.aload_n 0, 1) := by decide +kernel
theorem dX5_readText_200 : decode cX5_readText 200 = .ok (.getfield 13, 3) := by decide +kernel
theorem dX5_readText_203 : decode cX5_readText 203 = .ok (.iload_n 1, 1) := by decide +kernel
theorem dX5_readText_204 : decode cX5_readText 204 = .ok (.iconst 1, 1) := by decide +kernel
theorem dX5_readText_205 : decode cX5_readText 205 = .ok (.iadd, 1) := by decide +kernel
theorem dX5_readText_206 : decode cX5_readText 206 = .ok (.aload_n 0, 1) := by decide +kernel
theorem dX5_readText_207 : decode cX5_readText 207 = .ok (.sipush 1023, 3) := by decide +kernel
theorem dX5_readText_210 : decode cX5_readText 210 = .ok (.invokevirtual 91, 3) := by decide +kernel
theorem dX5_readText_213 : decode cX5_readText 213 = .ok (.iastore, 1) := by decide +kernel
theorem dX5_readText_214 : decode cX5_readText 214 = .ok (.aload_n 0, 1) := by decide +kernel
theorem dX5_readText_215 : decode cX5_readText 215 = .ok (.getfield 13, 3) := by decide +kernel
theorem dX5_readText_218 : decode cX5_readText 218 = .ok (.iload_n 1, 1) := by decide +kernel
theorem dX5_readText_219 : decode cX5_readText 219 = .ok (.iconst 2, 1) := by decide +kernel
theorem dX5_readText_220 : decode cX5_readText 220 = .ok (.iadd, 1) := by decide +kernel
theorem dX5_readText_221 : decode cX5_readText 221 = .ok (.aload_n 0, 1) := by decide +kernel
theorem dX5_readText_222 : decode cX5_readText 222 = .ok (.aload_n 0, 1) := by decide +kernel
theorem dX5_readText_223 : decode cX5_readText 223 = .ok (.getfield 7, 3) := by decide +kernel
theorem dX5_readText_226 : decode cX5_readText 226 = .ok (.iconst 0, 1) := by decide +kernel
theorem dX5_readText_227 : decode cX5_readText 227 = .ok (.iaload, 1) := by decide +kernel
theorem dX5_readText_228 : decode cX5_readText 228 = .ok (.iconst 2, 1) := by decide +kernel
theorem dX5_readText_229 : decode cX5_readText 229 = .ok (.if_icmp .ne 8, 3) := by decide +kernel
theorem dX5_readText_232 : decode cX5_readText 232 = .ok (.bipush 11, 2) := by decide +kernel
theorem dX5_readText_234 : decode cX5_readText 234 = .ok (.goto 5, 3) := by decide +kernel
theorem dX5_readText_237 : decode cX5_readText 237 = .ok (.bipush 15, 2) := by decide +kernel
theorem dX5_readText_239 : decode cX5_readText 239 = .ok (.invokevirtual 91, 3) := by decide +kernel
theorem dX5_readText_242 : decode cX5_readText 242 = .ok (.iastore, 1) := by decide +kernel
theorem dX5_readText_243 : decode cX5_readText 243 = .ok (.aload_n 0, 1) := by decide +kernel
theorem dX5_readText_244 : decode cX5_readText 244 = .ok (.dup, 1) := by decide +kernel
theorem dX5_readText_245 : decode cX5_readText 245 = .ok (.getfield 88, 3) := by decide +kernel
theorem dX5_readText_248 : decode cX5_readText 248 = .ok (.iconst 1, 1) := by decide +kernel
theorem dX5_readText_249 : decode cX5_readText 249 = .ok (.iadd, 1) := by decide +kernel
theorem dX5_readText_250 : decode cX5_readText 250 = .ok (.putfield 88, 3) := by decide +kernel
theorem dX5_readText_253 : decode cX5_readText 253 = .ok (.goto (-150), 3) := by decide +kernel
theorem dX5_readText_256 : decode cX5_readText 256 = .ok (.aload_n 0, 1) := by decide +kernel
theorem dX5_readText_257 : decode cX5_readText 257 = .ok (.aload_n 0, 1) := by decide +kernel
theorem dX5_readText_258 : decode cX5_readText 258 = .ok (.getfield 83, 3) := by decide +kernel
theorem dX5_readText_261 : decode cX5_readText 261 = .ok (.putfield 80, 3) := by decide +kernel
theorem dX5_readText_264 : decode cX5_readText 264 = .ok (.goto (-161), 3) := by decide +kernel
theorem dX5_readText_267 : decode cX5_readText 267 = .ok (.aload_n 0, 1) := by decide +kernel
theorem dX5_readText_268 : decode cX5_readText 268 = .ok (.getfield 80, 3) := by decide +kernel
theorem dX5_readText_271 : decode cX5_readText 271 = .ok (.ireturn, 1) := by decide +kernel
theorem dX5_fault_0 : decode cX5_fault 0 = .ok (.aload_n 0, 1) := by decide +kernel
theorem dX5_fault_1 : decode cX5_fault 1 = .ok (.invokevirtual 95, 3) := by decide +kernel
theorem dX5_fault_4 : decode cX5_fault 4 = .ok (.ireturn, 1) := by decide +kernel
theorem dX5_ferry_0 : decode cX5_ferry 0 = .ok (.aload_n 0, 1) := by decide +kernel
theorem dX5_ferry_1 : decode cX5_ferry 1 = .ok (.invokevirtual 95, 3) := by decide +kernel
theorem dX5_ferry_4 : decode cX5_ferry 4 = .ok (.bipush (-9), 2) := by decide +kernel
theorem dX5_ferry_6 : decode cX5_ferry 6 = .ok (.if_icmp .eq 6, 3) := by decide +kernel
theorem dX5_ferry_9 : decode cX5_ferry 9 = .ok (.bipush (-3), 2) := by decide +kernel
theorem dX5_ferry_11 : decode cX5_ferry 11 = .ok (.ireturn, 1) := by decide +kernel
theorem dX5_ferry_12 : decode cX5_ferry 12 = .ok (.iconst 0, 1) := by decide +kernel
theorem dX5_ferry_13 : decode cX5_ferry 13 = .ok (.istore_n 1, 1) := by decide +kernel
theorem dX5_ferry_14 : decode cX5_ferry 14 = .ok (.iload_n 1, 1) := by decide +kernel
theorem dX5_ferry_15 : decode cX5_ferry 15 = .ok (.iconst 5, 1) := by decide +kernel
theorem dX5_ferry_16 : decode cX5_ferry 16 = .ok (.if_icmp .ge 21, 3) := by decide +kernel
theorem dX5_ferry_19 : decode cX5_ferry 19 = .ok (.aload_n 0, 1) := by decide +kernel
theorem dX5_ferry_20 : decode cX5_ferry 20 = .ok (.getfield 16, 3) := by decide +kernel
theorem dX5_ferry_23 : decode cX5_ferry 23 = .ok (.iload_n 1, 1) := by decide +kernel
theorem dX5_ferry_24 : decode cX5_ferry 24 = .ok (.aload_n 0, 1) := by decide +kernel
theorem dX5_ferry_25 : decode cX5_ferry 25 = .ok (.getfield 7, 3) := by decide +kernel
theorem dX5_ferry_28 : decode cX5_ferry 28 = .ok (.iload_n 1, 1) := by decide +kernel
theorem dX5_ferry_29 : decode cX5_ferry 29 = .ok (.iaload, 1) := by decide +kernel
theorem dX5_ferry_30 : decode cX5_ferry 30 = .ok (.iastore, 1) := by decide +kernel
theorem dX5_ferry_31 : decode cX5_ferry 31 = .ok (.iinc 1 1, 3) := by decide +kernel
theorem dX5_ferry_34 : decode cX5_ferry 34 = .ok (.goto (-20), 3) := by decide +kernel
theorem dX5_ferry_37 : decode cX5_ferry 37 = .ok (.aload_n 0, 1) := by decide +kernel
theorem dX5_ferry_38 : decode cX5_ferry 38 = .ok (.aload_n 0, 1) := by decide +kernel
theorem dX5_ferry_39 : decode cX5_ferry 39 = .ok (.getfield 88, 3) := by decide +kernel
theorem dX5_ferry_42 : decode cX5_ferry 42 = .ok (.putfield 99, 3) := by decide +kernel
theorem dX5_ferry_45 : decode cX5_ferry 45 = .ok (.iconst 0, 1) := by decide +kernel
theorem dX5_ferry_46 : decode cX5_ferry 46 = .ok (.istore_n 1, 1) := by decide +kernel
theorem dX5_ferry_47 : decode cX5_ferry 47 = .ok (.iload_n 1, 1) := by decide +kernel
theorem dX5_ferry_48 : decode cX5_ferry 48 = .ok (.aload_n 0, 1) := by decide +kernel
theorem dX5_ferry_49 : decode cX5_ferry 49 = .ok (.getfield 99, 3) := by decide +kernel
theorem dX5_ferry_52 : decode cX5_ferry 52 = .ok (.if_icmp .ge 94, 3) := by decide +kernel
theorem dX5_ferry_55 : decode cX5_ferry 55 = .ok (.aload_n 0, 1) := by decide +kernel
theorem dX5_ferry_56 : decode cX5_ferry 56 = .ok (.getfield 19, 3) := by decide +kernel
theorem dX5_ferry_59 : decode cX5_ferry 59 = .ok (.iconst 3, 1) := by decide +kernel
theorem dX5_ferry_60 : decode cX5_ferry 60 = .ok (.iload_n 1, 1) := by decide +kernel
theorem dX5_ferry_61 : decode cX5_ferry 61 = .ok (.imul, 1) := by decide +kernel
theorem dX5_ferry_62 : decode cX5_ferry 62 = .ok (.aload_n 0, 1) := by decide +kernel
theorem dX5_ferry_63 : decode cX5_ferry 63 = .ok (.getfield 13, 3) := by decide +kernel
theorem dX5_ferry_66 : decode cX5_ferry 66 = .ok (.iconst 3, 1) := by decide +kernel
theorem dX5_ferry_67 : decode cX5_ferry 67 = .ok (.iload_n 1, 1) := by decide +kernel
theorem dX5_ferry_68 : decode cX5_ferry 68 = .ok (.imul, 1) := by decide +kernel
theorem dX5_ferry_69 : decode cX5_ferry 69 = .ok (.iaload, 1) := by decide +kernel
theorem dX5_ferry_70 : decode cX5_ferry 70 = .ok (.iastore, 1) := by decide +kernel
theorem dX5_ferry_71 : decode cX5_ferry 71 = .ok (.aload_n 0, 1) := by decide +kernel
theorem dX5_ferry_72 : decode cX5_ferry 72 = .ok (.getfield 19, 3) := by decide +kernel
theorem dX5_ferry_75 : decode cX5_ferry 75 = .ok (.iconst 3, 1) := by decide +kernel
theorem dX5_ferry_76 : decode cX5_ferry 76 = .ok (.iload_n 1, 1) := by decide +kernel
theorem dX5_ferry_77 : decode cX5_ferry 77 = .ok (.imul, 1) := by decide +kernel
theorem dX5_ferry_78 : decode cX5_ferry 78 = .ok (.iconst 1, 1) := by decide +kernel
theorem dX5_ferry_79 : decode cX5_ferry 79 = .ok (.iadd, 1) := by decide +kernel
theorem dX5_ferry_80 : decode cX5_ferry 80 = .ok (.aload_n 0, 1) := by decide +kernel
theorem dX5_ferry_81 : decode cX5_ferry 81 = .ok (.getfield 13, 3) := by decide +kernel
theorem dX5_ferry_84 : decode cX5_ferry 84 = .ok (.iconst 3, 1) := by decide +kernel
theorem dX5_ferry_85 : decode cX5_ferry 85 = .ok (.iload_n 1, 1) := by decide +kernel
theorem dX5_ferry_86 : decode cX5_ferry 86 = .ok (.imul, 1) := by decide +kernel
theorem dX5_ferry_87 : decode cX5_ferry 87 = .ok (.iconst 1, 1) := by decide +kernel
theorem dX5_ferry_88 : decode cX5_ferry 88 = .ok (.iadd, 1) := by decide +kernel
theorem dX5_ferry_89 : decode cX5_ferry 89 = .ok (.iaload, 1) := by decide +kernel
theorem dX5_ferry_90 : decode cX5_ferry 90 = .ok (.iastore, 1) := by decide +kernel
theorem dX5_ferry_91 : decode cX5_ferry 91 = .ok (.aload_n 0, 1) := by decide +kernel
theorem dX5_ferry_92 : decode cX5_ferry 92 = .ok (.getfield 19, 3) := by decide +kernel
theorem dX5_ferry_95 : decode cX5_ferry 95 = .ok (.iconst 3, 1) := by decide +kernel
theorem dX5_ferry_96 : decode cX5_ferry 96 = .ok (.iload_n 1, 1) := by decide +kernel
theorem dX5_ferry_97 : decode cX5_ferry 97 = .ok (.imul, 1) := by decide +kernel
theorem dX5_ferry_98 : decode cX5_ferry 98 = .ok (.iconst 2, 1) := by decide +kernel
theorem dX5_ferry_99 : decode cX5_ferry 99 = .ok (.iadd, 1) := by decide +kernel
theorem dX5_ferry_100 : decode cX5_ferry 100 = .ok (.aload_n 0, 1) := by decide +kernel
theorem dX5_ferry_101 : decode cX5_ferry 101 = .ok (.getfield 13, 3) := by decide +kernel
theorem dX5_ferry_104 : decode cX5_ferry 104 = .ok (.iconst 3, 1) := by decide +kernel
theorem dX5_ferry_105 : decode cX5_ferry 105 = .ok (.iload_n 1, 1) := by decide +kernel
theorem dX5_ferry_106 : decode cX5_ferry 106 = .ok (.imul, 1) := by decide +kernel
theorem dX5_ferry_107 : decode cX5_ferry 107 = .ok (.iconst 2, 1) := by decide +kernel
theorem dX5_ferry_108 : decode cX5_ferry 108 = .ok (.iadd, 1) := by decide +kernel
theorem dX5_ferry_109 : decode cX5_ferry 109 = .ok (.iaload, 1) := by decide +kernel
theorem dX5_ferry_110 : decode cX5_ferry 110 = .ok (.iastore, 1) := by decide +kernel
theorem dX5_ferry_111 : decode cX5_ferry 111 = .ok (.aload_n 0, 1) := by decide +kernel
theorem dX5_ferry_112 : decode cX5_ferry 112 = .ok (.getfield 22, 3) := by decide +kernel
theorem dX5_ferry_115 : decode cX5_ferry 115 = .ok (.iload_n 1, 1) := by decide +kernel
theorem dX5_ferry_116 : decode cX5_ferry 116 = .ok (.iconst 0, 1) := by decide +kernel
theorem dX5_ferry_117 : decode cX5_ferry 117 = .ok (.iastore, 1) := by decide +kernel
theorem dX5_ferry_118 : decode cX5_ferry 118 = .ok (.aload_n 0, 1) := by decide +kernel
theorem dX5_ferry_119 : decode cX5_ferry 119 = .ok (.getfield 25, 3) := by decide +kernel
theorem dX5_ferry_122 : decode cX5_ferry 122 = .ok (.iload_n 1, 1) := by decide +kernel
theorem dX5_ferry_123 : decode cX5_ferry 123 = .ok (.aload_n 0, 1) := by decide +kernel
theorem dX5_ferry_124 : decode cX5_ferry 124 = .ok (.getfield 19, 3) := by decide +kernel
theorem dX5_ferry_127 : decode cX5_ferry 127 = .ok (.iconst 3, 1) := by decide +kernel
theorem dX5_ferry_128 : decode cX5_ferry 128 = .ok (.iload_n 1, 1) := by decide +kernel
theorem dX5_ferry_129 : decode cX5_ferry 129 = .ok (.imul, 1) := by decide +kernel
theorem dX5_ferry_130 : decode cX5_ferry 130 = .ok (.iaload, 1) := by decide +kernel
theorem dX5_ferry_131 : decode cX5_ferry 131 = .ok (.iastore, 1) := by decide +kernel
theorem dX5_ferry_132 : decode cX5_ferry 132 = .ok (.aload_n 0, 1) := by decide +kernel
theorem dX5_ferry_133 : decode cX5_ferry 133 = .ok (.getfield 28, 3) := by decide +kernel
theorem dX5_ferry_136 : decode cX5_ferry 136 = .ok (.iload_n 1, 1) := by decide +kernel
theorem dX5_ferry_137 : decode cX5_ferry 137 = .ok (.bipush 10, 2) := by decide +kernel
theorem dX5_ferry_139 : decode cX5_ferry 139 = .ok (.iastore, 1) := by decide +kernel
theorem dX5_ferry_140 : decode cX5_ferry 140 = .ok (.iinc 1 1, 3) := by decide +kernel
theorem dX5_ferry_143 : decode cX5_ferry 143 = .ok (.goto (-96), 3) := by decide +kernel
theorem dX5_ferry_146 : decode cX5_ferry 146 = .ok (.aload_n 0, 1) := by decide +kernel
theorem dX5_ferry_147 : decode cX5_ferry 147 = .ok (.iconst 0, 1) := by decide +kernel
theorem dX5_ferry_148 : decode cX5_ferry 148 = .ok (.putfield 102, 3) := by decide +kernel
theorem dX5_ferry_151 : decode cX5_ferry 151 = .ok (.aload_n 0, 1) := by decide +kernel
theorem dX5_ferry_152 : decode cX5_ferry 152 = .ok (.iconst 0, 1) := by decide +kernel
theorem dX5_ferry_153 : decode cX5_ferry 153 = .ok (.putfield 105, 3) := by decide +kernel
theorem dX5_ferry_156 : decode cX5_ferry 156 = .ok (.aload_n 0, 1) := by decide +kernel
theorem dX5_ferry_157 : decode cX5_ferry 157 = .ok (.getfield 50, 3) := by decide +kernel
theorem dX5_ferry_160 : decode cX5_ferry 160 = .ok (.iconst 0, 1) := by decide +kernel
theorem dX5_ferry_161 : decode cX5_ferry 161 = .ok (.iconst 0, 1) := by decide +kernel
theorem dX5_ferry_162 : decode cX5_ferry 162 = .ok (.bastore, 1) := by decide +kernel
theorem dX5_ferry_163 : decode cX5_ferry 163 = .ok (.aload_n 0, 1) := by decide +kernel
theorem dX5_ferry_164 : decode cX5_ferry 164 = .ok (.getfield 50, 3) := by decide +kernel
theorem dX5_ferry_167 : decode cX5_ferry 167 = .ok (.iconst 1, 1) := by decide +kernel
theorem dX5_ferry_168 : decode cX5_ferry 168 = .ok (.iconst 0, 1) := by decide +kernel
theorem dX5_ferry_169 : decode cX5_ferry 169 = .ok (.bastore, 1) := by decide +kernel
theorem dX5_ferry_170 : decode cX5_ferry 170 = .ok (.aload_n 0, 1) := by decide +kernel
theorem dX5_ferry_171 : decode cX5_ferry 171 = .ok (.getfield 99, 3) := by decide +kernel
theorem dX5_ferry_174 : decode cX5_ferry 174 = .ok (.ireturn, 1) := by decide +kernel
theorem dX5_isPerson_0 : decode cX5_isPerson 0 = .ok (.iload_n 1, 1) := by decide +kernel
theorem dX5_isPerson_1 : decode cX5_isPerson 1 = .ok (.i2l, 1) := by decide +kernel
theorem dX5_isPerson_2 : decode cX5_isPerson 2 = .ok (.lconst 0, 1) := by decide +kernel
theorem dX5_isPerson_3 : decode cX5_isPerson 3 = .ok (.aload_n 0, 1) := by decide +kernel
theorem dX5_isPerson_4 : decode cX5_isPerson 4 = .ok (.getfield 99, 3) := by decide +kernel
theorem dX5_isPerson_7 : decode cX5_isPerson 7 = .ok (.iconst 1, 1) := by decide +kernel
theorem dX5_isPerson_8 : decode cX5_isPerson 8 = .ok (.isub, 1) := by decide +kernel
theorem dX5_isPerson_9 : decode cX5_isPerson 9 = .ok (.i2l, 1) := by decide +kernel
theorem dX5_isPerson_10 : decode cX5_isPerson 10 = .ok (.invokestatic 70, 3) := by decide +kernel
theorem dX5_isPerson_13 : decode cX5_isPerson 13 = .ok (.ireturn, 1) := by decide +kernel
theorem dX5_isEnd_0 : decode cX5_isEnd 0 = .ok (.iload_n 1, 1) := by decide +kernel
theorem dX5_isEnd_1 : decode cX5_isEnd 1 = .ok (.i2l, 1) := by decide +kernel
theorem dX5_isEnd_2 : decode cX5_isEnd 2 = .ok (.lconst 0, 1) := by decide +kernel
theorem dX5_isEnd_3 : decode cX5_isEnd 3 = .ok (.aload_n 0, 1) := by decide +kernel
theorem dX5_isEnd_4 : decode cX5_isEnd 4 = .ok (.getfield 16, 3) := by decide +kernel
theorem dX5_isEnd_7 : decode cX5_isEnd 7 = .ok (.iconst 0, 1) := by decide +kernel
theorem dX5_isEnd_8 : decode cX5_isEnd 8 = .ok (.iaload, 1) := by decide +kernel
theorem dX5_isEnd_9 : decode cX5_isEnd 9 = .ok (.iconst 1, 1) := by decide +kernel
theorem dX5_isEnd_10 : decode cX5_isEnd 10 = .ok (.isub, 1) := by decide +kernel
theorem dX5_isEnd_11 : decode cX5_isEnd 11 = .ok (.i2l, 1) := by decide +kernel
theorem dX5_isEnd_12 : decode cX5_isEnd 12 = .ok (.invokestatic 70, 3) := by decide +kernel
theorem dX5_isEnd_15 : decode cX5_isEnd 15 = .ok (.ireturn, 1) := by decide +kernel
theorem dX5_boat_0 : decode cX5_boat 0 = .ok (.iload_n 1, 1) := by decide +kernel
theorem dX5_boat_1 : decode cX5_boat 1 = .ok (.i2l, 1) := by decide +kernel
theorem dX5_boat_2 : decode cX5_boat 2 = .ok (.lconst 0, 1) := by decide +kernel
theorem dX5_boat_3 : decode cX5_boat 3 = .ok (.ldc2_w 108, 3) := by decide +kernel
theorem dX5_boat_6 : decode cX5_boat 6 = .ok (.invokestatic 70, 3) := by decide +kernel
theorem dX5_boat_9 : decode cX5_boat 9 = .ok (.ifCond .eq 12, 3) := by decide +kernel
theorem dX5_boat_12 : decode cX5_boat 12 = .ok (.aload_n 0, 1) := by decide +kernel
theorem dX5_boat_13 : decode cX5_boat 13 = .ok (.getfield 16, 3) := by decide +kernel
theorem dX5_boat_16 : decode cX5_boat 16 = .ok (.iload_n 1, 1) := by decide +kernel
theorem dX5_boat_17 : decode cX5_boat 17 = .ok (.iaload, 1) := by decide +kernel
theorem dX5_boat_18 : decode cX5_boat 18 = .ok (.goto 17, 3) := by decide +kernel
theorem dX5_boat_21 : decode cX5_boat 21 = .ok (.iload_n 1, 1) := by decide +kernel
theorem dX5_boat_22 : decode cX5_boat 22 = .ok (.iconst 5, 1) := by decide +kernel
theorem dX5_boat_23 : decode cX5_boat 23 = .ok (.if_icmp .ne 10, 3) := by decide +kernel
theorem dX5_boat_26 : decode cX5_boat 26 = .ok (.aload_n 0, 1) := by decide +kernel
theorem dX5_boat_27 : decode cX5_boat 27 = .ok (.getfield 102, 3) := by decide +kernel
theorem dX5_boat_30 : decode cX5_boat 30 = .ok (.goto 5, 3) := by decide +kernel
theorem dX5_boat_33 : decode cX5_boat 33 = .ok (.bipush (-2), 2) := by decide +kernel
theorem dX5_boat_35 : decode cX5_boat 35 = .ok (.ireturn, 1) := by decide +kernel
theorem dX5_person_0 : decode cX5_person 0 = .ok (.aload_n 0, 1) := by decide +kernel
theorem dX5_person_1 : decode cX5_person 1 = .ok (.iload_n 1, 1) := by decide +kernel
theorem dX5_person_2 : decode cX5_person 2 = .ok (.invokevirtual 110, 3) := by decide +kernel
theorem dX5_person_5 : decode cX5_person 5 = .ok (.ifCond .ne 5, 3) := by decide +kernel
theorem dX5_person_8 : decode cX5_person 8 = .ok (.iconst (-1), 1) := by decide +kernel
theorem dX5_person_9 : decode cX5_person 9 = .ok (.ireturn, 1) := by decide +kernel
theorem dX5_person_10 : decode cX5_person 10 = .ok (.iload_n 2, 1) := by decide +kernel
theorem dX5_person_11 : decode cX5_person 11 = .ok (.tableswitch 92 0 5 #[37, 46, 57, 68, 78, 85], 37) := by decide +kernel
theorem dX5_person_48 : decode cX5_person 48 = .ok (.aload_n 0, 1) := by decide +kernel
theorem dX5_person_49 : decode cX5_person 49 = .ok (.getfield 19, 3) := by decide +kernel
theorem dX5_person_52 : decode cX5_person 52 = .ok (.iconst 3, 1) := by decide +kernel
theorem dX5_person_53 : decode cX5_person 53 = .ok (.iload_n 1, 1) := by decide +kernel
theorem dX5_person_54 : decode cX5_person 54 = .ok (.imul, 1) := by decide +kernel
theorem dX5_person_55 : decode cX5_person 55 = .ok (.iaload, 1) := by decide +kernel
theorem dX5_person_56 : decode cX5_person 56 = .ok (.ireturn, 1) := by decide +kernel
theorem dX5_person_57 : decode cX5_person 57 = .ok (.aload_n 0, 1) := by decide +kernel
theorem dX5_person_58 : decode cX5_person 58 = .ok (.getfield 19, 3) := by decide +kernel
theorem dX5_person_61 : decode cX5_person 61 = .ok (.iconst 3, 1) := by decide +kernel
theorem dX5_person_62 : decode cX5_person 62 = .ok (.iload_n 1, 1) := by decide +kernel
theorem dX5_person_63 : decode cX5_person 63 = .ok (.imul, 1) := by decide +kernel
theorem dX5_person_64 : decode cX5_person 64 = .ok (.iconst 1, 1) := by decide +kernel
theorem dX5_person_65 : decode cX5_person 65 = .ok (.iadd, 1) := by decide +kernel
theorem dX5_person_66 : decode cX5_person 66 = .ok (.iaload, 1) := by decide +kernel
theorem dX5_person_67 : decode cX5_person 67 = .ok (.ireturn, 1) := by decide +kernel
theorem dX5_person_68 : decode cX5_person 68 = .ok (.aload_n 0, 1) := by decide +kernel
theorem dX5_person_69 : decode cX5_person 69 = .ok (.getfield 19, 3) := by decide +kernel
theorem dX5_person_72 : decode cX5_person 72 = .ok (.iconst 3, 1) := by decide +kernel
theorem dX5_person_73 : decode cX5_person 73 = .ok (.iload_n 1, 1) := by decide +kernel
theorem dX5_person_74 : decode cX5_person 74 = .ok (.imul, 1) := by decide +kernel
theorem dX5_person_75 : decode cX5_person 75 = .ok (.iconst 2, 1) := by decide +kernel
theorem dX5_person_76 : decode cX5_person 76 = .ok (.iadd, 1) := by decide +kernel
theorem dX5_person_77 : decode cX5_person 77 = .ok (.iaload, 1) := by decide +kernel
theorem dX5_person_78 : decode cX5_person 78 = .ok (.ireturn, 1) := by decide +kernel
theorem dX5_person_79 : decode cX5_person 79 = .ok (.aload_n 0, 1) := by decide +kernel
theorem dX5_person_80 : decode cX5_person 80 = .ok (.getfield 22, 3) := by decide +kernel
theorem dX5_person_83 : decode cX5_person 83 = .ok (.iload_n 1, 1) := by decide +kernel
theorem dX5_person_84 : decode cX5_person 84 = .ok (.iaload, 1) := by decide +kernel
theorem dX5_person_85 : decode cX5_person 85 = .ok (.bipush 10, 2) := by decide +kernel
theorem dX5_person_87 : decode cX5_person 87 = .ok (.iadd, 1) := by decide +kernel
theorem dX5_person_88 : decode cX5_person 88 = .ok (.ireturn, 1) := by decide +kernel
theorem dX5_person_89 : decode cX5_person 89 = .ok (.aload_n 0, 1) := by decide +kernel
theorem dX5_person_90 : decode cX5_person 90 = .ok (.getfield 25, 3) := by decide +kernel
theorem dX5_person_93 : decode cX5_person 93 = .ok (.iload_n 1, 1) := by decide +kernel
theorem dX5_person_94 : decode cX5_person 94 = .ok (.iaload, 1) := by decide +kernel
theorem dX5_person_95 : decode cX5_person 95 = .ok (.ireturn, 1) := by decide +kernel
theorem dX5_person_96 : decode cX5_person 96 = .ok (.aload_n 0, 1) := by decide +kernel
theorem dX5_person_97 : decode cX5_person 97 = .ok (.getfield 28, 3) := by decide +kernel
theorem dX5_person_100 : decode cX5_person 100 = .ok (.iload_n 1, 1) := by decide +kernel
theorem dX5_person_101 : decode cX5_person 101 = .ok (.iaload, 1) := by decide +kernel
theorem dX5_person_102 : decode cX5_person 102 = .ok (.ireturn, 1) := by decide +kernel
theorem dX5_person_103 : decode cX5_person 103 = .ok (.bipush (-2), 2) := by decide +kernel
theorem dX5_person_105 : decode cX5_person 105 = .ok (.ireturn, 1) := by decide +kernel
theorem dX5_gain_0 : decode cX5_gain 0 = .ok (.aload_n 0, 1) := by decide +kernel
theorem dX5_gain_1 : decode cX5_gain 1 = .ok (.iload_n 1, 1) := by decide +kernel
theorem dX5_gain_2 : decode cX5_gain 2 = .ok (.invokevirtual 110, 3) := by decide +kernel
theorem dX5_gain_5 : decode cX5_gain 5 = .ok (.ifCond .ne 5, 3) := by decide +kernel
theorem dX5_gain_8 : decode cX5_gain 8 = .ok (.iconst (-1), 1) := by decide +kernel
theorem dX5_gain_9 : decode cX5_gain 9 = .ok (.ireturn, 1) := by decide +kernel
theorem dX5_gain_10 : decode cX5_gain 10 = .ok (.iload_n 2, 1) := by decide +kernel
theorem dX5_gain_11 : decode cX5_gain 11 = .ok (.i2l, 1) := by decide +kernel
theorem dX5_gain_12 : decode cX5_gain 12 = .ok (.ldc2_w 114, 3) := by decide +kernel
theorem dX5_gain_15 : decode cX5_gain 15 = .ok (.ldc2_w 116, 3) := by decide +kernel
theorem dX5_gain_18 : decode cX5_gain 18 = .ok (.invokestatic 70, 3) := by decide +kernel
theorem dX5_gain_21 : decode cX5_gain 21 = .ok (.ifCond .ne 6, 3) := by decide +kernel
theorem dX5_gain_24 : decode cX5_gain 24 = .ok (.bipush (-2), 2) := by decide +kernel
theorem dX5_gain_26 : decode cX5_gain 26 = .ok (.ireturn, 1) := by decide +kernel
theorem dX5_gain_27 : decode cX5_gain 27 = .ok (.aload_n 0, 1) := by decide +kernel
theorem dX5_gain_28 : decode cX5_gain 28 = .ok (.getfield 22, 3) := by decide +kernel
theorem dX5_gain_31 : decode cX5_gain 31 = .ok (.iload_n 1, 1) := by decide +kernel
theorem dX5_gain_32 : decode cX5_gain 32 = .ok (.iaload, 1) := by decide +kernel
theorem dX5_gain_33 : decode cX5_gain 33 = .ok (.bipush 10, 2) := by decide +kernel
theorem dX5_gain_35 : decode cX5_gain 35 = .ok (.iadd, 1) := by decide +kernel
theorem dX5_gain_36 : decode cX5_gain 36 = .ok (.istore_n 3, 1) := by decide +kernel
theorem dX5_gain_37 : decode cX5_gain 37 = .ok (.aload_n 0, 1) := by decide +kernel
theorem dX5_gain_38 : decode cX5_gain 38 = .ok (.getfield 22, 3) := by decide +kernel
theorem dX5_gain_41 : decode cX5_gain 41 = .ok (.iload_n 1, 1) := by decide +kernel
theorem dX5_gain_42 : decode cX5_gain 42 = .ok (.iload_n 2, 1) := by decide +kernel
theorem dX5_gain_43 : decode cX5_gain 43 = .ok (.iastore, 1) := by decide +kernel
theorem dX5_gain_44 : decode cX5_gain 44 = .ok (.iload_n 3, 1) := by decide +kernel
theorem dX5_gain_45 : decode cX5_gain 45 = .ok (.ireturn, 1) := by decide +kernel
theorem dX5_minutes_0 : decode cX5_minutes 0 = .ok (.iload_n 1, 1) := by decide +kernel
theorem dX5_minutes_1 : decode cX5_minutes 1 = .ok (.i2l, 1) := by decide +kernel
theorem dX5_minutes_2 : decode cX5_minutes 2 = .ok (.lconst 0, 1) := by decide +kernel
theorem dX5_minutes_3 : decode cX5_minutes 3 = .ok (.ldc2_w 86, 3) := by decide +kernel
theorem dX5_minutes_6 : decode cX5_minutes 6 = .ok (.invokestatic 70, 3) := by decide +kernel
theorem dX5_minutes_9 : decode cX5_minutes 9 = .ok (.ifCond .ne 6, 3) := by decide +kernel
theorem dX5_minutes_12 : decode cX5_minutes 12 = .ok (.bipush (-2), 2) := by decide +kernel
theorem dX5_minutes_14 : decode cX5_minutes 14 = .ok (.ireturn, 1) := by decide +kernel
theorem dX5_minutes_15 : decode cX5_minutes 15 = .ok (.aload_n 0, 1) := by decide +kernel
theorem dX5_minutes_16 : decode cX5_minutes 16 = .ok (.getfield 102, 3) := by decide +kernel
theorem dX5_minutes_19 : decode cX5_minutes 19 = .ok (.istore_n 2, 1) := by decide +kernel
theorem dX5_minutes_20 : decode cX5_minutes 20 = .ok (.aload_n 0, 1) := by decide +kernel
theorem dX5_minutes_21 : decode cX5_minutes 21 = .ok (.iload_n 1, 1) := by decide +kernel
theorem dX5_minutes_22 : decode cX5_minutes 22 = .ok (.putfield 102, 3) := by decide +kernel
theorem dX5_minutes_25 : decode cX5_minutes 25 = .ok (.iload_n 2, 1) := by decide +kernel
theorem dX5_minutes_26 : decode cX5_minutes 26 = .ok (.ireturn, 1) := by decide +kernel
theorem dX5_weightOf_0 : decode cX5_weightOf 0 = .ok (.iload_n 3, 1) := by decide +kernel
theorem dX5_weightOf_1 : decode cX5_weightOf 1 = .ok (.ifCond .eq 12, 3) := by decide +kernel
theorem dX5_weightOf_4 : decode cX5_weightOf 4 = .ok (.aload_n 0, 1) := by decide +kernel
theorem dX5_weightOf_5 : decode cX5_weightOf 5 = .ok (.getfield 25, 3) := by decide +kernel
theorem dX5_weightOf_8 : decode cX5_weightOf 8 = .ok (.iload_n 1, 1) := by decide +kernel
theorem dX5_weightOf_9 : decode cX5_weightOf 9 = .ok (.iaload, 1) := by decide +kernel
theorem dX5_weightOf_10 : decode cX5_weightOf 10 = .ok (.goto 11, 3) := by decide +kernel
theorem dX5_weightOf_13 : decode cX5_weightOf 13 = .ok (.aload_n 0, 1) := by decide +kernel
theorem dX5_weightOf_14 : decode cX5_weightOf 14 = .ok (.getfield 19, 3) := by decide +kernel
theorem dX5_weightOf_17 : decode cX5_weightOf 17 = .ok (.iconst 3, 1) := by decide +kernel
theorem dX5_weightOf_18 : decode cX5_weightOf 18 = .ok (.iload_n 1, 1) := by decide +kernel
theorem dX5_weightOf_19 : decode cX5_weightOf 19 = .ok (.imul, 1) := by decide +kernel
theorem dX5_weightOf_20 : decode cX5_weightOf 20 = .ok (.iaload, 1) := by decide +kernel
theorem dX5_weightOf_21 : decode cX5_weightOf 21 = .ok (.iload_n 2, 1) := by decide +kernel
theorem dX5_weightOf_22 : decode cX5_weightOf 22 = .ok (.aload_n 0, 1) := by decide +kernel
theorem dX5_weightOf_23 : decode cX5_weightOf 23 = .ok (.getfield 22, 3) := by decide +kernel
theorem dX5_weightOf_26 : decode cX5_weightOf 26 = .ok (.iload_n 1, 1) := by decide +kernel
theorem dX5_weightOf_27 : decode cX5_weightOf 27 = .ok (.iaload, 1) := by decide +kernel
theorem dX5_weightOf_28 : decode cX5_weightOf 28 = .ok (.imul, 1) := by decide +kernel
theorem dX5_weightOf_29 : decode cX5_weightOf 29 = .ok (.iadd, 1) := by decide +kernel
theorem dX5_weightOf_30 : decode cX5_weightOf 30 = .ok (.istore 4, 2) := by decide +kernel
theorem dX5_weightOf_32 : decode cX5_weightOf 32 = .ok (.iload 4, 2) := by decide +kernel
theorem dX5_weightOf_34 : decode cX5_weightOf 34 = .ok (.ifCond .ge 7, 3) := by decide +kernel
theorem dX5_weightOf_37 : decode cX5_weightOf 37 = .ok (.iconst 0, 1) := by decide +kernel
theorem dX5_weightOf_38 : decode cX5_weightOf 38 = .ok (.goto 5, 3) := by decide +kernel
theorem dX5_weightOf_41 : decode cX5_weightOf 41 = .ok (.iload 4, 2) := by decide +kernel
theorem dX5_weightOf_43 : decode cX5_weightOf 43 = .ok (.ireturn, 1) := by decide +kernel
theorem dX5_willSit_0 : decode cX5_willSit 0 = .ok (.aload_n 0, 1) := by decide +kernel
theorem dX5_willSit_1 : decode cX5_willSit 1 = .ok (.getfield 19, 3) := by decide +kernel
theorem dX5_willSit_4 : decode cX5_willSit 4 = .ok (.iconst 3, 1) := by decide +kernel
theorem dX5_willSit_5 : decode cX5_willSit 5 = .ok (.iload_n 1, 1) := by decide +kernel
theorem dX5_willSit_6 : decode cX5_willSit 6 = .ok (.imul, 1) := by decide +kernel
theorem dX5_willSit_7 : decode cX5_willSit 7 = .ok (.iconst 2, 1) := by decide +kernel
theorem dX5_willSit_8 : decode cX5_willSit 8 = .ok (.iadd, 1) := by decide +kernel
theorem dX5_willSit_9 : decode cX5_willSit 9 = .ok (.iaload, 1) := by decide +kernel
theorem dX5_willSit_10 : decode cX5_willSit 10 = .ok (.iconst 3, 1) := by decide +kernel
theorem dX5_willSit_11 : decode cX5_willSit 11 = .ok (.if_icmp .eq 17, 3) := by decide +kernel
theorem dX5_willSit_14 : decode cX5_willSit 14 = .ok (.aload_n 0, 1) := by decide +kernel
theorem dX5_willSit_15 : decode cX5_willSit 15 = .ok (.getfield 19, 3) := by decide +kernel
theorem dX5_willSit_18 : decode cX5_willSit 18 = .ok (.iconst 3, 1) := by decide +kernel
theorem dX5_willSit_19 : decode cX5_willSit 19 = .ok (.iload_n 1, 1) := by decide +kernel
theorem dX5_willSit_20 : decode cX5_willSit 20 = .ok (.imul, 1) := by decide +kernel
theorem dX5_willSit_21 : decode cX5_willSit 21 = .ok (.iconst 2, 1) := by decide +kernel
theorem dX5_willSit_22 : decode cX5_willSit 22 = .ok (.iadd, 1) := by decide +kernel
theorem dX5_willSit_23 : decode cX5_willSit 23 = .ok (.iaload, 1) := by decide +kernel
theorem dX5_willSit_24 : decode cX5_willSit 24 = .ok (.iload_n 2, 1) := by decide +kernel
theorem dX5_willSit_25 : decode cX5_willSit 25 = .ok (.if_icmp .ne 7, 3) := by decide +kernel
theorem dX5_willSit_28 : decode cX5_willSit 28 = .ok (.iconst 1, 1) := by decide +kernel
theorem dX5_willSit_29 : decode cX5_willSit 29 = .ok (.goto 4, 3) := by decide +kernel
theorem dX5_willSit_32 : decode cX5_willSit 32 = .ok (.iconst 0, 1) := by decide +kernel
theorem dX5_willSit_33 : decode cX5_willSit 33 = .ok (.ireturn, 1) := by decide +kernel
theorem dX5_whoAt_0 : decode cX5_whoAt 0 = .ok (.iconst 0, 1) := by decide +kernel
theorem dX5_whoAt_1 : decode cX5_whoAt 1 = .ok (.istore_n 2, 1) := by decide +kernel
theorem dX5_whoAt_2 : decode cX5_whoAt 2 = .ok (.iconst 0, 1) := by decide +kernel
theorem dX5_whoAt_3 : decode cX5_whoAt 3 = .ok (.istore_n 3, 1) := by decide +kernel
theorem dX5_whoAt_4 : decode cX5_whoAt 4 = .ok (.iload_n 3, 1) := by decide +kernel
theorem dX5_whoAt_5 : decode cX5_whoAt 5 = .ok (.aload_n 0, 1) := by decide +kernel
theorem dX5_whoAt_6 : decode cX5_whoAt 6 = .ok (.getfield 99, 3) := by decide +kernel
theorem dX5_whoAt_9 : decode cX5_whoAt 9 = .ok (.if_icmp .ge 29, 3) := by decide +kernel
theorem dX5_whoAt_12 : decode cX5_whoAt 12 = .ok (.iload_n 2, 1) := by decide +kernel
theorem dX5_whoAt_13 : decode cX5_whoAt 13 = .ok (.aload_n 0, 1) := by decide +kernel
theorem dX5_whoAt_14 : decode cX5_whoAt 14 = .ok (.getfield 28, 3) := by decide +kernel
theorem dX5_whoAt_17 : decode cX5_whoAt 17 = .ok (.iload_n 3, 1) := by decide +kernel
theorem dX5_whoAt_18 : decode cX5_whoAt 18 = .ok (.iaload, 1) := by decide +kernel
theorem dX5_whoAt_19 : decode cX5_whoAt 19 = .ok (.iload_n 1, 1) := by decide +kernel
theorem dX5_whoAt_20 : decode cX5_whoAt 20 = .ok (.if_icmp .ne 9, 3) := by decide +kernel
theorem dX5_whoAt_23 : decode cX5_whoAt 23 = .ok (.iconst 1, 1) := by decide +kernel
theorem dX5_whoAt_24 : decode cX5_whoAt 24 = .ok (.iload_n 3, 1) := by decide +kernel
theorem dX5_whoAt_25 : decode cX5_whoAt 25 = .ok (.ishl, 1) := by decide +kernel
theorem dX5_whoAt_26 : decode cX5_whoAt 26 = .ok (.goto 4, 3) := by decide +kernel
theorem dX5_whoAt_29 : decode cX5_whoAt 29 = .ok (.iconst 0, 1) := by decide +kernel
theorem dX5_whoAt_30 : decode cX5_whoAt 30 = .ok (.ior, 1) := by decide +kernel
theorem dX5_whoAt_31 : decode cX5_whoAt 31 = .ok (.istore_n 2, 1) := by decide +kernel
theorem dX5_whoAt_32 : decode cX5_whoAt 32 = .ok (.iinc 3 1, 3) := by decide +kernel
theorem dX5_whoAt_35 : decode cX5_whoAt 35 = .ok (.goto (-31), 3) := by decide +kernel
theorem dX5_whoAt_38 : decode cX5_whoAt 38 = .ok (.iload_n 2, 1) := by decide +kernel
theorem dX5_whoAt_39 : decode cX5_whoAt 39 = .ok (.ireturn, 1) := by decide +kernel
theorem dX5_ones_0 : decode cX5_ones 0 = .ok (.iconst 0, 1) := by decide +kernel
theorem dX5_ones_1 : decode cX5_ones 1 = .ok (.istore_n 1, 1) := by decide +kernel
theorem dX5_ones_2 : decode cX5_ones 2 = .ok (.iconst 0, 1) := by decide +kernel
theorem dX5_ones_3 : decode cX5_ones 3 = .ok (.istore_n 2, 1) := by decide +kernel
theorem dX5_ones_4 : decode cX5_ones 4 = .ok (.iload_n 2, 1) := by decide +kernel
theorem dX5_ones_5 : decode cX5_ones 5 = .ok (.bipush 8, 2) := by decide +kernel
theorem dX5_ones_7 : decode cX5_ones 7 = .ok (.if_icmp .ge 17, 3) := by decide +kernel
theorem dX5_ones_10 : decode cX5_ones 10 = .ok (.iload_n 1, 1) := by decide +kernel
theorem dX5_ones_11 : decode cX5_ones 11 = .ok (.iload_n 0, 1) := by decide +kernel
theorem dX5_ones_12 : decode cX5_ones 12 = .ok (.iload_n 2, 1) := by decide +kernel
theorem dX5_ones_13 : decode cX5_ones 13 = .ok (.ishr, 1) := by decide +kernel
theorem dX5_ones_14 : decode cX5_ones 14 = .ok (.iconst 1, 1) := by decide +kernel
theorem dX5_ones_15 : decode cX5_ones 15 = .ok (.iand, 1) := by decide +kernel
theorem dX5_ones_16 : decode cX5_ones 16 = .ok (.iadd, 1) := by decide +kernel
theorem dX5_ones_17 : decode cX5_ones 17 = .ok (.istore_n 1, 1) := by decide +kernel
theorem dX5_ones_18 : decode cX5_ones 18 = .ok (.iinc 2 1, 3) := by decide +kernel
theorem dX5_ones_21 : decode cX5_ones 21 = .ok (.goto (-17), 3) := by decide +kernel
theorem dX5_ones_24 : decode cX5_ones 24 = .ok (.iload_n 1, 1) := by decide +kernel
theorem dX5_ones_25 : decode cX5_ones 25 = .ok (.ireturn, 1) := by decide +kernel
theorem dX5_lay_0 : decode cX5_lay 0 = .ok (.aload_n 0, 1) := by decide +kernel
theorem dX5_lay_1 : decode cX5_lay 1 = .ok (.iload_n 1, 1) := by decide +kernel
theorem dX5_lay_2 : decode cX5_lay 2 = .ok (.invokevirtual 110, 3) := by decide +kernel
theorem dX5_lay_5 : decode cX5_lay 5 = .ok (.ifCond .eq 11, 3) := by decide +kernel
theorem dX5_lay_8 : decode cX5_lay 8 = .ok (.aload_n 0, 1) := by decide +kernel
theorem dX5_lay_9 : decode cX5_lay 9 = .ok (.iload_n 2, 1) := by decide +kernel
theorem dX5_lay_10 : decode cX5_lay 10 = .ok (.invokevirtual 118, 3) := by decide +kernel
theorem dX5_lay_13 : decode cX5_lay 13 = .ok (.ifCond .ne 5, 3) := by decide +kernel
theorem dX5_lay_16 : decode cX5_lay 16 = .ok (.iconst (-1), 1) := by decide +kernel
theorem dX5_lay_17 : decode cX5_lay 17 = .ok (.ireturn, 1) := by decide +kernel
theorem dX5_lay_18 : decode cX5_lay 18 = .ok (.aload_n 0, 1) := by decide +kernel
theorem dX5_lay_19 : decode cX5_lay 19 = .ok (.getfield 28, 3) := by decide +kernel
theorem dX5_lay_22 : decode cX5_lay 22 = .ok (.iload_n 1, 1) := by decide +kernel
theorem dX5_lay_23 : decode cX5_lay 23 = .ok (.iaload, 1) := by decide +kernel
theorem dX5_lay_24 : decode cX5_lay 24 = .ok (.bipush 10, 2) := by decide +kernel
theorem dX5_lay_26 : decode cX5_lay 26 = .ok (.if_icmp .ne 12, 3) := by decide +kernel
theorem dX5_lay_29 : decode cX5_lay 29 = .ok (.aload_n 0, 1) := by decide +kernel
theorem dX5_lay_30 : decode cX5_lay 30 = .ok (.iload_n 1, 1) := by decide +kernel
theorem dX5_lay_31 : decode cX5_lay 31 = .ok (.iload_n 2, 1) := by decide +kernel
theorem dX5_lay_32 : decode cX5_lay 32 = .ok (.invokevirtual 121, 3) := by decide +kernel
theorem dX5_lay_35 : decode cX5_lay 35 = .ok (.ifCond .ne 6, 3) := by decide +kernel
theorem dX5_lay_38 : decode cX5_lay 38 = .ok (.bipush (-3), 2) := by decide +kernel
theorem dX5_lay_40 : decode cX5_lay 40 = .ok (.ireturn, 1) := by decide +kernel
theorem dX5_lay_41 : decode cX5_lay 41 = .ok (.aload_n 0, 1) := by decide +kernel
theorem dX5_lay_42 : decode cX5_lay 42 = .ok (.iload_n 2, 1) := by decide +kernel
theorem dX5_lay_43 : decode cX5_lay 43 = .ok (.invokevirtual 125, 3) := by decide +kernel
theorem dX5_lay_46 : decode cX5_lay 46 = .ok (.invokestatic 128, 3) := by decide +kernel
theorem dX5_lay_49 : decode cX5_lay 49 = .ok (.istore_n 3, 1) := by decide +kernel
theorem dX5_lay_50 : decode cX5_lay 50 = .ok (.iload_n 3, 1) := by decide +kernel
theorem dX5_lay_51 : decode cX5_lay 51 = .ok (.aload_n 0, 1) := by decide +kernel
theorem dX5_lay_52 : decode cX5_lay 52 = .ok (.getfield 16, 3) := by decide +kernel
theorem dX5_lay_55 : decode cX5_lay 55 = .ok (.iconst 3, 1) := by decide +kernel
theorem dX5_lay_56 : decode cX5_lay 56 = .ok (.iaload, 1) := by decide +kernel
theorem dX5_lay_57 : decode cX5_lay 57 = .ok (.if_icmp .lt 6, 3) := by decide +kernel
theorem dX5_lay_60 : decode cX5_lay 60 = .ok (.bipush (-4), 2) := by decide +kernel
theorem dX5_lay_62 : decode cX5_lay 62 = .ok (.ireturn, 1) := by decide +kernel
theorem dX5_lay_63 : decode cX5_lay 63 = .ok (.aload_n 0, 1) := by decide +kernel
theorem dX5_lay_64 : decode cX5_lay 64 = .ok (.getfield 28, 3) := by decide +kernel
theorem dX5_lay_67 : decode cX5_lay 67 = .ok (.iload_n 1, 1) := by decide +kernel
theorem dX5_lay_68 : decode cX5_lay 68 = .ok (.iload_n 2, 1) := by decide +kernel
theorem dX5_lay_69 : decode cX5_lay 69 = .ok (.iastore, 1) := by decide +kernel
theorem dX5_lay_70 : decode cX5_lay 70 = .ok (.iload_n 3, 1) := by decide +kernel
theorem dX5_lay_71 : decode cX5_lay 71 = .ok (.iconst 1, 1) := by decide +kernel
theorem dX5_lay_72 : decode cX5_lay 72 = .ok (.iadd, 1) := by decide +kernel
theorem dX5_lay_73 : decode cX5_lay 73 = .ok (.ireturn, 1) := by decide +kernel
theorem dX5_laid_0 : decode cX5_laid 0 = .ok (.aload_n 0, 1) := by decide +kernel
theorem dX5_laid_1 : decode cX5_laid 1 = .ok (.iconst 0, 1) := by decide +kernel
theorem dX5_laid_2 : decode cX5_laid 2 = .ok (.invokevirtual 125, 3) := by decide +kernel
theorem dX5_laid_5 : decode cX5_laid 5 = .ok (.aload_n 0, 1) := by decide +kernel
theorem dX5_laid_6 : decode cX5_laid 6 = .ok (.iconst 1, 1) := by decide +kernel
theorem dX5_laid_7 : decode cX5_laid 7 = .ok (.invokevirtual 125, 3) := by decide +kernel
theorem dX5_laid_10 : decode cX5_laid 10 = .ok (.ior, 1) := by decide +kernel
theorem dX5_laid_11 : decode cX5_laid 11 = .ok (.aload_n 0, 1) := by decide +kernel
theorem dX5_laid_12 : decode cX5_laid 12 = .ok (.iconst 2, 1) := by decide +kernel
theorem dX5_laid_13 : decode cX5_laid 13 = .ok (.invokevirtual 125, 3) := by decide +kernel
theorem dX5_laid_16 : decode cX5_laid 16 = .ok (.ior, 1) := by decide +kernel
theorem dX5_laid_17 : decode cX5_laid 17 = .ok (.invokestatic 128, 3) := by decide +kernel
theorem dX5_laid_20 : decode cX5_laid 20 = .ok (.ireturn, 1) := by decide +kernel
theorem dX5_unlay_0 : decode cX5_unlay 0 = .ok (.aload_n 0, 1) := by decide +kernel
theorem dX5_unlay_1 : decode cX5_unlay 1 = .ok (.iload_n 1, 1) := by decide +kernel
theorem dX5_unlay_2 : decode cX5_unlay 2 = .ok (.invokevirtual 110, 3) := by decide +kernel
theorem dX5_unlay_5 : decode cX5_unlay 5 = .ok (.ifCond .ne 5, 3) := by decide +kernel
theorem dX5_unlay_8 : decode cX5_unlay 8 = .ok (.iconst (-1), 1) := by decide +kernel
theorem dX5_unlay_9 : decode cX5_unlay 9 = .ok (.ireturn, 1) := by decide +kernel
theorem dX5_unlay_10 : decode cX5_unlay 10 = .ok (.aload_n 0, 1) := by decide +kernel
theorem dX5_unlay_11 : decode cX5_unlay 11 = .ok (.getfield 28, 3) := by decide +kernel
theorem dX5_unlay_14 : decode cX5_unlay 14 = .ok (.iload_n 1, 1) := by decide +kernel
theorem dX5_unlay_15 : decode cX5_unlay 15 = .ok (.iaload, 1) := by decide +kernel
theorem dX5_unlay_16 : decode cX5_unlay 16 = .ok (.bipush 10, 2) := by decide +kernel
theorem dX5_unlay_18 : decode cX5_unlay 18 = .ok (.if_icmp .lt 6, 3) := by decide +kernel
theorem dX5_unlay_21 : decode cX5_unlay 21 = .ok (.bipush (-3), 2) := by decide +kernel
theorem dX5_unlay_23 : decode cX5_unlay 23 = .ok (.ireturn, 1) := by decide +kernel
theorem dX5_unlay_24 : decode cX5_unlay 24 = .ok (.aload_n 0, 1) := by decide +kernel
theorem dX5_unlay_25 : decode cX5_unlay 25 = .ok (.getfield 28, 3) := by decide +kernel
theorem dX5_unlay_28 : decode cX5_unlay 28 = .ok (.iload_n 1, 1) := by decide +kernel
theorem dX5_unlay_29 : decode cX5_unlay 29 = .ok (.bipush 10, 2) := by decide +kernel
theorem dX5_unlay_31 : decode cX5_unlay 31 = .ok (.iastore, 1) := by decide +kernel
theorem dX5_unlay_32 : decode cX5_unlay 32 = .ok (.aload_n 0, 1) := by decide +kernel
theorem dX5_unlay_33 : decode cX5_unlay 33 = .ok (.invokevirtual 131, 3) := by decide +kernel
theorem dX5_unlay_36 : decode cX5_unlay 36 = .ok (.ireturn, 1) := by decide +kernel
theorem dX5_heavy_0 : decode cX5_heavy 0 = .ok (.iload_n 2, 1) := by decide +kernel
theorem dX5_heavy_1 : decode cX5_heavy 1 = .ok (.ifCond .ne 12, 3) := by decide +kernel
theorem dX5_heavy_4 : decode cX5_heavy 4 = .ok (.aload_n 0, 1) := by decide +kernel
theorem dX5_heavy_5 : decode cX5_heavy 5 = .ok (.getfield 16, 3) := by decide +kernel
theorem dX5_heavy_8 : decode cX5_heavy 8 = .ok (.iconst 4, 1) := by decide +kernel
theorem dX5_heavy_9 : decode cX5_heavy 9 = .ok (.iaload, 1) := by decide +kernel
theorem dX5_heavy_10 : decode cX5_heavy 10 = .ok (.goto 4, 3) := by decide +kernel
theorem dX5_heavy_13 : decode cX5_heavy 13 = .ok (.iconst 0, 1) := by decide +kernel
theorem dX5_heavy_14 : decode cX5_heavy 14 = .ok (.istore 5, 2) := by decide +kernel
theorem dX5_heavy_16 : decode cX5_heavy 16 = .ok (.iconst 0, 1) := by decide +kernel
theorem dX5_heavy_17 : decode cX5_heavy 17 = .ok (.istore 6, 2) := by decide +kernel
theorem dX5_heavy_19 : decode cX5_heavy 19 = .ok (.iload 6, 2) := by decide +kernel
theorem dX5_heavy_21 : decode cX5_heavy 21 = .ok (.aload_n 0, 1) := by decide +kernel
theorem dX5_heavy_22 : decode cX5_heavy 22 = .ok (.getfield 99, 3) := by decide +kernel
theorem dX5_heavy_25 : decode cX5_heavy 25 = .ok (.if_icmp .ge 37, 3) := by decide +kernel
theorem dX5_heavy_28 : decode cX5_heavy 28 = .ok (.iload 5, 2) := by decide +kernel
theorem dX5_heavy_30 : decode cX5_heavy 30 = .ok (.iload_n 1, 1) := by decide +kernel
theorem dX5_heavy_31 : decode cX5_heavy 31 = .ok (.iload 6, 2) := by decide +kernel
theorem dX5_heavy_33 : decode cX5_heavy 33 = .ok (.ishr, 1) := by decide +kernel
theorem dX5_heavy_34 : decode cX5_heavy 34 = .ok (.iconst 1, 1) := by decide +kernel
theorem dX5_heavy_35 : decode cX5_heavy 35 = .ok (.iand, 1) := by decide +kernel
theorem dX5_heavy_36 : decode cX5_heavy 36 = .ok (.iconst 1, 1) := by decide +kernel
theorem dX5_heavy_37 : decode cX5_heavy 37 = .ok (.if_icmp .ne 15, 3) := by decide +kernel
theorem dX5_heavy_40 : decode cX5_heavy 40 = .ok (.aload_n 0, 1) := by decide +kernel
theorem dX5_heavy_41 : decode cX5_heavy 41 = .ok (.iload 6, 2) := by decide +kernel
theorem dX5_heavy_43 : decode cX5_heavy 43 = .ok (.iload_n 3, 1) := by decide +kernel
theorem dX5_heavy_44 : decode cX5_heavy 44 = .ok (.iload 4, 2) := by decide +kernel
theorem dX5_heavy_46 : decode cX5_heavy 46 = .ok (.invokevirtual 134, 3) := by decide +kernel
theorem dX5_heavy_49 : decode cX5_heavy 49 = .ok (.goto 4, 3) := by decide +kernel
theorem dX5_heavy_52 : decode cX5_heavy 52 = .ok (.iconst 0, 1) := by decide +kernel
theorem dX5_heavy_53 : decode cX5_heavy 53 = .ok (.iadd, 1) := by decide +kernel
theorem dX5_heavy_54 : decode cX5_heavy 54 = .ok (.istore 5, 2) := by decide +kernel
theorem dX5_heavy_56 : decode cX5_heavy 56 = .ok (.iinc 6 1, 3) := by decide +kernel
theorem dX5_heavy_59 : decode cX5_heavy 59 = .ok (.goto (-40), 3) := by decide +kernel
theorem dX5_heavy_62 : decode cX5_heavy 62 = .ok (.iload 5, 2) := by decide +kernel
theorem dX5_heavy_64 : decode cX5_heavy 64 = .ok (.ireturn, 1) := by decide +kernel
theorem dX5_offOf_0 : decode cX5_offOf 0 = .ok (.aload_n 0, 1) := by decide +kernel
theorem dX5_offOf_1 : decode cX5_offOf 1 = .ok (.getfield 16, 3) := by decide +kernel
theorem dX5_offOf_4 : decode cX5_offOf 4 = .ok (.iconst 0, 1) := by decide +kernel
theorem dX5_offOf_5 : decode cX5_offOf 5 = .ok (.iaload, 1) := by decide +kernel
theorem dX5_offOf_6 : decode cX5_offOf 6 = .ok (.iconst 2, 1) := by decide +kernel
theorem dX5_offOf_7 : decode cX5_offOf 7 = .ok (.if_icmp .ne 21, 3) := by decide +kernel
theorem dX5_offOf_10 : decode cX5_offOf 10 = .ok (.aload_n 0, 1) := by decide +kernel
theorem dX5_offOf_11 : decode cX5_offOf 11 = .ok (.getfield 16, 3) := by decide +kernel
theorem dX5_offOf_14 : decode cX5_offOf 14 = .ok (.iconst 1, 1) := by decide +kernel
theorem dX5_offOf_15 : decode cX5_offOf 15 = .ok (.iaload, 1) := by decide +kernel
theorem dX5_offOf_16 : decode cX5_offOf 16 = .ok (.iload_n 1, 1) := by decide +kernel
theorem dX5_offOf_17 : decode cX5_offOf 17 = .ok (.imul, 1) := by decide +kernel
theorem dX5_offOf_18 : decode cX5_offOf 18 = .ok (.aload_n 0, 1) := by decide +kernel
theorem dX5_offOf_19 : decode cX5_offOf 19 = .ok (.getfield 16, 3) := by decide +kernel
theorem dX5_offOf_22 : decode cX5_offOf 22 = .ok (.iconst 2, 1) := by decide +kernel
theorem dX5_offOf_23 : decode cX5_offOf 23 = .ok (.iaload, 1) := by decide +kernel
theorem dX5_offOf_24 : decode cX5_offOf 24 = .ok (.iload_n 2, 1) := by decide +kernel
theorem dX5_offOf_25 : decode cX5_offOf 25 = .ok (.imul, 1) := by decide +kernel
theorem dX5_offOf_26 : decode cX5_offOf 26 = .ok (.isub, 1) := by decide +kernel
theorem dX5_offOf_27 : decode cX5_offOf 27 = .ok (.ireturn, 1) := by decide +kernel
theorem dX5_offOf_28 : decode cX5_offOf 28 = .ok (.iload_n 1, 1) := by decide +kernel
theorem dX5_offOf_29 : decode cX5_offOf 29 = .ok (.iload_n 2, 1) := by decide +kernel
theorem dX5_offOf_30 : decode cX5_offOf 30 = .ok (.if_icmp .le 7, 3) := by decide +kernel
theorem dX5_offOf_33 : decode cX5_offOf 33 = .ok (.iload_n 1, 1) := by decide +kernel
theorem dX5_offOf_34 : decode cX5_offOf 34 = .ok (.goto 4, 3) := by decide +kernel
theorem dX5_offOf_37 : decode cX5_offOf 37 = .ok (.iload_n 2, 1) := by decide +kernel
theorem dX5_offOf_38 : decode cX5_offOf 38 = .ok (.istore 4, 2) := by decide +kernel
theorem dX5_offOf_40 : decode cX5_offOf 40 = .ok (.iload_n 1, 1) := by decide +kernel
theorem dX5_offOf_41 : decode cX5_offOf 41 = .ok (.iload_n 2, 1) := by decide +kernel
theorem dX5_offOf_42 : decode cX5_offOf 42 = .ok (.if_icmp .ge 7, 3) := by decide +kernel
theorem dX5_offOf_45 : decode cX5_offOf 45 = .ok (.iload_n 1, 1) := by decide +kernel
theorem dX5_offOf_46 : decode cX5_offOf 46 = .ok (.goto 4, 3) := by decide +kernel
theorem dX5_offOf_49 : decode cX5_offOf 49 = .ok (.iload_n 2, 1) := by decide +kernel
theorem dX5_offOf_50 : decode cX5_offOf 50 = .ok (.istore 5, 2) := by decide +kernel
theorem dX5_offOf_52 : decode cX5_offOf 52 = .ok (.iload_n 3, 1) := by decide +kernel
theorem dX5_offOf_53 : decode cX5_offOf 53 = .ok (.iload 4, 2) := by decide +kernel
theorem dX5_offOf_55 : decode cX5_offOf 55 = .ok (.if_icmp .le 7, 3) := by decide +kernel
theorem dX5_offOf_58 : decode cX5_offOf 58 = .ok (.iload_n 3, 1) := by decide +kernel
theorem dX5_offOf_59 : decode cX5_offOf 59 = .ok (.goto 5, 3) := by decide +kernel
theorem dX5_offOf_62 : decode cX5_offOf 62 = .ok (.iload 4, 2) := by decide +kernel
theorem dX5_offOf_64 : decode cX5_offOf 64 = .ok (.istore 4, 2) := by decide +kernel
theorem dX5_offOf_66 : decode cX5_offOf 66 = .ok (.iload_n 3, 1) := by decide +kernel
theorem dX5_offOf_67 : decode cX5_offOf 67 = .ok (.iload 5, 2) := by decide +kernel
theorem dX5_offOf_69 : decode cX5_offOf 69 = .ok (.if_icmp .ge 7, 3) := by decide +kernel
theorem dX5_offOf_72 : decode cX5_offOf 72 = .ok (.iload_n 3, 1) := by decide +kernel
theorem dX5_offOf_73 : decode cX5_offOf 73 = .ok (.goto 5, 3) := by decide +kernel
theorem dX5_offOf_76 : decode cX5_offOf 76 = .ok (.iload 5, 2) := by decide +kernel
theorem dX5_offOf_78 : decode cX5_offOf 78 = .ok (.istore 5, 2) := by decide +kernel
theorem dX5_offOf_80 : decode cX5_offOf 80 = .ok (.iload 4, 2) := by decide +kernel
theorem dX5_offOf_82 : decode cX5_offOf 82 = .ok (.iload 5, 2) := by decide +kernel
theorem dX5_offOf_84 : decode cX5_offOf 84 = .ok (.isub, 1) := by decide +kernel
theorem dX5_offOf_85 : decode cX5_offOf 85 = .ok (.ireturn, 1) := by decide +kernel
theorem dX5_isEven_0 : decode cX5_isEven 0 = .ok (.aload_n 0, 1) := by decide +kernel
theorem dX5_isEven_1 : decode cX5_isEven 1 = .ok (.aload_n 0, 1) := by decide +kernel
theorem dX5_isEven_2 : decode cX5_isEven 2 = .ok (.iload_n 1, 1) := by decide +kernel
theorem dX5_isEven_3 : decode cX5_isEven 3 = .ok (.iconst 0, 1) := by decide +kernel
theorem dX5_isEven_4 : decode cX5_isEven 4 = .ok (.iload 4, 2) := by decide +kernel
theorem dX5_isEven_6 : decode cX5_isEven 6 = .ok (.iload 5, 2) := by decide +kernel
theorem dX5_isEven_8 : decode cX5_isEven 8 = .ok (.invokevirtual 138, 3) := by decide +kernel
theorem dX5_isEven_11 : decode cX5_isEven 11 = .ok (.aload_n 0, 1) := by decide +kernel
theorem dX5_isEven_12 : decode cX5_isEven 12 = .ok (.iload_n 2, 1) := by decide +kernel
theorem dX5_isEven_13 : decode cX5_isEven 13 = .ok (.iconst 1, 1) := by decide +kernel
theorem dX5_isEven_14 : decode cX5_isEven 14 = .ok (.iload 4, 2) := by decide +kernel
theorem dX5_isEven_16 : decode cX5_isEven 16 = .ok (.iload 5, 2) := by decide +kernel
theorem dX5_isEven_18 : decode cX5_isEven 18 = .ok (.invokevirtual 138, 3) := by decide +kernel
theorem dX5_isEven_21 : decode cX5_isEven 21 = .ok (.aload_n 0, 1) := by decide +kernel
theorem dX5_isEven_22 : decode cX5_isEven 22 = .ok (.iload_n 3, 1) := by decide +kernel
theorem dX5_isEven_23 : decode cX5_isEven 23 = .ok (.iconst 2, 1) := by decide +kernel
theorem dX5_isEven_24 : decode cX5_isEven 24 = .ok (.iload 4, 2) := by decide +kernel
theorem dX5_isEven_26 : decode cX5_isEven 26 = .ok (.iload 5, 2) := by decide +kernel
theorem dX5_isEven_28 : decode cX5_isEven 28 = .ok (.invokevirtual 138, 3) := by decide +kernel
theorem dX5_isEven_31 : decode cX5_isEven 31 = .ok (.invokevirtual 142, 3) := by decide +kernel
theorem dX5_isEven_34 : decode cX5_isEven 34 = .ok (.ifCond .ne 7, 3) := by decide +kernel
theorem dX5_isEven_37 : decode cX5_isEven 37 = .ok (.iconst 1, 1) := by decide +kernel
theorem dX5_isEven_38 : decode cX5_isEven 38 = .ok (.goto 4, 3) := by decide +kernel
theorem dX5_isEven_41 : decode cX5_isEven 41 = .ok (.iconst 0, 1) := by decide +kernel
theorem dX5_isEven_42 : decode cX5_isEven 42 = .ok (.ireturn, 1) := by decide +kernel
theorem dX5_isLevel_0 : decode cX5_isLevel 0 = .ok (.aload_n 0, 1) := by decide +kernel
theorem dX5_isLevel_1 : decode cX5_isLevel 1 = .ok (.iload_n 1, 1) := by decide +kernel
theorem dX5_isLevel_2 : decode cX5_isLevel 2 = .ok (.iload_n 2, 1) := by decide +kernel
theorem dX5_isLevel_3 : decode cX5_isLevel 3 = .ok (.iload_n 3, 1) := by decide +kernel
theorem dX5_isLevel_4 : decode cX5_isLevel 4 = .ok (.iconst 0, 1) := by decide +kernel
theorem dX5_isLevel_5 : decode cX5_isLevel 5 = .ok (.iload 4, 2) := by decide +kernel
theorem dX5_isLevel_7 : decode cX5_isLevel 7 = .ok (.invokevirtual 146, 3) := by decide +kernel
theorem dX5_isLevel_10 : decode cX5_isLevel 10 = .ok (.ifCond .eq 23, 3) := by decide +kernel
theorem dX5_isLevel_13 : decode cX5_isLevel 13 = .ok (.aload_n 0, 1) := by decide +kernel
theorem dX5_isLevel_14 : decode cX5_isLevel 14 = .ok (.iload_n 1, 1) := by decide +kernel
theorem dX5_isLevel_15 : decode cX5_isLevel 15 = .ok (.iload_n 2, 1) := by decide +kernel
theorem dX5_isLevel_16 : decode cX5_isLevel 16 = .ok (.iload_n 3, 1) := by decide +kernel
theorem dX5_isLevel_17 : decode cX5_isLevel 17 = .ok (.aload_n 0, 1) := by decide +kernel
theorem dX5_isLevel_18 : decode cX5_isLevel 18 = .ok (.getfield 102, 3) := by decide +kernel
theorem dX5_isLevel_21 : decode cX5_isLevel 21 = .ok (.iload 4, 2) := by decide +kernel
theorem dX5_isLevel_23 : decode cX5_isLevel 23 = .ok (.invokevirtual 146, 3) := by decide +kernel
theorem dX5_isLevel_26 : decode cX5_isLevel 26 = .ok (.ifCond .eq 7, 3) := by decide +kernel
theorem dX5_isLevel_29 : decode cX5_isLevel 29 = .ok (.iconst 1, 1) := by decide +kernel
theorem dX5_isLevel_30 : decode cX5_isLevel 30 = .ok (.goto 4, 3) := by decide +kernel
theorem dX5_isLevel_33 : decode cX5_isLevel 33 = .ok (.iconst 0, 1) := by decide +kernel
theorem dX5_isLevel_34 : decode cX5_isLevel 34 = .ok (.ireturn, 1) := by decide +kernel
theorem dX5_weighs_0 : decode cX5_weighs 0 = .ok (.aload_n 0, 1) := by decide +kernel
theorem dX5_weighs_1 : decode cX5_weighs 1 = .ok (.iload_n 1, 1) := by decide +kernel
theorem dX5_weighs_2 : decode cX5_weighs 2 = .ok (.invokevirtual 118, 3) := by decide +kernel
theorem dX5_weighs_5 : decode cX5_weighs 5 = .ok (.ifCond .ne 5, 3) := by decide +kernel
theorem dX5_weighs_8 : decode cX5_weighs 8 = .ok (.iconst (-1), 1) := by decide +kernel
theorem dX5_weighs_9 : decode cX5_weighs 9 = .ok (.ireturn, 1) := by decide +kernel
theorem dX5_weighs_10 : decode cX5_weighs 10 = .ok (.iload_n 2, 1) := by decide +kernel
theorem dX5_weighs_11 : decode cX5_weighs 11 = .ok (.i2l, 1) := by decide +kernel
theorem dX5_weighs_12 : decode cX5_weighs 12 = .ok (.lconst 0, 1) := by decide +kernel
theorem dX5_weighs_13 : decode cX5_weighs 13 = .ok (.ldc2_w 86, 3) := by decide +kernel
theorem dX5_weighs_16 : decode cX5_weighs 16 = .ok (.invokestatic 70, 3) := by decide +kernel
theorem dX5_weighs_19 : decode cX5_weighs 19 = .ok (.ifCond .eq 18, 3) := by decide +kernel
theorem dX5_weighs_22 : decode cX5_weighs 22 = .ok (.aload_n 0, 1) := by decide +kernel
theorem dX5_weighs_23 : decode cX5_weighs 23 = .ok (.aload_n 0, 1) := by decide +kernel
theorem dX5_weighs_24 : decode cX5_weighs 24 = .ok (.iload_n 1, 1) := by decide +kernel
theorem dX5_weighs_25 : decode cX5_weighs 25 = .ok (.invokevirtual 125, 3) := by decide +kernel
theorem dX5_weighs_28 : decode cX5_weighs 28 = .ok (.iload_n 1, 1) := by decide +kernel
theorem dX5_weighs_29 : decode cX5_weighs 29 = .ok (.iload_n 2, 1) := by decide +kernel
theorem dX5_weighs_30 : decode cX5_weighs 30 = .ok (.iconst 0, 1) := by decide +kernel
theorem dX5_weighs_31 : decode cX5_weighs 31 = .ok (.invokevirtual 138, 3) := by decide +kernel
theorem dX5_weighs_34 : decode cX5_weighs 34 = .ok (.goto 5, 3) := by decide +kernel
theorem dX5_weighs_37 : decode cX5_weighs 37 = .ok (.bipush (-2), 2) := by decide +kernel
theorem dX5_weighs_39 : decode cX5_weighs 39 = .ok (.ireturn, 1) := by decide +kernel
theorem dX5_off_0 : decode cX5_off 0 = .ok (.iload_n 1, 1) := by decide +kernel
theorem dX5_off_1 : decode cX5_off 1 = .ok (.i2l, 1) := by decide +kernel
theorem dX5_off_2 : decode cX5_off 2 = .ok (.lconst 0, 1) := by decide +kernel
theorem dX5_off_3 : decode cX5_off 3 = .ok (.ldc2_w 86, 3) := by decide +kernel
theorem dX5_off_6 : decode cX5_off 6 = .ok (.invokestatic 70, 3) := by decide +kernel
theorem dX5_off_9 : decode cX5_off 9 = .ok (.ifCond .ne 6, 3) := by decide +kernel
theorem dX5_off_12 : decode cX5_off 12 = .ok (.bipush (-2), 2) := by decide +kernel
theorem dX5_off_14 : decode cX5_off 14 = .ok (.ireturn, 1) := by decide +kernel
theorem dX5_off_15 : decode cX5_off 15 = .ok (.sipush 10000, 3) := by decide +kernel
theorem dX5_off_18 : decode cX5_off 18 = .ok (.aload_n 0, 1) := by decide +kernel
theorem dX5_off_19 : decode cX5_off 19 = .ok (.aload_n 0, 1) := by decide +kernel
theorem dX5_off_20 : decode cX5_off 20 = .ok (.aload_n 0, 1) := by decide +kernel
theorem dX5_off_21 : decode cX5_off 21 = .ok (.iconst 0, 1) := by decide +kernel
theorem dX5_off_22 : decode cX5_off 22 = .ok (.invokevirtual 125, 3) := by decide +kernel
theorem dX5_off_25 : decode cX5_off 25 = .ok (.iconst 0, 1) := by decide +kernel
theorem dX5_off_26 : decode cX5_off 26 = .ok (.iload_n 1, 1) := by decide +kernel
theorem dX5_off_27 : decode cX5_off 27 = .ok (.iconst 0, 1) := by decide +kernel
theorem dX5_off_28 : decode cX5_off 28 = .ok (.invokevirtual 138, 3) := by decide +kernel
theorem dX5_off_31 : decode cX5_off 31 = .ok (.aload_n 0, 1) := by decide +kernel
theorem dX5_off_32 : decode cX5_off 32 = .ok (.aload_n 0, 1) := by decide +kernel
theorem dX5_off_33 : decode cX5_off 33 = .ok (.iconst 1, 1) := by decide +kernel
theorem dX5_off_34 : decode cX5_off 34 = .ok (.invokevirtual 125, 3) := by decide +kernel
theorem dX5_off_37 : decode cX5_off 37 = .ok (.iconst 1, 1) := by decide +kernel
theorem dX5_off_38 : decode cX5_off 38 = .ok (.iload_n 1, 1) := by decide +kernel
theorem dX5_off_39 : decode cX5_off 39 = .ok (.iconst 0, 1) := by decide +kernel
theorem dX5_off_40 : decode cX5_off 40 = .ok (.invokevirtual 138, 3) := by decide +kernel
theorem dX5_off_43 : decode cX5_off 43 = .ok (.aload_n 0, 1) := by decide +kernel
theorem dX5_off_44 : decode cX5_off 44 = .ok (.aload_n 0, 1) := by decide +kernel
theorem dX5_off_45 : decode cX5_off 45 = .ok (.iconst 2, 1) := by decide +kernel
theorem dX5_off_46 : decode cX5_off 46 = .ok (.invokevirtual 125, 3) := by decide +kernel
theorem dX5_off_49 : decode cX5_off 49 = .ok (.iconst 2, 1) := by decide +kernel
theorem dX5_off_50 : decode cX5_off 50 = .ok (.iload_n 1, 1) := by decide +kernel
theorem dX5_off_51 : decode cX5_off 51 = .ok (.iconst 0, 1) := by decide +kernel
theorem dX5_off_52 : decode cX5_off 52 = .ok (.invokevirtual 138, 3) := by decide +kernel
theorem dX5_off_55 : decode cX5_off 55 = .ok (.invokevirtual 142, 3) := by decide +kernel
theorem dX5_off_58 : decode cX5_off 58 = .ok (.iadd, 1) := by decide +kernel
theorem dX5_off_59 : decode cX5_off 59 = .ok (.ireturn, 1) := by decide +kernel
theorem dX5_fares_0 : decode cX5_fares 0 = .ok (.iconst 0, 1) := by decide +kernel
theorem dX5_fares_1 : decode cX5_fares 1 = .ok (.istore_n 2, 1) := by decide +kernel
theorem dX5_fares_2 : decode cX5_fares 2 = .ok (.iconst 0, 1) := by decide +kernel
theorem dX5_fares_3 : decode cX5_fares 3 = .ok (.istore_n 3, 1) := by decide +kernel
theorem dX5_fares_4 : decode cX5_fares 4 = .ok (.iload_n 3, 1) := by decide +kernel
theorem dX5_fares_5 : decode cX5_fares 5 = .ok (.aload_n 0, 1) := by decide +kernel
theorem dX5_fares_6 : decode cX5_fares 6 = .ok (.getfield 99, 3) := by decide +kernel
theorem dX5_fares_9 : decode cX5_fares 9 = .ok (.if_icmp .ge 35, 3) := by decide +kernel
theorem dX5_fares_12 : decode cX5_fares 12 = .ok (.iload_n 2, 1) := by decide +kernel
theorem dX5_fares_13 : decode cX5_fares 13 = .ok (.iload_n 1, 1) := by decide +kernel
theorem dX5_fares_14 : decode cX5_fares 14 = .ok (.iload_n 3, 1) := by decide +kernel
theorem dX5_fares_15 : decode cX5_fares 15 = .ok (.ishr, 1) := by decide +kernel
theorem dX5_fares_16 : decode cX5_fares 16 = .ok (.iconst 1, 1) := by decide +kernel
theorem dX5_fares_17 : decode cX5_fares 17 = .ok (.iand, 1) := by decide +kernel
theorem dX5_fares_18 : decode cX5_fares 18 = .ok (.iconst 1, 1) := by decide +kernel
theorem dX5_fares_19 : decode cX5_fares 19 = .ok (.if_icmp .ne 16, 3) := by decide +kernel
theorem dX5_fares_22 : decode cX5_fares 22 = .ok (.aload_n 0, 1) := by decide +kernel
theorem dX5_fares_23 : decode cX5_fares 23 = .ok (.getfield 19, 3) := by decide +kernel
theorem dX5_fares_26 : decode cX5_fares 26 = .ok (.iconst 3, 1) := by decide +kernel
theorem dX5_fares_27 : decode cX5_fares 27 = .ok (.iload_n 3, 1) := by decide +kernel
theorem dX5_fares_28 : decode cX5_fares 28 = .ok (.imul, 1) := by decide +kernel
theorem dX5_fares_29 : decode cX5_fares 29 = .ok (.iconst 1, 1) := by decide +kernel
theorem dX5_fares_30 : decode cX5_fares 30 = .ok (.iadd, 1) := by decide +kernel
theorem dX5_fares_31 : decode cX5_fares 31 = .ok (.iaload, 1) := by decide +kernel
theorem dX5_fares_32 : decode cX5_fares 32 = .ok (.goto 4, 3) := by decide +kernel
theorem dX5_fares_35 : decode cX5_fares 35 = .ok (.iconst 0, 1) := by decide +kernel
theorem dX5_fares_36 : decode cX5_fares 36 = .ok (.iadd, 1) := by decide +kernel
theorem dX5_fares_37 : decode cX5_fares 37 = .ok (.istore_n 2, 1) := by decide +kernel
theorem dX5_fares_38 : decode cX5_fares 38 = .ok (.iinc 3 1, 3) := by decide +kernel
theorem dX5_fares_41 : decode cX5_fares 41 = .ok (.goto (-37), 3) := by decide +kernel
theorem dX5_fares_44 : decode cX5_fares 44 = .ok (.iload_n 2, 1) := by decide +kernel
theorem dX5_fares_45 : decode cX5_fares 45 = .ok (.ireturn, 1) := by decide +kernel
theorem dX5_leave_0 : decode cX5_leave 0 = .ok (.aload_n 0, 1) := by decide +kernel
theorem dX5_leave_1 : decode cX5_leave 1 = .ok (.iconst 0, 1) := by decide +kernel
theorem dX5_leave_2 : decode cX5_leave 2 = .ok (.invokevirtual 125, 3) := by decide +kernel
theorem dX5_leave_5 : decode cX5_leave 5 = .ok (.istore_n 1, 1) := by decide +kernel
theorem dX5_leave_6 : decode cX5_leave 6 = .ok (.aload_n 0, 1) := by decide +kernel
theorem dX5_leave_7 : decode cX5_leave 7 = .ok (.iconst 1, 1) := by decide +kernel
theorem dX5_leave_8 : decode cX5_leave 8 = .ok (.invokevirtual 125, 3) := by decide +kernel
theorem dX5_leave_11 : decode cX5_leave 11 = .ok (.istore_n 2, 1) := by decide +kernel
theorem dX5_leave_12 : decode cX5_leave 12 = .ok (.aload_n 0, 1) := by decide +kernel
theorem dX5_leave_13 : decode cX5_leave 13 = .ok (.iconst 2, 1) := by decide +kernel
theorem dX5_leave_14 : decode cX5_leave 14 = .ok (.invokevirtual 125, 3) := by decide +kernel
theorem dX5_leave_17 : decode cX5_leave 17 = .ok (.istore_n 3, 1) := by decide +kernel
theorem dX5_leave_18 : decode cX5_leave 18 = .ok (.aload_n 0, 1) := by decide +kernel
theorem dX5_leave_19 : decode cX5_leave 19 = .ok (.invokevirtual 131, 3) := by decide +kernel
theorem dX5_leave_22 : decode cX5_leave 22 = .ok (.ifCond .eq 14, 3) := by decide +kernel
theorem dX5_leave_25 : decode cX5_leave 25 = .ok (.aload_n 0, 1) := by decide +kernel
theorem dX5_leave_26 : decode cX5_leave 26 = .ok (.iload_n 1, 1) := by decide +kernel
theorem dX5_leave_27 : decode cX5_leave 27 = .ok (.iload_n 2, 1) := by decide +kernel
theorem dX5_leave_28 : decode cX5_leave 28 = .ok (.iload_n 3, 1) := by decide +kernel
theorem dX5_leave_29 : decode cX5_leave 29 = .ok (.iconst 0, 1) := by decide +kernel
theorem dX5_leave_30 : decode cX5_leave 30 = .ok (.invokevirtual 150, 3) := by decide +kernel
theorem dX5_leave_33 : decode cX5_leave 33 = .ok (.ifCond .ne 6, 3) := by decide +kernel
theorem dX5_leave_36 : decode cX5_leave 36 = .ok (.bipush (-3), 2) := by decide +kernel
theorem dX5_leave_38 : decode cX5_leave 38 = .ok (.ireturn, 1) := by decide +kernel
theorem dX5_leave_39 : decode cX5_leave 39 = .ok (.aload_n 0, 1) := by decide +kernel
theorem dX5_leave_40 : decode cX5_leave 40 = .ok (.getfield 105, 3) := by decide +kernel
theorem dX5_leave_43 : decode cX5_leave 43 = .ok (.bipush 8, 2) := by decide +kernel
theorem dX5_leave_45 : decode cX5_leave 45 = .ok (.if_icmp .ne 6, 3) := by decide +kernel
theorem dX5_leave_48 : decode cX5_leave 48 = .ok (.bipush (-4), 2) := by decide +kernel
theorem dX5_leave_50 : decode cX5_leave 50 = .ok (.ireturn, 1) := by decide +kernel
theorem dX5_leave_51 : decode cX5_leave 51 = .ok (.aload_n 0, 1) := by decide +kernel
theorem dX5_leave_52 : decode cX5_leave 52 = .ok (.getfield 34, 3) := by decide +kernel
theorem dX5_leave_55 : decode cX5_leave 55 = .ok (.iconst 3, 1) := by decide +kernel
theorem dX5_leave_56 : decode cX5_leave 56 = .ok (.aload_n 0, 1) := by decide +kernel
theorem dX5_leave_57 : decode cX5_leave 57 = .ok (.getfield 105, 3) := by decide +kernel
theorem dX5_leave_60 : decode cX5_leave 60 = .ok (.imul, 1) := by decide +kernel
theorem dX5_leave_61 : decode cX5_leave 61 = .ok (.iload_n 1, 1) := by decide +kernel
theorem dX5_leave_62 : decode cX5_leave 62 = .ok (.iastore, 1) := by decide +kernel
theorem dX5_leave_63 : decode cX5_leave 63 = .ok (.aload_n 0, 1) := by decide +kernel
theorem dX5_leave_64 : decode cX5_leave 64 = .ok (.getfield 34, 3) := by decide +kernel
theorem dX5_leave_67 : decode cX5_leave 67 = .ok (.iconst 3, 1) := by decide +kernel
theorem dX5_leave_68 : decode cX5_leave 68 = .ok (.aload_n 0, 1) := by decide +kernel
theorem dX5_leave_69 : decode cX5_leave 69 = .ok (.getfield 105, 3) := by decide +kernel
theorem dX5_leave_72 : decode cX5_leave 72 = .ok (.imul, 1) := by decide +kernel
theorem dX5_leave_73 : decode cX5_leave 73 = .ok (.iconst 1, 1) := by decide +kernel
theorem dX5_leave_74 : decode cX5_leave 74 = .ok (.iadd, 1) := by decide +kernel
theorem dX5_leave_75 : decode cX5_leave 75 = .ok (.iload_n 2, 1) := by decide +kernel
theorem dX5_leave_76 : decode cX5_leave 76 = .ok (.iastore, 1) := by decide +kernel
theorem dX5_leave_77 : decode cX5_leave 77 = .ok (.aload_n 0, 1) := by decide +kernel
theorem dX5_leave_78 : decode cX5_leave 78 = .ok (.getfield 34, 3) := by decide +kernel
theorem dX5_leave_81 : decode cX5_leave 81 = .ok (.iconst 3, 1) := by decide +kernel
theorem dX5_leave_82 : decode cX5_leave 82 = .ok (.aload_n 0, 1) := by decide +kernel
theorem dX5_leave_83 : decode cX5_leave 83 = .ok (.getfield 105, 3) := by decide +kernel
theorem dX5_leave_86 : decode cX5_leave 86 = .ok (.imul, 1) := by decide +kernel
theorem dX5_leave_87 : decode cX5_leave 87 = .ok (.iconst 2, 1) := by decide +kernel
theorem dX5_leave_88 : decode cX5_leave 88 = .ok (.iadd, 1) := by decide +kernel
theorem dX5_leave_89 : decode cX5_leave 89 = .ok (.iload_n 3, 1) := by decide +kernel
theorem dX5_leave_90 : decode cX5_leave 90 = .ok (.iastore, 1) := by decide +kernel
theorem dX5_leave_91 : decode cX5_leave 91 = .ok (.aload_n 0, 1) := by decide +kernel
theorem dX5_leave_92 : decode cX5_leave 92 = .ok (.dup, 1) := by decide +kernel
theorem dX5_leave_93 : decode cX5_leave 93 = .ok (.getfield 105, 3) := by decide +kernel
theorem dX5_leave_96 : decode cX5_leave 96 = .ok (.iconst 1, 1) := by decide +kernel
theorem dX5_leave_97 : decode cX5_leave 97 = .ok (.iadd, 1) := by decide +kernel
theorem dX5_leave_98 : decode cX5_leave 98 = .ok (.putfield 105, 3) := by decide +kernel
theorem dX5_leave_101 : decode cX5_leave 101 = .ok (.iconst 0, 1) := by decide +kernel
theorem dX5_leave_102 : decode cX5_leave 102 = .ok (.istore 4, 2) := by decide +kernel
theorem dX5_leave_104 : decode cX5_leave 104 = .ok (.iload 4, 2) := by decide +kernel
theorem dX5_leave_106 : decode cX5_leave 106 = .ok (.aload_n 0, 1) := by decide +kernel
theorem dX5_leave_107 : decode cX5_leave 107 = .ok (.getfield 99, 3) := by decide +kernel
theorem dX5_leave_110 : decode cX5_leave 110 = .ok (.if_icmp .ge 40, 3) := by decide +kernel
theorem dX5_leave_113 : decode cX5_leave 113 = .ok (.aload_n 0, 1) := by decide +kernel
theorem dX5_leave_114 : decode cX5_leave 114 = .ok (.getfield 28, 3) := by decide +kernel
theorem dX5_leave_117 : decode cX5_leave 117 = .ok (.iload 4, 2) := by decide +kernel
theorem dX5_leave_119 : decode cX5_leave 119 = .ok (.aload_n 0, 1) := by decide +kernel
theorem dX5_leave_120 : decode cX5_leave 120 = .ok (.getfield 28, 3) := by decide +kernel
theorem dX5_leave_123 : decode cX5_leave 123 = .ok (.iload 4, 2) := by decide +kernel
theorem dX5_leave_125 : decode cX5_leave 125 = .ok (.iaload, 1) := by decide +kernel
theorem dX5_leave_126 : decode cX5_leave 126 = .ok (.bipush 10, 2) := by decide +kernel
theorem dX5_leave_128 : decode cX5_leave 128 = .ok (.if_icmp .ge 8, 3) := by decide +kernel
theorem dX5_leave_131 : decode cX5_leave 131 = .ok (.bipush 20, 2) := by decide +kernel
theorem dX5_leave_133 : decode cX5_leave 133 = .ok (.goto 10, 3) := by decide +kernel
theorem dX5_leave_136 : decode cX5_leave 136 = .ok (.aload_n 0, 1) := by decide +kernel
theorem dX5_leave_137 : decode cX5_leave 137 = .ok (.getfield 28, 3) := by decide +kernel
theorem dX5_leave_140 : decode cX5_leave 140 = .ok (.iload 4, 2) := by decide +kernel
theorem dX5_leave_142 : decode cX5_leave 142 = .ok (.iaload, 1) := by decide +kernel
theorem dX5_leave_143 : decode cX5_leave 143 = .ok (.iastore, 1) := by decide +kernel
theorem dX5_leave_144 : decode cX5_leave 144 = .ok (.iinc 4 1, 3) := by decide +kernel
theorem dX5_leave_147 : decode cX5_leave 147 = .ok (.goto (-43), 3) := by decide +kernel
theorem dX5_leave_150 : decode cX5_leave 150 = .ok (.aload_n 0, 1) := by decide +kernel
theorem dX5_leave_151 : decode cX5_leave 151 = .ok (.iload_n 1, 1) := by decide +kernel
theorem dX5_leave_152 : decode cX5_leave 152 = .ok (.iload_n 2, 1) := by decide +kernel
theorem dX5_leave_153 : decode cX5_leave 153 = .ok (.ior, 1) := by decide +kernel
theorem dX5_leave_154 : decode cX5_leave 154 = .ok (.iload_n 3, 1) := by decide +kernel
theorem dX5_leave_155 : decode cX5_leave 155 = .ok (.ior, 1) := by decide +kernel
theorem dX5_leave_156 : decode cX5_leave 156 = .ok (.invokevirtual 154, 3) := by decide +kernel
theorem dX5_leave_159 : decode cX5_leave 159 = .ok (.ireturn, 1) := by decide +kernel
theorem dX5_back_0 : decode cX5_back 0 = .ok (.aload_n 0, 1) := by decide +kernel
theorem dX5_back_1 : decode cX5_back 1 = .ok (.getfield 105, 3) := by decide +kernel
theorem dX5_back_4 : decode cX5_back 4 = .ok (.ifCond .ne 6, 3) := by decide +kernel
theorem dX5_back_7 : decode cX5_back 7 = .ok (.bipush (-3), 2) := by decide +kernel
theorem dX5_back_9 : decode cX5_back 9 = .ok (.ireturn, 1) := by decide +kernel
theorem dX5_back_10 : decode cX5_back 10 = .ok (.aload_n 0, 1) := by decide +kernel
theorem dX5_back_11 : decode cX5_back 11 = .ok (.dup, 1) := by decide +kernel
theorem dX5_back_12 : decode cX5_back 12 = .ok (.getfield 105, 3) := by decide +kernel
theorem dX5_back_15 : decode cX5_back 15 = .ok (.iconst 1, 1) := by decide +kernel
theorem dX5_back_16 : decode cX5_back 16 = .ok (.isub, 1) := by decide +kernel
theorem dX5_back_17 : decode cX5_back 17 = .ok (.putfield 105, 3) := by decide +kernel
theorem dX5_back_20 : decode cX5_back 20 = .ok (.iconst 0, 1) := by decide +kernel
theorem dX5_back_21 : decode cX5_back 21 = .ok (.istore_n 1, 1) := by decide +kernel
theorem dX5_back_22 : decode cX5_back 22 = .ok (.iload_n 1, 1) := by decide +kernel
theorem dX5_back_23 : decode cX5_back 23 = .ok (.aload_n 0, 1) := by decide +kernel
theorem dX5_back_24 : decode cX5_back 24 = .ok (.getfield 99, 3) := by decide +kernel
theorem dX5_back_27 : decode cX5_back 27 = .ok (.if_icmp .ge 87, 3) := by decide +kernel
theorem dX5_back_30 : decode cX5_back 30 = .ok (.aload_n 0, 1) := by decide +kernel
theorem dX5_back_31 : decode cX5_back 31 = .ok (.getfield 28, 3) := by decide +kernel
theorem dX5_back_34 : decode cX5_back 34 = .ok (.iload_n 1, 1) := by decide +kernel
theorem dX5_back_35 : decode cX5_back 35 = .ok (.aload_n 0, 1) := by decide +kernel
theorem dX5_back_36 : decode cX5_back 36 = .ok (.getfield 28, 3) := by decide +kernel
theorem dX5_back_39 : decode cX5_back 39 = .ok (.iload_n 1, 1) := by decide +kernel
theorem dX5_back_40 : decode cX5_back 40 = .ok (.iaload, 1) := by decide +kernel
theorem dX5_back_41 : decode cX5_back 41 = .ok (.bipush 10, 2) := by decide +kernel
theorem dX5_back_43 : decode cX5_back 43 = .ok (.if_icmp .ge 8, 3) := by decide +kernel
theorem dX5_back_46 : decode cX5_back 46 = .ok (.bipush 10, 2) := by decide +kernel
theorem dX5_back_48 : decode cX5_back 48 = .ok (.goto 9, 3) := by decide +kernel
theorem dX5_back_51 : decode cX5_back 51 = .ok (.aload_n 0, 1) := by decide +kernel
theorem dX5_back_52 : decode cX5_back 52 = .ok (.getfield 28, 3) := by decide +kernel
theorem dX5_back_55 : decode cX5_back 55 = .ok (.iload_n 1, 1) := by decide +kernel
theorem dX5_back_56 : decode cX5_back 56 = .ok (.iaload, 1) := by decide +kernel
theorem dX5_back_57 : decode cX5_back 57 = .ok (.iastore, 1) := by decide +kernel
theorem dX5_back_58 : decode cX5_back 58 = .ok (.iconst 0, 1) := by decide +kernel
theorem dX5_back_59 : decode cX5_back 59 = .ok (.istore_n 2, 1) := by decide +kernel
theorem dX5_back_60 : decode cX5_back 60 = .ok (.iload_n 2, 1) := by decide +kernel
theorem dX5_back_61 : decode cX5_back 61 = .ok (.iconst 3, 1) := by decide +kernel
theorem dX5_back_62 : decode cX5_back 62 = .ok (.if_icmp .ge 46, 3) := by decide +kernel
theorem dX5_back_65 : decode cX5_back 65 = .ok (.aload_n 0, 1) := by decide +kernel
theorem dX5_back_66 : decode cX5_back 66 = .ok (.getfield 28, 3) := by decide +kernel
theorem dX5_back_69 : decode cX5_back 69 = .ok (.iload_n 1, 1) := by decide +kernel
theorem dX5_back_70 : decode cX5_back 70 = .ok (.aload_n 0, 1) := by decide +kernel
theorem dX5_back_71 : decode cX5_back 71 = .ok (.getfield 34, 3) := by decide +kernel
theorem dX5_back_74 : decode cX5_back 74 = .ok (.iconst 3, 1) := by decide +kernel
theorem dX5_back_75 : decode cX5_back 75 = .ok (.aload_n 0, 1) := by decide +kernel
theorem dX5_back_76 : decode cX5_back 76 = .ok (.getfield 105, 3) := by decide +kernel
theorem dX5_back_79 : decode cX5_back 79 = .ok (.imul, 1) := by decide +kernel
theorem dX5_back_80 : decode cX5_back 80 = .ok (.iload_n 2, 1) := by decide +kernel
theorem dX5_back_81 : decode cX5_back 81 = .ok (.iadd, 1) := by decide +kernel
theorem dX5_back_82 : decode cX5_back 82 = .ok (.iaload, 1) := by decide +kernel
theorem dX5_back_83 : decode cX5_back 83 = .ok (.iload_n 1, 1) := by decide +kernel
theorem dX5_back_84 : decode cX5_back 84 = .ok (.ishr, 1) := by decide +kernel
theorem dX5_back_85 : decode cX5_back 85 = .ok (.iconst 1, 1) := by decide +kernel
theorem dX5_back_86 : decode cX5_back 86 = .ok (.iand, 1) := by decide +kernel
theorem dX5_back_87 : decode cX5_back 87 = .ok (.iconst 1, 1) := by decide +kernel
theorem dX5_back_88 : decode cX5_back 88 = .ok (.if_icmp .ne 7, 3) := by decide +kernel
theorem dX5_back_91 : decode cX5_back 91 = .ok (.iload_n 2, 1) := by decide +kernel
theorem dX5_back_92 : decode cX5_back 92 = .ok (.goto 9, 3) := by decide +kernel
theorem dX5_back_95 : decode cX5_back 95 = .ok (.aload_n 0, 1) := by decide +kernel
theorem dX5_back_96 : decode cX5_back 96 = .ok (.getfield 28, 3) := by decide +kernel
theorem dX5_back_99 : decode cX5_back 99 = .ok (.iload_n 1, 1) := by decide +kernel
theorem dX5_back_100 : decode cX5_back 100 = .ok (.iaload, 1) := by decide +kernel
theorem dX5_back_101 : decode cX5_back 101 = .ok (.iastore, 1) := by decide +kernel
theorem dX5_back_102 : decode cX5_back 102 = .ok (.iinc 2 1, 3) := by decide +kernel
theorem dX5_back_105 : decode cX5_back 105 = .ok (.goto (-45), 3) := by decide +kernel
theorem dX5_back_108 : decode cX5_back 108 = .ok (.iinc 1 1, 3) := by decide +kernel
theorem dX5_back_111 : decode cX5_back 111 = .ok (.goto (-89), 3) := by decide +kernel
theorem dX5_back_114 : decode cX5_back 114 = .ok (.aload_n 0, 1) := by decide +kernel
theorem dX5_back_115 : decode cX5_back 115 = .ok (.getfield 105, 3) := by decide +kernel
theorem dX5_back_118 : decode cX5_back 118 = .ok (.ireturn, 1) := by decide +kernel
theorem dX5_left_0 : decode cX5_left 0 = .ok (.iload_n 1, 1) := by decide +kernel
theorem dX5_left_1 : decode cX5_left 1 = .ok (.i2l, 1) := by decide +kernel
theorem dX5_left_2 : decode cX5_left 2 = .ok (.lconst 0, 1) := by decide +kernel
theorem dX5_left_3 : decode cX5_left 3 = .ok (.aload_n 0, 1) := by decide +kernel
theorem dX5_left_4 : decode cX5_left 4 = .ok (.getfield 105, 3) := by decide +kernel
theorem dX5_left_7 : decode cX5_left 7 = .ok (.iconst 1, 1) := by decide +kernel
theorem dX5_left_8 : decode cX5_left 8 = .ok (.isub, 1) := by decide +kernel
theorem dX5_left_9 : decode cX5_left 9 = .ok (.i2l, 1) := by decide +kernel
theorem dX5_left_10 : decode cX5_left 10 = .ok (.invokestatic 70, 3) := by decide +kernel
theorem dX5_left_13 : decode cX5_left 13 = .ok (.ifCond .eq 24, 3) := by decide +kernel
theorem dX5_left_16 : decode cX5_left 16 = .ok (.aload_n 0, 1) := by decide +kernel
theorem dX5_left_17 : decode cX5_left 17 = .ok (.iload_n 2, 1) := by decide +kernel
theorem dX5_left_18 : decode cX5_left 18 = .ok (.invokevirtual 118, 3) := by decide +kernel
theorem dX5_left_21 : decode cX5_left 21 = .ok (.ifCond .eq 16, 3) := by decide +kernel
theorem dX5_left_24 : decode cX5_left 24 = .ok (.aload_n 0, 1) := by decide +kernel
theorem dX5_left_25 : decode cX5_left 25 = .ok (.getfield 34, 3) := by decide +kernel
theorem dX5_left_28 : decode cX5_left 28 = .ok (.iconst 3, 1) := by decide +kernel
theorem dX5_left_29 : decode cX5_left 29 = .ok (.iload_n 1, 1) := by decide +kernel
theorem dX5_left_30 : decode cX5_left 30 = .ok (.imul, 1) := by decide +kernel
theorem dX5_left_31 : decode cX5_left 31 = .ok (.iload_n 2, 1) := by decide +kernel
theorem dX5_left_32 : decode cX5_left 32 = .ok (.iadd, 1) := by decide +kernel
theorem dX5_left_33 : decode cX5_left 33 = .ok (.iaload, 1) := by decide +kernel
theorem dX5_left_34 : decode cX5_left 34 = .ok (.goto 4, 3) := by decide +kernel
theorem dX5_left_37 : decode cX5_left 37 = .ok (.iconst (-1), 1) := by decide +kernel
theorem dX5_left_38 : decode cX5_left 38 = .ok (.ireturn, 1) := by decide +kernel
theorem dX5_laySets_0 : decode cX5_laySets 0 = .ok (.aload_n 0, 1) := by decide +kernel
theorem dX5_laySets_1 : decode cX5_laySets 1 = .ok (.getfield 37, 3) := by decide +kernel
theorem dX5_laySets_4 : decode cX5_laySets 4 = .ok (.iconst 0, 1) := by decide +kernel
theorem dX5_laySets_5 : decode cX5_laySets 5 = .ok (.iconst 0, 1) := by decide +kernel
theorem dX5_laySets_6 : decode cX5_laySets 6 = .ok (.iastore, 1) := by decide +kernel
theorem dX5_laySets_7 : decode cX5_laySets 7 = .ok (.aload_n 0, 1) := by decide +kernel
theorem dX5_laySets_8 : decode cX5_laySets 8 = .ok (.getfield 37, 3) := by decide +kernel
theorem dX5_laySets_11 : decode cX5_laySets 11 = .ok (.iconst 1, 1) := by decide +kernel
theorem dX5_laySets_12 : decode cX5_laySets 12 = .ok (.iconst 0, 1) := by decide +kernel
theorem dX5_laySets_13 : decode cX5_laySets 13 = .ok (.iastore, 1) := by decide +kernel
theorem dX5_laySets_14 : decode cX5_laySets 14 = .ok (.aload_n 0, 1) := by decide +kernel
theorem dX5_laySets_15 : decode cX5_laySets 15 = .ok (.getfield 37, 3) := by decide +kernel
theorem dX5_laySets_18 : decode cX5_laySets 18 = .ok (.iconst 2, 1) := by decide +kernel
theorem dX5_laySets_19 : decode cX5_laySets 19 = .ok (.iconst 0, 1) := by decide +kernel
theorem dX5_laySets_20 : decode cX5_laySets 20 = .ok (.iastore, 1) := by decide +kernel
theorem dX5_laySets_21 : decode cX5_laySets 21 = .ok (.iconst 0, 1) := by decide +kernel
theorem dX5_laySets_22 : decode cX5_laySets 22 = .ok (.istore_n 3, 1) := by decide +kernel
theorem dX5_laySets_23 : decode cX5_laySets 23 = .ok (.iload_n 3, 1) := by decide +kernel
theorem dX5_laySets_24 : decode cX5_laySets 24 = .ok (.aload_n 0, 1) := by decide +kernel
theorem dX5_laySets_25 : decode cX5_laySets 25 = .ok (.getfield 99, 3) := by decide +kernel
theorem dX5_laySets_28 : decode cX5_laySets 28 = .ok (.if_icmp .ge 74, 3) := by decide +kernel
theorem dX5_laySets_31 : decode cX5_laySets 31 = .ok (.iload_n 1, 1) := by decide +kernel
theorem dX5_laySets_32 : decode cX5_laySets 32 = .ok (.iconst 2, 1) := by decide +kernel
theorem dX5_laySets_33 : decode cX5_laySets 33 = .ok (.aload_n 0, 1) := by decide +kernel
theorem dX5_laySets_34 : decode cX5_laySets 34 = .ok (.getfield 99, 3) := by decide +kernel
theorem dX5_laySets_37 : decode cX5_laySets 37 = .ok (.iconst 1, 1) := by decide +kernel
theorem dX5_laySets_38 : decode cX5_laySets 38 = .ok (.isub, 1) := by decide +kernel
theorem dX5_laySets_39 : decode cX5_laySets 39 = .ok (.iload_n 3, 1) := by decide +kernel
theorem dX5_laySets_40 : decode cX5_laySets 40 = .ok (.isub, 1) := by decide +kernel
theorem dX5_laySets_41 : decode cX5_laySets 41 = .ok (.imul, 1) := by decide +kernel
theorem dX5_laySets_42 : decode cX5_laySets 42 = .ok (.ishr, 1) := by decide +kernel
theorem dX5_laySets_43 : decode cX5_laySets 43 = .ok (.iconst 3, 1) := by decide +kernel
theorem dX5_laySets_44 : decode cX5_laySets 44 = .ok (.iand, 1) := by decide +kernel
theorem dX5_laySets_45 : decode cX5_laySets 45 = .ok (.iconst 1, 1) := by decide +kernel
theorem dX5_laySets_46 : decode cX5_laySets 46 = .ok (.isub, 1) := by decide +kernel
theorem dX5_laySets_47 : decode cX5_laySets 47 = .ok (.istore 4, 2) := by decide +kernel
theorem dX5_laySets_49 : decode cX5_laySets 49 = .ok (.iload 4, 2) := by decide +kernel
theorem dX5_laySets_51 : decode cX5_laySets 51 = .ok (.ifCond .lt 45, 3) := by decide +kernel
theorem dX5_laySets_54 : decode cX5_laySets 54 = .ok (.iload_n 2, 1) := by decide +kernel
theorem dX5_laySets_55 : decode cX5_laySets 55 = .ok (.iload_n 3, 1) := by decide +kernel
theorem dX5_laySets_56 : decode cX5_laySets 56 = .ok (.ishr, 1) := by decide +kernel
theorem dX5_laySets_57 : decode cX5_laySets 57 = .ok (.iconst 1, 1) := by decide +kernel
theorem dX5_laySets_58 : decode cX5_laySets 58 = .ok (.iand, 1) := by decide +kernel
theorem dX5_laySets_59 : decode cX5_laySets 59 = .ok (.ifCond .eq 22, 3) := by decide +kernel
theorem dX5_laySets_62 : decode cX5_laySets 62 = .ok (.aload_n 0, 1) := by decide +kernel
theorem dX5_laySets_63 : decode cX5_laySets 63 = .ok (.iload 4, 2) := by decide +kernel
theorem dX5_laySets_65 : decode cX5_laySets 65 = .ok (.invokevirtual 118, 3) := by decide +kernel
theorem dX5_laySets_68 : decode cX5_laySets 68 = .ok (.ifCond .eq 13, 3) := by decide +kernel
theorem dX5_laySets_71 : decode cX5_laySets 71 = .ok (.aload_n 0, 1) := by decide +kernel
theorem dX5_laySets_72 : decode cX5_laySets 72 = .ok (.iload_n 3, 1) := by decide +kernel
theorem dX5_laySets_73 : decode cX5_laySets 73 = .ok (.iload 4, 2) := by decide +kernel
theorem dX5_laySets_75 : decode cX5_laySets 75 = .ok (.invokevirtual 121, 3) := by decide +kernel
theorem dX5_laySets_78 : decode cX5_laySets 78 = .ok (.ifCond .ne 5, 3) := by decide +kernel
theorem dX5_laySets_81 : decode cX5_laySets 81 = .ok (.iconst 0, 1) := by decide +kernel
theorem dX5_laySets_82 : decode cX5_laySets 82 = .ok (.ireturn, 1) := by decide +kernel
theorem dX5_laySets_83 : decode cX5_laySets 83 = .ok (.aload_n 0, 1) := by decide +kernel
theorem dX5_laySets_84 : decode cX5_laySets 84 = .ok (.getfield 37, 3) := by decide +kernel
theorem dX5_laySets_87 : decode cX5_laySets 87 = .ok (.iload 4, 2) := by decide +kernel
theorem dX5_laySets_89 : decode cX5_laySets 89 = .ok (.dup2, 1) := by decide +kernel
theorem dX5_laySets_90 : decode cX5_laySets 90 = .ok (.iaload, 1) := by decide +kernel
theorem dX5_laySets_91 : decode cX5_laySets 91 = .ok (.iconst 1, 1) := by decide +kernel
theorem dX5_laySets_92 : decode cX5_laySets 92 = .ok (.iload_n 3, 1) := by decide +kernel
theorem dX5_laySets_93 : decode cX5_laySets 93 = .ok (.ishl, 1) := by decide +kernel
theorem dX5_laySets_94 : decode cX5_laySets 94 = .ok (.ior, 1) := by decide +kernel
theorem dX5_laySets_95 : decode cX5_laySets 95 = .ok (.iastore, 1) := by decide +kernel
theorem dX5_laySets_96 : decode cX5_laySets 96 = .ok (.iinc 3 1, 3) := by decide +kernel
theorem dX5_laySets_99 : decode cX5_laySets 99 = .ok (.goto (-76), 3) := by decide +kernel
theorem dX5_laySets_102 : decode cX5_laySets 102 = .ok (.iload_n 1, 1) := by decide +kernel
theorem dX5_laySets_103 : decode cX5_laySets 103 = .ok (.ifCond .le 61, 3) := by decide +kernel
theorem dX5_laySets_106 : decode cX5_laySets 106 = .ok (.aload_n 0, 1) := by decide +kernel
theorem dX5_laySets_107 : decode cX5_laySets 107 = .ok (.getfield 37, 3) := by decide +kernel
theorem dX5_laySets_110 : decode cX5_laySets 110 = .ok (.iconst 0, 1) := by decide +kernel
theorem dX5_laySets_111 : decode cX5_laySets 111 = .ok (.iaload, 1) := by decide +kernel
theorem dX5_laySets_112 : decode cX5_laySets 112 = .ok (.invokestatic 128, 3) := by decide +kernel
theorem dX5_laySets_115 : decode cX5_laySets 115 = .ok (.aload_n 0, 1) := by decide +kernel
theorem dX5_laySets_116 : decode cX5_laySets 116 = .ok (.getfield 16, 3) := by decide +kernel
theorem dX5_laySets_119 : decode cX5_laySets 119 = .ok (.iconst 3, 1) := by decide +kernel
theorem dX5_laySets_120 : decode cX5_laySets 120 = .ok (.iaload, 1) := by decide +kernel
theorem dX5_laySets_121 : decode cX5_laySets 121 = .ok (.if_icmp .gt 43, 3) := by decide +kernel
theorem dX5_laySets_124 : decode cX5_laySets 124 = .ok (.aload_n 0, 1) := by decide +kernel
theorem dX5_laySets_125 : decode cX5_laySets 125 = .ok (.getfield 37, 3) := by decide +kernel
theorem dX5_laySets_128 : decode cX5_laySets 128 = .ok (.iconst 1, 1) := by decide +kernel
theorem dX5_laySets_129 : decode cX5_laySets 129 = .ok (.iaload, 1) := by decide +kernel
theorem dX5_laySets_130 : decode cX5_laySets 130 = .ok (.invokestatic 128, 3) := by decide +kernel
theorem dX5_laySets_133 : decode cX5_laySets 133 = .ok (.aload_n 0, 1) := by decide +kernel
theorem dX5_laySets_134 : decode cX5_laySets 134 = .ok (.getfield 16, 3) := by decide +kernel
theorem dX5_laySets_137 : decode cX5_laySets 137 = .ok (.iconst 3, 1) := by decide +kernel
theorem dX5_laySets_138 : decode cX5_laySets 138 = .ok (.iaload, 1) := by decide +kernel
theorem dX5_laySets_139 : decode cX5_laySets 139 = .ok (.if_icmp .gt 25, 3) := by decide +kernel
theorem dX5_laySets_142 : decode cX5_laySets 142 = .ok (.aload_n 0, 1) := by decide +kernel
theorem dX5_laySets_143 : decode cX5_laySets 143 = .ok (.getfield 37, 3) := by decide +kernel
theorem dX5_laySets_146 : decode cX5_laySets 146 = .ok (.iconst 2, 1) := by decide +kernel
theorem dX5_laySets_147 : decode cX5_laySets 147 = .ok (.iaload, 1) := by decide +kernel
theorem dX5_laySets_148 : decode cX5_laySets 148 = .ok (.invokestatic 128, 3) := by decide +kernel
theorem dX5_laySets_151 : decode cX5_laySets 151 = .ok (.aload_n 0, 1) := by decide +kernel
theorem dX5_laySets_152 : decode cX5_laySets 152 = .ok (.getfield 16, 3) := by decide +kernel
theorem dX5_laySets_155 : decode cX5_laySets 155 = .ok (.iconst 3, 1) := by decide +kernel
theorem dX5_laySets_156 : decode cX5_laySets 156 = .ok (.iaload, 1) := by decide +kernel
theorem dX5_laySets_157 : decode cX5_laySets 157 = .ok (.if_icmp .gt 7, 3) := by decide +kernel
theorem dX5_laySets_160 : decode cX5_laySets 160 = .ok (.iconst 1, 1) := by decide +kernel
theorem dX5_laySets_161 : decode cX5_laySets 161 = .ok (.goto 4, 3) := by decide +kernel
theorem dX5_laySets_164 : decode cX5_laySets 164 = .ok (.iconst 0, 1) := by decide +kernel
theorem dX5_laySets_165 : decode cX5_laySets 165 = .ok (.ireturn, 1) := by decide +kernel
theorem dX5_layChoices_0 : decode cX5_layChoices 0 = .ok (.aload_n 0, 1) := by decide +kernel
theorem dX5_layChoices_1 : decode cX5_layChoices 1 = .ok (.bipush (-9), 2) := by decide +kernel
theorem dX5_layChoices_3 : decode cX5_layChoices 3 = .ok (.putfield 157, 3) := by decide +kernel
theorem dX5_layChoices_6 : decode cX5_layChoices 6 = .ok (.aload_n 0, 1) := by decide +kernel
theorem dX5_layChoices_7 : decode cX5_layChoices 7 = .ok (.iconst 0, 1) := by decide +kernel
theorem dX5_layChoices_8 : decode cX5_layChoices 8 = .ok (.putfield 160, 3) := by decide +kernel
theorem dX5_layChoices_11 : decode cX5_layChoices 11 = .ok (.aload_n 0, 1) := by decide +kernel
theorem dX5_layChoices_12 : decode cX5_layChoices 12 = .ok (.iconst 0, 1) := by decide +kernel
theorem dX5_layChoices_13 : decode cX5_layChoices 13 = .ok (.putfield 163, 3) := by decide +kernel
theorem dX5_layChoices_16 : decode cX5_layChoices 16 = .ok (.iconst 0, 1) := by decide +kernel
theorem dX5_layChoices_17 : decode cX5_layChoices 17 = .ok (.istore_n 2, 1) := by decide +kernel
theorem dX5_layChoices_18 : decode cX5_layChoices 18 = .ok (.iload_n 2, 1) := by decide +kernel
theorem dX5_layChoices_19 : decode cX5_layChoices 19 = .ok (.sipush 256, 3) := by decide +kernel
theorem dX5_layChoices_22 : decode cX5_layChoices 22 = .ok (.if_icmp .ge 16, 3) := by decide +kernel
theorem dX5_layChoices_25 : decode cX5_layChoices 25 = .ok (.aload_n 0, 1) := by decide +kernel
theorem dX5_layChoices_26 : decode cX5_layChoices 26 = .ok (.getfield 40, 3) := by decide +kernel
theorem dX5_layChoices_29 : decode cX5_layChoices 29 = .ok (.iload_n 2, 1) := by decide +kernel
theorem dX5_layChoices_30 : decode cX5_layChoices 30 = .ok (.iconst 0, 1) := by decide +kernel
theorem dX5_layChoices_31 : decode cX5_layChoices 31 = .ok (.bastore, 1) := by decide +kernel
theorem dX5_layChoices_32 : decode cX5_layChoices 32 = .ok (.iinc 2 1, 3) := by decide +kernel
theorem dX5_layChoices_35 : decode cX5_layChoices 35 = .ok (.goto (-17), 3) := by decide +kernel
theorem dX5_layChoices_38 : decode cX5_layChoices 38 = .ok (.iconst 0, 1) := by decide +kernel
theorem dX5_layChoices_39 : decode cX5_layChoices 39 = .ok (.istore_n 2, 1) := by decide +kernel
theorem dX5_layChoices_40 : decode cX5_layChoices 40 = .ok (.iload_n 2, 1) := by decide +kernel
theorem dX5_layChoices_41 : decode cX5_layChoices 41 = .ok (.bipush 100, 2) := by decide +kernel
theorem dX5_layChoices_43 : decode cX5_layChoices 43 = .ok (.if_icmp .ge 16, 3) := by decide +kernel
theorem dX5_layChoices_46 : decode cX5_layChoices 46 = .ok (.aload_n 0, 1) := by decide +kernel
theorem dX5_layChoices_47 : decode cX5_layChoices 47 = .ok (.getfield 44, 3) := by decide +kernel
theorem dX5_layChoices_50 : decode cX5_layChoices 50 = .ok (.iload_n 2, 1) := by decide +kernel
theorem dX5_layChoices_51 : decode cX5_layChoices 51 = .ok (.iconst 0, 1) := by decide +kernel
theorem dX5_layChoices_52 : decode cX5_layChoices 52 = .ok (.iastore, 1) := by decide +kernel
theorem dX5_layChoices_53 : decode cX5_layChoices 53 = .ok (.iinc 2 1, 3) := by decide +kernel
theorem dX5_layChoices_56 : decode cX5_layChoices 56 = .ok (.goto (-16), 3) := by decide +kernel
theorem dX5_layChoices_59 : decode cX5_layChoices 59 = .ok (.iconst 1, 1) := by decide +kernel
theorem dX5_layChoices_60 : decode cX5_layChoices 60 = .ok (.istore_n 2, 1) := by decide +kernel
theorem dX5_layChoices_61 : decode cX5_layChoices 61 = .ok (.iload_n 2, 1) := by decide +kernel
theorem dX5_layChoices_62 : decode cX5_layChoices 62 = .ok (.iconst 1, 1) := by decide +kernel
theorem dX5_layChoices_63 : decode cX5_layChoices 63 = .ok (.iconst 2, 1) := by decide +kernel
theorem dX5_layChoices_64 : decode cX5_layChoices 64 = .ok (.aload_n 0, 1) := by decide +kernel
theorem dX5_layChoices_65 : decode cX5_layChoices 65 = .ok (.getfield 99, 3) := by decide +kernel
theorem dX5_layChoices_68 : decode cX5_layChoices 68 = .ok (.imul, 1) := by decide +kernel
theorem dX5_layChoices_69 : decode cX5_layChoices 69 = .ok (.ishl, 1) := by decide +kernel
theorem dX5_layChoices_70 : decode cX5_layChoices 70 = .ok (.if_icmp .ge 87, 3) := by decide +kernel
theorem dX5_layChoices_73 : decode cX5_layChoices 73 = .ok (.aload_n 0, 1) := by decide +kernel
theorem dX5_layChoices_74 : decode cX5_layChoices 74 = .ok (.iload_n 2, 1) := by decide +kernel
theorem dX5_layChoices_75 : decode cX5_layChoices 75 = .ok (.iload_n 1, 1) := by decide +kernel
theorem dX5_layChoices_76 : decode cX5_layChoices 76 = .ok (.invokevirtual 166, 3) := by decide +kernel
theorem dX5_layChoices_79 : decode cX5_layChoices 79 = .ok (.ifCond .eq 72, 3) := by decide +kernel
theorem dX5_layChoices_82 : decode cX5_layChoices 82 = .ok (.aload_n 0, 1) := by decide +kernel
theorem dX5_layChoices_83 : decode cX5_layChoices 83 = .ok (.getfield 37, 3) := by decide +kernel
theorem dX5_layChoices_86 : decode cX5_layChoices 86 = .ok (.iconst 0, 1) := by decide +kernel
theorem dX5_layChoices_87 : decode cX5_layChoices 87 = .ok (.iaload, 1) := by decide +kernel
theorem dX5_layChoices_88 : decode cX5_layChoices 88 = .ok (.aload_n 0, 1) := by decide +kernel
theorem dX5_layChoices_89 : decode cX5_layChoices 89 = .ok (.getfield 37, 3) := by decide +kernel
theorem dX5_layChoices_92 : decode cX5_layChoices 92 = .ok (.iconst 1, 1) := by decide +kernel
theorem dX5_layChoices_93 : decode cX5_layChoices 93 = .ok (.iaload, 1) := by decide +kernel
theorem dX5_layChoices_94 : decode cX5_layChoices 94 = .ok (.ior, 1) := by decide +kernel
theorem dX5_layChoices_95 : decode cX5_layChoices 95 = .ok (.aload_n 0, 1) := by decide +kernel
theorem dX5_layChoices_96 : decode cX5_layChoices 96 = .ok (.getfield 37, 3) := by decide +kernel
theorem dX5_layChoices_99 : decode cX5_layChoices 99 = .ok (.iconst 2, 1) := by decide +kernel
theorem dX5_layChoices_100 : decode cX5_layChoices 100 = .ok (.iaload, 1) := by decide +kernel
theorem dX5_layChoices_101 : decode cX5_layChoices 101 = .ok (.ior, 1) := by decide +kernel
theorem dX5_layChoices_102 : decode cX5_layChoices 102 = .ok (.istore_n 3, 1) := by decide +kernel
theorem dX5_layChoices_103 : decode cX5_layChoices 103 = .ok (.aload_n 0, 1) := by decide +kernel
theorem dX5_layChoices_104 : decode cX5_layChoices 104 = .ok (.aload_n 0, 1) := by decide +kernel
theorem dX5_layChoices_105 : decode cX5_layChoices 105 = .ok (.getfield 37, 3) := by decide +kernel
theorem dX5_layChoices_108 : decode cX5_layChoices 108 = .ok (.iconst 0, 1) := by decide +kernel
theorem dX5_layChoices_109 : decode cX5_layChoices 109 = .ok (.iaload, 1) := by decide +kernel
theorem dX5_layChoices_110 : decode cX5_layChoices 110 = .ok (.aload_n 0, 1) := by decide +kernel
theorem dX5_layChoices_111 : decode cX5_layChoices 111 = .ok (.getfield 37, 3) := by decide +kernel
theorem dX5_layChoices_114 : decode cX5_layChoices 114 = .ok (.iconst 1, 1) := by decide +kernel
theorem dX5_layChoices_115 : decode cX5_layChoices 115 = .ok (.iaload, 1) := by decide +kernel
theorem dX5_layChoices_116 : decode cX5_layChoices 116 = .ok (.aload_n 0, 1) := by decide +kernel
theorem dX5_layChoices_117 : decode cX5_layChoices 117 = .ok (.getfield 37, 3) := by decide +kernel
theorem dX5_layChoices_120 : decode cX5_layChoices 120 = .ok (.iconst 2, 1) := by decide +kernel
theorem dX5_layChoices_121 : decode cX5_layChoices 121 = .ok (.iaload, 1) := by decide +kernel
theorem dX5_layChoices_122 : decode cX5_layChoices 122 = .ok (.iconst 0, 1) := by decide +kernel
theorem dX5_layChoices_123 : decode cX5_layChoices 123 = .ok (.invokevirtual 150, 3) := by decide +kernel
theorem dX5_layChoices_126 : decode cX5_layChoices 126 = .ok (.ifCond .eq 16, 3) := by decide +kernel
theorem dX5_layChoices_129 : decode cX5_layChoices 129 = .ok (.aload_n 0, 1) := by decide +kernel
theorem dX5_layChoices_130 : decode cX5_layChoices 130 = .ok (.getfield 40, 3) := by decide +kernel
theorem dX5_layChoices_133 : decode cX5_layChoices 133 = .ok (.iload_n 3, 1) := by decide +kernel
theorem dX5_layChoices_134 : decode cX5_layChoices 134 = .ok (.iconst 1, 1) := by decide +kernel
theorem dX5_layChoices_135 : decode cX5_layChoices 135 = .ok (.bastore, 1) := by decide +kernel
theorem dX5_layChoices_136 : decode cX5_layChoices 136 = .ok (.aload_n 0, 1) := by decide +kernel
theorem dX5_layChoices_137 : decode cX5_layChoices 137 = .ok (.iload_n 3, 1) := by decide +kernel
theorem dX5_layChoices_138 : decode cX5_layChoices 138 = .ok (.iload_n 2, 1) := by decide +kernel
theorem dX5_layChoices_139 : decode cX5_layChoices 139 = .ok (.invokevirtual 169, 3) := by decide +kernel
theorem dX5_layChoices_142 : decode cX5_layChoices 142 = .ok (.aload_n 0, 1) := by decide +kernel
theorem dX5_layChoices_143 : decode cX5_layChoices 143 = .ok (.aload_n 0, 1) := by decide +kernel
theorem dX5_layChoices_144 : decode cX5_layChoices 144 = .ok (.iload_n 3, 1) := by decide +kernel
theorem dX5_layChoices_145 : decode cX5_layChoices 145 = .ok (.invokevirtual 154, 3) := by decide +kernel
theorem dX5_layChoices_148 : decode cX5_layChoices 148 = .ok (.invokevirtual 173, 3) := by decide +kernel
theorem dX5_layChoices_151 : decode cX5_layChoices 151 = .ok (.iinc 2 1, 3) := by decide +kernel
theorem dX5_layChoices_154 : decode cX5_layChoices 154 = .ok (.goto (-93), 3) := by decide +kernel
theorem dX5_layChoices_157 : decode cX5_layChoices 157 = .ok (.return_, 1) := by decide +kernel
theorem dX5_better_0 : decode cX5_better 0 = .ok (.aload_n 0, 1) := by decide +kernel
theorem dX5_better_1 : decode cX5_better 1 = .ok (.iload_n 1, 1) := by decide +kernel
theorem dX5_better_2 : decode cX5_better 2 = .ok (.invokevirtual 154, 3) := by decide +kernel
theorem dX5_better_5 : decode cX5_better 5 = .ok (.istore_n 3, 1) := by decide +kernel
theorem dX5_better_6 : decode cX5_better 6 = .ok (.iload_n 1, 1) := by decide +kernel
theorem dX5_better_7 : decode cX5_better 7 = .ok (.invokestatic 128, 3) := by decide +kernel
theorem dX5_better_10 : decode cX5_better 10 = .ok (.istore 4, 2) := by decide +kernel
theorem dX5_better_12 : decode cX5_better 12 = .ok (.iload_n 3, 1) := by decide +kernel
theorem dX5_better_13 : decode cX5_better 13 = .ok (.aload_n 0, 1) := by decide +kernel
theorem dX5_better_14 : decode cX5_better 14 = .ok (.getfield 157, 3) := by decide +kernel
theorem dX5_better_17 : decode cX5_better 17 = .ok (.if_icmp .gt 20, 3) := by decide +kernel
theorem dX5_better_20 : decode cX5_better 20 = .ok (.iload_n 3, 1) := by decide +kernel
theorem dX5_better_21 : decode cX5_better 21 = .ok (.aload_n 0, 1) := by decide +kernel
theorem dX5_better_22 : decode cX5_better 22 = .ok (.getfield 157, 3) := by decide +kernel
theorem dX5_better_25 : decode cX5_better 25 = .ok (.if_icmp .ne 28, 3) := by decide +kernel
theorem dX5_better_28 : decode cX5_better 28 = .ok (.iload 4, 2) := by decide +kernel
theorem dX5_better_30 : decode cX5_better 30 = .ok (.aload_n 0, 1) := by decide +kernel
theorem dX5_better_31 : decode cX5_better 31 = .ok (.getfield 160, 3) := by decide +kernel
theorem dX5_better_34 : decode cX5_better 34 = .ok (.if_icmp .le 19, 3) := by decide +kernel
theorem dX5_better_37 : decode cX5_better 37 = .ok (.aload_n 0, 1) := by decide +kernel
theorem dX5_better_38 : decode cX5_better 38 = .ok (.iload_n 3, 1) := by decide +kernel
theorem dX5_better_39 : decode cX5_better 39 = .ok (.putfield 157, 3) := by decide +kernel
theorem dX5_better_42 : decode cX5_better 42 = .ok (.aload_n 0, 1) := by decide +kernel
theorem dX5_better_43 : decode cX5_better 43 = .ok (.iload 4, 2) := by decide +kernel
theorem dX5_better_45 : decode cX5_better 45 = .ok (.putfield 160, 3) := by decide +kernel
theorem dX5_better_48 : decode cX5_better 48 = .ok (.aload_n 0, 1) := by decide +kernel
theorem dX5_better_49 : decode cX5_better 49 = .ok (.iload_n 2, 1) := by decide +kernel
theorem dX5_better_50 : decode cX5_better 50 = .ok (.putfield 163, 3) := by decide +kernel
theorem dX5_better_53 : decode cX5_better 53 = .ok (.return_, 1) := by decide +kernel
theorem dX5_layMakes_0 : decode cX5_layMakes 0 = .ok (.iconst 0, 1) := by decide +kernel
theorem dX5_layMakes_1 : decode cX5_layMakes 1 = .ok (.istore_n 2, 1) := by decide +kernel
theorem dX5_layMakes_2 : decode cX5_layMakes 2 = .ok (.iload_n 2, 1) := by decide +kernel
theorem dX5_layMakes_3 : decode cX5_layMakes 3 = .ok (.aload_n 0, 1) := by decide +kernel
theorem dX5_layMakes_4 : decode cX5_layMakes 4 = .ok (.getfield 16, 3) := by decide +kernel
theorem dX5_layMakes_7 : decode cX5_layMakes 7 = .ok (.iconst 0, 1) := by decide +kernel
theorem dX5_layMakes_8 : decode cX5_layMakes 8 = .ok (.iaload, 1) := by decide +kernel
theorem dX5_layMakes_9 : decode cX5_layMakes 9 = .ok (.if_icmp .ge 89, 3) := by decide +kernel
theorem dX5_layMakes_12 : decode cX5_layMakes 12 = .ok (.aload_n 0, 1) := by decide +kernel
theorem dX5_layMakes_13 : decode cX5_layMakes 13 = .ok (.getfield 37, 3) := by decide +kernel
theorem dX5_layMakes_16 : decode cX5_layMakes 16 = .ok (.iload_n 2, 1) := by decide +kernel
theorem dX5_layMakes_17 : decode cX5_layMakes 17 = .ok (.iaload, 1) := by decide +kernel
theorem dX5_layMakes_18 : decode cX5_layMakes 18 = .ok (.invokestatic 128, 3) := by decide +kernel
theorem dX5_layMakes_21 : decode cX5_layMakes 21 = .ok (.aload_n 0, 1) := by decide +kernel
theorem dX5_layMakes_22 : decode cX5_layMakes 22 = .ok (.getfield 16, 3) := by decide +kernel
theorem dX5_layMakes_25 : decode cX5_layMakes 25 = .ok (.iconst 3, 1) := by decide +kernel
theorem dX5_layMakes_26 : decode cX5_layMakes 26 = .ok (.iaload, 1) := by decide +kernel
theorem dX5_layMakes_27 : decode cX5_layMakes 27 = .ok (.if_icmp .ge 12, 3) := by decide +kernel
theorem dX5_layMakes_30 : decode cX5_layMakes 30 = .ok (.aload_n 0, 1) := by decide +kernel
theorem dX5_layMakes_31 : decode cX5_layMakes 31 = .ok (.iload_n 2, 1) := by decide +kernel
theorem dX5_layMakes_32 : decode cX5_layMakes 32 = .ok (.iconst 0, 1) := by decide +kernel
theorem dX5_layMakes_33 : decode cX5_layMakes 33 = .ok (.invokevirtual 177, 3) := by decide +kernel
theorem dX5_layMakes_36 : decode cX5_layMakes 36 = .ok (.goto 4, 3) := by decide +kernel
theorem dX5_layMakes_39 : decode cX5_layMakes 39 = .ok (.iconst 0, 1) := by decide +kernel
theorem dX5_layMakes_40 : decode cX5_layMakes 40 = .ok (.istore_n 3, 1) := by decide +kernel
theorem dX5_layMakes_41 : decode cX5_layMakes 41 = .ok (.iload_n 3, 1) := by decide +kernel
theorem dX5_layMakes_42 : decode cX5_layMakes 42 = .ok (.i2l, 1) := by decide +kernel
theorem dX5_layMakes_43 : decode cX5_layMakes 43 = .ok (.lconst 1, 1) := by decide +kernel
theorem dX5_layMakes_44 : decode cX5_layMakes 44 = .ok (.ldc2_w 181, 3) := by decide +kernel
theorem dX5_layMakes_47 : decode cX5_layMakes 47 = .ok (.invokestatic 70, 3) := by decide +kernel
theorem dX5_layMakes_50 : decode cX5_layMakes 50 = .ok (.ifCond .eq 42, 3) := by decide +kernel
theorem dX5_layMakes_53 : decode cX5_layMakes 53 = .ok (.iload_n 3, 1) := by decide +kernel
theorem dX5_layMakes_54 : decode cX5_layMakes 54 = .ok (.aload_n 0, 1) := by decide +kernel
theorem dX5_layMakes_55 : decode cX5_layMakes 55 = .ok (.iload_n 2, 1) := by decide +kernel
theorem dX5_layMakes_56 : decode cX5_layMakes 56 = .ok (.aload_n 0, 1) := by decide +kernel
theorem dX5_layMakes_57 : decode cX5_layMakes 57 = .ok (.getfield 102, 3) := by decide +kernel
theorem dX5_layMakes_60 : decode cX5_layMakes 60 = .ok (.invokevirtual 177, 3) := by decide +kernel
theorem dX5_layMakes_63 : decode cX5_layMakes 63 = .ok (.if_icmp .ne 29, 3) := by decide +kernel
theorem dX5_layMakes_66 : decode cX5_layMakes 66 = .ok (.aload_n 0, 1) := by decide +kernel
theorem dX5_layMakes_67 : decode cX5_layMakes 67 = .ok (.getfield 44, 3) := by decide +kernel
theorem dX5_layMakes_70 : decode cX5_layMakes 70 = .ok (.iload_n 3, 1) := by decide +kernel
theorem dX5_layMakes_71 : decode cX5_layMakes 71 = .ok (.iload_n 1, 1) := by decide +kernel
theorem dX5_layMakes_72 : decode cX5_layMakes 72 = .ok (.aload_n 0, 1) := by decide +kernel
theorem dX5_layMakes_73 : decode cX5_layMakes 73 = .ok (.getfield 44, 3) := by decide +kernel
theorem dX5_layMakes_76 : decode cX5_layMakes 76 = .ok (.iload_n 3, 1) := by decide +kernel
theorem dX5_layMakes_77 : decode cX5_layMakes 77 = .ok (.iaload, 1) := by decide +kernel
theorem dX5_layMakes_78 : decode cX5_layMakes 78 = .ok (.if_icmp .le 7, 3) := by decide +kernel
theorem dX5_layMakes_81 : decode cX5_layMakes 81 = .ok (.iload_n 1, 1) := by decide +kernel
theorem dX5_layMakes_82 : decode cX5_layMakes 82 = .ok (.goto 9, 3) := by decide +kernel
theorem dX5_layMakes_85 : decode cX5_layMakes 85 = .ok (.aload_n 0, 1) := by decide +kernel
theorem dX5_layMakes_86 : decode cX5_layMakes 86 = .ok (.getfield 44, 3) := by decide +kernel
theorem dX5_layMakes_89 : decode cX5_layMakes 89 = .ok (.iload_n 3, 1) := by decide +kernel
theorem dX5_layMakes_90 : decode cX5_layMakes 90 = .ok (.iaload, 1) := by decide +kernel
theorem dX5_layMakes_91 : decode cX5_layMakes 91 = .ok (.iastore, 1) := by decide +kernel
theorem dX5_layMakes_92 : decode cX5_layMakes 92 = .ok (.iinc 2 1, 3) := by decide +kernel
theorem dX5_layMakes_95 : decode cX5_layMakes 95 = .ok (.goto (-93), 3) := by decide +kernel
theorem dX5_layMakes_98 : decode cX5_layMakes 98 = .ok (.return_, 1) := by decide +kernel
theorem dX5_lacks_0 : decode cX5_lacks 0 = .ok (.aload_n 0, 1) := by decide +kernel
theorem dX5_lacks_1 : decode cX5_lacks 1 = .ok (.aload_n 0, 1) := by decide +kernel
theorem dX5_lacks_2 : decode cX5_lacks 2 = .ok (.getfield 37, 3) := by decide +kernel
theorem dX5_lacks_5 : decode cX5_lacks 5 = .ok (.iconst 0, 1) := by decide +kernel
theorem dX5_lacks_6 : decode cX5_lacks 6 = .ok (.iaload, 1) := by decide +kernel
theorem dX5_lacks_7 : decode cX5_lacks 7 = .ok (.iconst 0, 1) := by decide +kernel
theorem dX5_lacks_8 : decode cX5_lacks 8 = .ok (.iload_n 2, 1) := by decide +kernel
theorem dX5_lacks_9 : decode cX5_lacks 9 = .ok (.iconst 0, 1) := by decide +kernel
theorem dX5_lacks_10 : decode cX5_lacks 10 = .ok (.invokevirtual 138, 3) := by decide +kernel
theorem dX5_lacks_13 : decode cX5_lacks 13 = .ok (.istore_n 3, 1) := by decide +kernel
theorem dX5_lacks_14 : decode cX5_lacks 14 = .ok (.aload_n 0, 1) := by decide +kernel
theorem dX5_lacks_15 : decode cX5_lacks 15 = .ok (.aload_n 0, 1) := by decide +kernel
theorem dX5_lacks_16 : decode cX5_lacks 16 = .ok (.getfield 37, 3) := by decide +kernel
theorem dX5_lacks_19 : decode cX5_lacks 19 = .ok (.iconst 1, 1) := by decide +kernel
theorem dX5_lacks_20 : decode cX5_lacks 20 = .ok (.iaload, 1) := by decide +kernel
theorem dX5_lacks_21 : decode cX5_lacks 21 = .ok (.iconst 1, 1) := by decide +kernel
theorem dX5_lacks_22 : decode cX5_lacks 22 = .ok (.iload_n 2, 1) := by decide +kernel
theorem dX5_lacks_23 : decode cX5_lacks 23 = .ok (.iconst 0, 1) := by decide +kernel
theorem dX5_lacks_24 : decode cX5_lacks 24 = .ok (.invokevirtual 138, 3) := by decide +kernel
theorem dX5_lacks_27 : decode cX5_lacks 27 = .ok (.istore 4, 2) := by decide +kernel
theorem dX5_lacks_29 : decode cX5_lacks 29 = .ok (.aload_n 0, 1) := by decide +kernel
theorem dX5_lacks_30 : decode cX5_lacks 30 = .ok (.aload_n 0, 1) := by decide +kernel
theorem dX5_lacks_31 : decode cX5_lacks 31 = .ok (.getfield 37, 3) := by decide +kernel
theorem dX5_lacks_34 : decode cX5_lacks 34 = .ok (.iconst 2, 1) := by decide +kernel
theorem dX5_lacks_35 : decode cX5_lacks 35 = .ok (.iaload, 1) := by decide +kernel
theorem dX5_lacks_36 : decode cX5_lacks 36 = .ok (.iconst 2, 1) := by decide +kernel
theorem dX5_lacks_37 : decode cX5_lacks 37 = .ok (.iload_n 2, 1) := by decide +kernel
theorem dX5_lacks_38 : decode cX5_lacks 38 = .ok (.iconst 0, 1) := by decide +kernel
theorem dX5_lacks_39 : decode cX5_lacks 39 = .ok (.invokevirtual 138, 3) := by decide +kernel
theorem dX5_lacks_42 : decode cX5_lacks 42 = .ok (.istore 5, 2) := by decide +kernel
theorem dX5_lacks_44 : decode cX5_lacks 44 = .ok (.aload_n 0, 1) := by decide +kernel
theorem dX5_lacks_45 : decode cX5_lacks 45 = .ok (.getfield 16, 3) := by decide +kernel
theorem dX5_lacks_48 : decode cX5_lacks 48 = .ok (.iconst 0, 1) := by decide +kernel
theorem dX5_lacks_49 : decode cX5_lacks 49 = .ok (.iaload, 1) := by decide +kernel
theorem dX5_lacks_50 : decode cX5_lacks 50 = .ok (.iconst 2, 1) := by decide +kernel
theorem dX5_lacks_51 : decode cX5_lacks 51 = .ok (.if_icmp .ne 81, 3) := by decide +kernel
theorem dX5_lacks_54 : decode cX5_lacks 54 = .ok (.aload_n 0, 1) := by decide +kernel
theorem dX5_lacks_55 : decode cX5_lacks 55 = .ok (.getfield 16, 3) := by decide +kernel
theorem dX5_lacks_58 : decode cX5_lacks 58 = .ok (.iconst 1, 1) := by decide +kernel
theorem dX5_lacks_59 : decode cX5_lacks 59 = .ok (.iload_n 1, 1) := by decide +kernel
theorem dX5_lacks_60 : decode cX5_lacks 60 = .ok (.iadd, 1) := by decide +kernel
theorem dX5_lacks_61 : decode cX5_lacks 61 = .ok (.iaload, 1) := by decide +kernel
theorem dX5_lacks_62 : decode cX5_lacks 62 = .ok (.istore 6, 2) := by decide +kernel
theorem dX5_lacks_64 : decode cX5_lacks 64 = .ok (.iload_n 1, 1) := by decide +kernel
theorem dX5_lacks_65 : decode cX5_lacks 65 = .ok (.ifCond .ne 24, 3) := by decide +kernel
theorem dX5_lacks_68 : decode cX5_lacks 68 = .ok (.aload_n 0, 1) := by decide +kernel
theorem dX5_lacks_69 : decode cX5_lacks 69 = .ok (.getfield 16, 3) := by decide +kernel
theorem dX5_lacks_72 : decode cX5_lacks 72 = .ok (.iconst 2, 1) := by decide +kernel
theorem dX5_lacks_73 : decode cX5_lacks 73 = .ok (.iaload, 1) := by decide +kernel
theorem dX5_lacks_74 : decode cX5_lacks 74 = .ok (.iload 4, 2) := by decide +kernel
theorem dX5_lacks_76 : decode cX5_lacks 76 = .ok (.imul, 1) := by decide +kernel
theorem dX5_lacks_77 : decode cX5_lacks 77 = .ok (.aload_n 0, 1) := by decide +kernel
theorem dX5_lacks_78 : decode cX5_lacks 78 = .ok (.getfield 16, 3) := by decide +kernel
theorem dX5_lacks_81 : decode cX5_lacks 81 = .ok (.iconst 1, 1) := by decide +kernel
theorem dX5_lacks_82 : decode cX5_lacks 82 = .ok (.iaload, 1) := by decide +kernel
theorem dX5_lacks_83 : decode cX5_lacks 83 = .ok (.iload_n 3, 1) := by decide +kernel
theorem dX5_lacks_84 : decode cX5_lacks 84 = .ok (.imul, 1) := by decide +kernel
theorem dX5_lacks_85 : decode cX5_lacks 85 = .ok (.isub, 1) := by decide +kernel
theorem dX5_lacks_86 : decode cX5_lacks 86 = .ok (.goto 21, 3) := by decide +kernel
theorem dX5_lacks_89 : decode cX5_lacks 89 = .ok (.aload_n 0, 1) := by decide +kernel
theorem dX5_lacks_90 : decode cX5_lacks 90 = .ok (.getfield 16, 3) := by decide +kernel
theorem dX5_lacks_93 : decode cX5_lacks 93 = .ok (.iconst 1, 1) := by decide +kernel
theorem dX5_lacks_94 : decode cX5_lacks 94 = .ok (.iaload, 1) := by decide +kernel
theorem dX5_lacks_95 : decode cX5_lacks 95 = .ok (.iload_n 3, 1) := by decide +kernel
theorem dX5_lacks_96 : decode cX5_lacks 96 = .ok (.imul, 1) := by decide +kernel
theorem dX5_lacks_97 : decode cX5_lacks 97 = .ok (.aload_n 0, 1) := by decide +kernel
theorem dX5_lacks_98 : decode cX5_lacks 98 = .ok (.getfield 16, 3) := by decide +kernel
theorem dX5_lacks_101 : decode cX5_lacks 101 = .ok (.iconst 2, 1) := by decide +kernel
theorem dX5_lacks_102 : decode cX5_lacks 102 = .ok (.iaload, 1) := by decide +kernel
theorem dX5_lacks_103 : decode cX5_lacks 103 = .ok (.iload 4, 2) := by decide +kernel
theorem dX5_lacks_105 : decode cX5_lacks 105 = .ok (.imul, 1) := by decide +kernel
theorem dX5_lacks_106 : decode cX5_lacks 106 = .ok (.isub, 1) := by decide +kernel
theorem dX5_lacks_107 : decode cX5_lacks 107 = .ok (.istore 7, 2) := by decide +kernel
theorem dX5_lacks_109 : decode cX5_lacks 109 = .ok (.iload 7, 2) := by decide +kernel
theorem dX5_lacks_111 : decode cX5_lacks 111 = .ok (.ifCond .le 19, 3) := by decide +kernel
theorem dX5_lacks_114 : decode cX5_lacks 114 = .ok (.iload 7, 2) := by decide +kernel
theorem dX5_lacks_116 : decode cX5_lacks 116 = .ok (.iload 6, 2) := by decide +kernel
theorem dX5_lacks_118 : decode cX5_lacks 118 = .ok (.irem, 1) := by decide +kernel
theorem dX5_lacks_119 : decode cX5_lacks 119 = .ok (.ifCond .ne 11, 3) := by decide +kernel
theorem dX5_lacks_122 : decode cX5_lacks 122 = .ok (.iload 7, 2) := by decide +kernel
theorem dX5_lacks_124 : decode cX5_lacks 124 = .ok (.iload 6, 2) := by decide +kernel
theorem dX5_lacks_126 : decode cX5_lacks 126 = .ok (.idiv, 1) := by decide +kernel
theorem dX5_lacks_127 : decode cX5_lacks 127 = .ok (.goto 4, 3) := by decide +kernel
theorem dX5_lacks_130 : decode cX5_lacks 130 = .ok (.iconst 0, 1) := by decide +kernel
theorem dX5_lacks_131 : decode cX5_lacks 131 = .ok (.ireturn, 1) := by decide +kernel
theorem dX5_lacks_132 : decode cX5_lacks 132 = .ok (.iload_n 1, 1) := by decide +kernel
theorem dX5_lacks_133 : decode cX5_lacks 133 = .ok (.ifCond .ne 7, 3) := by decide +kernel
theorem dX5_lacks_136 : decode cX5_lacks 136 = .ok (.iload_n 3, 1) := by decide +kernel
theorem dX5_lacks_137 : decode cX5_lacks 137 = .ok (.goto 15, 3) := by decide +kernel
theorem dX5_lacks_140 : decode cX5_lacks 140 = .ok (.iload_n 1, 1) := by decide +kernel
theorem dX5_lacks_141 : decode cX5_lacks 141 = .ok (.iconst 1, 1) := by decide +kernel
theorem dX5_lacks_142 : decode cX5_lacks 142 = .ok (.if_icmp .ne 8, 3) := by decide +kernel
theorem dX5_lacks_145 : decode cX5_lacks 145 = .ok (.iload 4, 2) := by decide +kernel
theorem dX5_lacks_147 : decode cX5_lacks 147 = .ok (.goto 5, 3) := by decide +kernel
theorem dX5_lacks_150 : decode cX5_lacks 150 = .ok (.iload 5, 2) := by decide +kernel
theorem dX5_lacks_152 : decode cX5_lacks 152 = .ok (.istore 6, 2) := by decide +kernel
theorem dX5_lacks_154 : decode cX5_lacks 154 = .ok (.iload_n 1, 1) := by decide +kernel
theorem dX5_lacks_155 : decode cX5_lacks 155 = .ok (.ifCond .ne 8, 3) := by decide +kernel
theorem dX5_lacks_158 : decode cX5_lacks 158 = .ok (.iload 4, 2) := by decide +kernel
theorem dX5_lacks_160 : decode cX5_lacks 160 = .ok (.goto 4, 3) := by decide +kernel
theorem dX5_lacks_163 : decode cX5_lacks 163 = .ok (.iload_n 3, 1) := by decide +kernel
theorem dX5_lacks_164 : decode cX5_lacks 164 = .ok (.istore 7, 2) := by decide +kernel
theorem dX5_lacks_166 : decode cX5_lacks 166 = .ok (.iload_n 1, 1) := by decide +kernel
theorem dX5_lacks_167 : decode cX5_lacks 167 = .ok (.iconst 2, 1) := by decide +kernel
theorem dX5_lacks_168 : decode cX5_lacks 168 = .ok (.if_icmp .ne 8, 3) := by decide +kernel
theorem dX5_lacks_171 : decode cX5_lacks 171 = .ok (.iload 4, 2) := by decide +kernel
theorem dX5_lacks_173 : decode cX5_lacks 173 = .ok (.goto 5, 3) := by decide +kernel
theorem dX5_lacks_176 : decode cX5_lacks 176 = .ok (.iload 5, 2) := by decide +kernel
theorem dX5_lacks_178 : decode cX5_lacks 178 = .ok (.istore 8, 2) := by decide +kernel
theorem dX5_lacks_180 : decode cX5_lacks 180 = .ok (.iload 7, 2) := by decide +kernel
theorem dX5_lacks_182 : decode cX5_lacks 182 = .ok (.iload 8, 2) := by decide +kernel
theorem dX5_lacks_184 : decode cX5_lacks 184 = .ok (.if_icmp .ne 18, 3) := by decide +kernel
theorem dX5_lacks_187 : decode cX5_lacks 187 = .ok (.iload 7, 2) := by decide +kernel
theorem dX5_lacks_189 : decode cX5_lacks 189 = .ok (.iload 6, 2) := by decide +kernel
theorem dX5_lacks_191 : decode cX5_lacks 191 = .ok (.if_icmp .le 11, 3) := by decide +kernel
theorem dX5_lacks_194 : decode cX5_lacks 194 = .ok (.iload 7, 2) := by decide +kernel
theorem dX5_lacks_196 : decode cX5_lacks 196 = .ok (.iload 6, 2) := by decide +kernel
theorem dX5_lacks_198 : decode cX5_lacks 198 = .ok (.isub, 1) := by decide +kernel
theorem dX5_lacks_199 : decode cX5_lacks 199 = .ok (.goto 4, 3) := by decide +kernel
theorem dX5_lacks_202 : decode cX5_lacks 202 = .ok (.iconst 0, 1) := by decide +kernel
theorem dX5_lacks_203 : decode cX5_lacks 203 = .ok (.ireturn, 1) := by decide +kernel
theorem dX5_waiting_0 : decode cX5_waiting 0 = .ok (.iconst 1, 1) := by decide +kernel
theorem dX5_waiting_1 : decode cX5_waiting 1 = .ok (.aload_n 0, 1) := by decide +kernel
theorem dX5_waiting_2 : decode cX5_waiting 2 = .ok (.getfield 99, 3) := by decide +kernel
theorem dX5_waiting_5 : decode cX5_waiting 5 = .ok (.ishl, 1) := by decide +kernel
theorem dX5_waiting_6 : decode cX5_waiting 6 = .ok (.iconst 1, 1) := by decide +kernel
theorem dX5_waiting_7 : decode cX5_waiting 7 = .ok (.isub, 1) := by decide +kernel
theorem dX5_waiting_8 : decode cX5_waiting 8 = .ok (.aload_n 0, 1) := by decide +kernel
theorem dX5_waiting_9 : decode cX5_waiting 9 = .ok (.bipush 20, 2) := by decide +kernel
theorem dX5_waiting_11 : decode cX5_waiting 11 = .ok (.invokevirtual 125, 3) := by decide +kernel
theorem dX5_waiting_14 : decode cX5_waiting 14 = .ok (.iconst (-1), 1) := by decide +kernel
theorem dX5_waiting_15 : decode cX5_waiting 15 = .ok (.ixor, 1) := by decide +kernel
theorem dX5_waiting_16 : decode cX5_waiting 16 = .ok (.iand, 1) := by decide +kernel
theorem dX5_waiting_17 : decode cX5_waiting 17 = .ok (.ireturn, 1) := by decide +kernel
theorem dX5_best_0 : decode cX5_best 0 = .ok (.aload_n 0, 1) := by decide +kernel
theorem dX5_best_1 : decode cX5_best 1 = .ok (.aload_n 0, 1) := by decide +kernel
theorem dX5_best_2 : decode cX5_best 2 = .ok (.invokevirtual 183, 3) := by decide +kernel
theorem dX5_best_5 : decode cX5_best 5 = .ok (.invokevirtual 186, 3) := by decide +kernel
theorem dX5_best_8 : decode cX5_best 8 = .ok (.aload_n 0, 1) := by decide +kernel
theorem dX5_best_9 : decode cX5_best 9 = .ok (.getfield 157, 3) := by decide +kernel
theorem dX5_best_12 : decode cX5_best 12 = .ok (.ireturn, 1) := by decide +kernel
theorem dX5_bestAt_0 : decode cX5_bestAt 0 = .ok (.aload_n 0, 1) := by decide +kernel
theorem dX5_bestAt_1 : decode cX5_bestAt 1 = .ok (.iload_n 1, 1) := by decide +kernel
theorem dX5_bestAt_2 : decode cX5_bestAt 2 = .ok (.invokevirtual 110, 3) := by decide +kernel
theorem dX5_bestAt_5 : decode cX5_bestAt 5 = .ok (.ifCond .ne 5, 3) := by decide +kernel
theorem dX5_bestAt_8 : decode cX5_bestAt 8 = .ok (.iconst (-1), 1) := by decide +kernel
theorem dX5_bestAt_9 : decode cX5_bestAt 9 = .ok (.ireturn, 1) := by decide +kernel
theorem dX5_bestAt_10 : decode cX5_bestAt 10 = .ok (.aload_n 0, 1) := by decide +kernel
theorem dX5_bestAt_11 : decode cX5_bestAt 11 = .ok (.aload_n 0, 1) := by decide +kernel
theorem dX5_bestAt_12 : decode cX5_bestAt 12 = .ok (.invokevirtual 183, 3) := by decide +kernel
theorem dX5_bestAt_15 : decode cX5_bestAt 15 = .ok (.invokevirtual 186, 3) := by decide +kernel
theorem dX5_bestAt_18 : decode cX5_bestAt 18 = .ok (.aload_n 0, 1) := by decide +kernel
theorem dX5_bestAt_19 : decode cX5_bestAt 19 = .ok (.getfield 163, 3) := by decide +kernel
theorem dX5_bestAt_22 : decode cX5_bestAt 22 = .ok (.iconst 2, 1) := by decide +kernel
theorem dX5_bestAt_23 : decode cX5_bestAt 23 = .ok (.aload_n 0, 1) := by decide +kernel
theorem dX5_bestAt_24 : decode cX5_bestAt 24 = .ok (.getfield 99, 3) := by decide +kernel
theorem dX5_bestAt_27 : decode cX5_bestAt 27 = .ok (.iconst 1, 1) := by decide +kernel
theorem dX5_bestAt_28 : decode cX5_bestAt 28 = .ok (.isub, 1) := by decide +kernel
theorem dX5_bestAt_29 : decode cX5_bestAt 29 = .ok (.iload_n 1, 1) := by decide +kernel
theorem dX5_bestAt_30 : decode cX5_bestAt 30 = .ok (.isub, 1) := by decide +kernel
theorem dX5_bestAt_31 : decode cX5_bestAt 31 = .ok (.imul, 1) := by decide +kernel
theorem dX5_bestAt_32 : decode cX5_bestAt 32 = .ok (.ishr, 1) := by decide +kernel
theorem dX5_bestAt_33 : decode cX5_bestAt 33 = .ok (.iconst 3, 1) := by decide +kernel
theorem dX5_bestAt_34 : decode cX5_bestAt 34 = .ok (.iand, 1) := by decide +kernel
theorem dX5_bestAt_35 : decode cX5_bestAt 35 = .ok (.iconst 1, 1) := by decide +kernel
theorem dX5_bestAt_36 : decode cX5_bestAt 36 = .ok (.isub, 1) := by decide +kernel
theorem dX5_bestAt_37 : decode cX5_bestAt 37 = .ok (.istore_n 2, 1) := by decide +kernel
theorem dX5_bestAt_38 : decode cX5_bestAt 38 = .ok (.iload_n 2, 1) := by decide +kernel
theorem dX5_bestAt_39 : decode cX5_bestAt 39 = .ok (.ifCond .ge 8, 3) := by decide +kernel
theorem dX5_bestAt_42 : decode cX5_bestAt 42 = .ok (.bipush (-9), 2) := by decide +kernel
theorem dX5_bestAt_44 : decode cX5_bestAt 44 = .ok (.goto 4, 3) := by decide +kernel
theorem dX5_bestAt_47 : decode cX5_bestAt 47 = .ok (.iload_n 2, 1) := by decide +kernel
theorem dX5_bestAt_48 : decode cX5_bestAt 48 = .ok (.ireturn, 1) := by decide +kernel
theorem dX5_mostOf_0 : decode cX5_mostOf 0 = .ok (.aload_n 0, 1) := by decide +kernel
theorem dX5_mostOf_1 : decode cX5_mostOf 1 = .ok (.iload_n 1, 1) := by decide +kernel
theorem dX5_mostOf_2 : decode cX5_mostOf 2 = .ok (.invokevirtual 186, 3) := by decide +kernel
theorem dX5_mostOf_5 : decode cX5_mostOf 5 = .ok (.aload_n 0, 1) := by decide +kernel
theorem dX5_mostOf_6 : decode cX5_mostOf 6 = .ok (.getfield 157, 3) := by decide +kernel
theorem dX5_mostOf_9 : decode cX5_mostOf 9 = .ok (.ifCond .ge 7, 3) := by decide +kernel
theorem dX5_mostOf_12 : decode cX5_mostOf 12 = .ok (.iconst 0, 1) := by decide +kernel
theorem dX5_mostOf_13 : decode cX5_mostOf 13 = .ok (.goto 7, 3) := by decide +kernel
theorem dX5_mostOf_16 : decode cX5_mostOf 16 = .ok (.aload_n 0, 1) := by decide +kernel
theorem dX5_mostOf_17 : decode cX5_mostOf 17 = .ok (.getfield 157, 3) := by decide +kernel
theorem dX5_mostOf_20 : decode cX5_mostOf 20 = .ok (.ireturn, 1) := by decide +kernel
theorem dX5_worth_0 : decode cX5_worth 0 = .ok (.aload_n 0, 1) := by decide +kernel
theorem dX5_worth_1 : decode cX5_worth 1 = .ok (.iload_n 1, 1) := by decide +kernel
theorem dX5_worth_2 : decode cX5_worth 2 = .ok (.invokevirtual 110, 3) := by decide +kernel
theorem dX5_worth_5 : decode cX5_worth 5 = .ok (.ifCond .ne 5, 3) := by decide +kernel
theorem dX5_worth_8 : decode cX5_worth 8 = .ok (.iconst (-1), 1) := by decide +kernel
theorem dX5_worth_9 : decode cX5_worth 9 = .ok (.ireturn, 1) := by decide +kernel
theorem dX5_worth_10 : decode cX5_worth 10 = .ok (.aload_n 0, 1) := by decide +kernel
theorem dX5_worth_11 : decode cX5_worth 11 = .ok (.getfield 28, 3) := by decide +kernel
theorem dX5_worth_14 : decode cX5_worth 14 = .ok (.iload_n 1, 1) := by decide +kernel
theorem dX5_worth_15 : decode cX5_worth 15 = .ok (.iaload, 1) := by decide +kernel
theorem dX5_worth_16 : decode cX5_worth 16 = .ok (.bipush 20, 2) := by decide +kernel
theorem dX5_worth_18 : decode cX5_worth 18 = .ok (.if_icmp .ne 6, 3) := by decide +kernel
theorem dX5_worth_21 : decode cX5_worth 21 = .ok (.bipush (-3), 2) := by decide +kernel
theorem dX5_worth_23 : decode cX5_worth 23 = .ok (.ireturn, 1) := by decide +kernel
theorem dX5_worth_24 : decode cX5_worth 24 = .ok (.aload_n 0, 1) := by decide +kernel
theorem dX5_worth_25 : decode cX5_worth 25 = .ok (.aload_n 0, 1) := by decide +kernel
theorem dX5_worth_26 : decode cX5_worth 26 = .ok (.invokevirtual 183, 3) := by decide +kernel
theorem dX5_worth_29 : decode cX5_worth 29 = .ok (.invokevirtual 189, 3) := by decide +kernel
theorem dX5_worth_32 : decode cX5_worth 32 = .ok (.aload_n 0, 1) := by decide +kernel
theorem dX5_worth_33 : decode cX5_worth 33 = .ok (.aload_n 0, 1) := by decide +kernel
theorem dX5_worth_34 : decode cX5_worth 34 = .ok (.invokevirtual 183, 3) := by decide +kernel
theorem dX5_worth_37 : decode cX5_worth 37 = .ok (.iconst 1, 1) := by decide +kernel
theorem dX5_worth_38 : decode cX5_worth 38 = .ok (.iload_n 1, 1) := by decide +kernel
theorem dX5_worth_39 : decode cX5_worth 39 = .ok (.ishl, 1) := by decide +kernel
theorem dX5_worth_40 : decode cX5_worth 40 = .ok (.iconst (-1), 1) := by decide +kernel
theorem dX5_worth_41 : decode cX5_worth 41 = .ok (.ixor, 1) := by decide +kernel
theorem dX5_worth_42 : decode cX5_worth 42 = .ok (.iand, 1) := by decide +kernel
theorem dX5_worth_43 : decode cX5_worth 43 = .ok (.invokevirtual 189, 3) := by decide +kernel
theorem dX5_worth_46 : decode cX5_worth 46 = .ok (.isub, 1) := by decide +kernel
theorem dX5_worth_47 : decode cX5_worth 47 = .ok (.ireturn, 1) := by decide +kernel
theorem dX5_makes_0 : decode cX5_makes 0 = .ok (.iload_n 1, 1) := by decide +kernel
theorem dX5_makes_1 : decode cX5_makes 1 = .ok (.i2l, 1) := by decide +kernel
theorem dX5_makes_2 : decode cX5_makes 2 = .ok (.lconst 1, 1) := by decide +kernel
theorem dX5_makes_3 : decode cX5_makes 3 = .ok (.ldc2_w 181, 3) := by decide +kernel
theorem dX5_makes_6 : decode cX5_makes 6 = .ok (.invokestatic 70, 3) := by decide +kernel
theorem dX5_makes_9 : decode cX5_makes 9 = .ok (.ifCond .ne 6, 3) := by decide +kernel
theorem dX5_makes_12 : decode cX5_makes 12 = .ok (.bipush (-2), 2) := by decide +kernel
theorem dX5_makes_14 : decode cX5_makes 14 = .ok (.ireturn, 1) := by decide +kernel
theorem dX5_makes_15 : decode cX5_makes 15 = .ok (.aload_n 0, 1) := by decide +kernel
theorem dX5_makes_16 : decode cX5_makes 16 = .ok (.aload_n 0, 1) := by decide +kernel
theorem dX5_makes_17 : decode cX5_makes 17 = .ok (.invokevirtual 183, 3) := by decide +kernel
theorem dX5_makes_20 : decode cX5_makes 20 = .ok (.invokevirtual 189, 3) := by decide +kernel
theorem dX5_makes_23 : decode cX5_makes 23 = .ok (.istore_n 2, 1) := by decide +kernel
theorem dX5_makes_24 : decode cX5_makes 24 = .ok (.aload_n 0, 1) := by decide +kernel
theorem dX5_makes_25 : decode cX5_makes 25 = .ok (.getfield 44, 3) := by decide +kernel
theorem dX5_makes_28 : decode cX5_makes 28 = .ok (.iload_n 1, 1) := by decide +kernel
theorem dX5_makes_29 : decode cX5_makes 29 = .ok (.iaload, 1) := by decide +kernel
theorem dX5_makes_30 : decode cX5_makes 30 = .ok (.iload_n 2, 1) := by decide +kernel
theorem dX5_makes_31 : decode cX5_makes 31 = .ok (.if_icmp .le 14, 3) := by decide +kernel
theorem dX5_makes_34 : decode cX5_makes 34 = .ok (.aload_n 0, 1) := by decide +kernel
theorem dX5_makes_35 : decode cX5_makes 35 = .ok (.getfield 44, 3) := by decide +kernel
theorem dX5_makes_38 : decode cX5_makes 38 = .ok (.iload_n 1, 1) := by decide +kernel
theorem dX5_makes_39 : decode cX5_makes 39 = .ok (.iaload, 1) := by decide +kernel
theorem dX5_makes_40 : decode cX5_makes 40 = .ok (.iload_n 2, 1) := by decide +kernel
theorem dX5_makes_41 : decode cX5_makes 41 = .ok (.isub, 1) := by decide +kernel
theorem dX5_makes_42 : decode cX5_makes 42 = .ok (.goto 4, 3) := by decide +kernel
theorem dX5_makes_45 : decode cX5_makes 45 = .ok (.iconst 0, 1) := by decide +kernel
theorem dX5_makes_46 : decode cX5_makes 46 = .ok (.ireturn, 1) := by decide +kernel
theorem dX5_bestMakes_0 : decode cX5_bestMakes 0 = .ok (.aload_n 0, 1) := by decide +kernel
theorem dX5_bestMakes_1 : decode cX5_bestMakes 1 = .ok (.aload_n 0, 1) := by decide +kernel
theorem dX5_bestMakes_2 : decode cX5_bestMakes 2 = .ok (.invokevirtual 183, 3) := by decide +kernel
theorem dX5_bestMakes_5 : decode cX5_bestMakes 5 = .ok (.invokevirtual 189, 3) := by decide +kernel
theorem dX5_bestMakes_8 : decode cX5_bestMakes 8 = .ok (.istore_n 1, 1) := by decide +kernel
theorem dX5_bestMakes_9 : decode cX5_bestMakes 9 = .ok (.bipush (-9), 2) := by decide +kernel
theorem dX5_bestMakes_11 : decode cX5_bestMakes 11 = .ok (.istore_n 2, 1) := by decide +kernel
theorem dX5_bestMakes_12 : decode cX5_bestMakes 12 = .ok (.iconst 1, 1) := by decide +kernel
theorem dX5_bestMakes_13 : decode cX5_bestMakes 13 = .ok (.istore_n 3, 1) := by decide +kernel
theorem dX5_bestMakes_14 : decode cX5_bestMakes 14 = .ok (.iload_n 3, 1) := by decide +kernel
theorem dX5_bestMakes_15 : decode cX5_bestMakes 15 = .ok (.bipush 100, 2) := by decide +kernel
theorem dX5_bestMakes_17 : decode cX5_bestMakes 17 = .ok (.if_icmp .ge 46, 3) := by decide +kernel
theorem dX5_bestMakes_20 : decode cX5_bestMakes 20 = .ok (.aload_n 0, 1) := by decide +kernel
theorem dX5_bestMakes_21 : decode cX5_bestMakes 21 = .ok (.getfield 44, 3) := by decide +kernel
theorem dX5_bestMakes_24 : decode cX5_bestMakes 24 = .ok (.iload_n 3, 1) := by decide +kernel
theorem dX5_bestMakes_25 : decode cX5_bestMakes 25 = .ok (.iaload, 1) := by decide +kernel
theorem dX5_bestMakes_26 : decode cX5_bestMakes 26 = .ok (.iload_n 1, 1) := by decide +kernel
theorem dX5_bestMakes_27 : decode cX5_bestMakes 27 = .ok (.if_icmp .le 7, 3) := by decide +kernel
theorem dX5_bestMakes_30 : decode cX5_bestMakes 30 = .ok (.iload_n 3, 1) := by decide +kernel
theorem dX5_bestMakes_31 : decode cX5_bestMakes 31 = .ok (.goto 4, 3) := by decide +kernel
theorem dX5_bestMakes_34 : decode cX5_bestMakes 34 = .ok (.iload_n 2, 1) := by decide +kernel
theorem dX5_bestMakes_35 : decode cX5_bestMakes 35 = .ok (.istore_n 2, 1) := by decide +kernel
theorem dX5_bestMakes_36 : decode cX5_bestMakes 36 = .ok (.aload_n 0, 1) := by decide +kernel
theorem dX5_bestMakes_37 : decode cX5_bestMakes 37 = .ok (.getfield 44, 3) := by decide +kernel
theorem dX5_bestMakes_40 : decode cX5_bestMakes 40 = .ok (.iload_n 3, 1) := by decide +kernel
theorem dX5_bestMakes_41 : decode cX5_bestMakes 41 = .ok (.iaload, 1) := by decide +kernel
theorem dX5_bestMakes_42 : decode cX5_bestMakes 42 = .ok (.iload_n 1, 1) := by decide +kernel
theorem dX5_bestMakes_43 : decode cX5_bestMakes 43 = .ok (.if_icmp .le 12, 3) := by decide +kernel
theorem dX5_bestMakes_46 : decode cX5_bestMakes 46 = .ok (.aload_n 0, 1) := by decide +kernel
theorem dX5_bestMakes_47 : decode cX5_bestMakes 47 = .ok (.getfield 44, 3) := by decide +kernel
theorem dX5_bestMakes_50 : decode cX5_bestMakes 50 = .ok (.iload_n 3, 1) := by decide +kernel
theorem dX5_bestMakes_51 : decode cX5_bestMakes 51 = .ok (.iaload, 1) := by decide +kernel
theorem dX5_bestMakes_52 : decode cX5_bestMakes 52 = .ok (.goto 4, 3) := by decide +kernel
theorem dX5_bestMakes_55 : decode cX5_bestMakes 55 = .ok (.iload_n 1, 1) := by decide +kernel
theorem dX5_bestMakes_56 : decode cX5_bestMakes 56 = .ok (.istore_n 1, 1) := by decide +kernel
theorem dX5_bestMakes_57 : decode cX5_bestMakes 57 = .ok (.iinc 3 1, 3) := by decide +kernel
theorem dX5_bestMakes_60 : decode cX5_bestMakes 60 = .ok (.goto (-46), 3) := by decide +kernel
theorem dX5_bestMakes_63 : decode cX5_bestMakes 63 = .ok (.iload_n 2, 1) := by decide +kernel
theorem dX5_bestMakes_64 : decode cX5_bestMakes 64 = .ok (.ireturn, 1) := by decide +kernel
theorem dX5_sets_0 : decode cX5_sets 0 = .ok (.aload_n 0, 1) := by decide +kernel
theorem dX5_sets_1 : decode cX5_sets 1 = .ok (.aload_n 0, 1) := by decide +kernel
theorem dX5_sets_2 : decode cX5_sets 2 = .ok (.invokevirtual 183, 3) := by decide +kernel
theorem dX5_sets_5 : decode cX5_sets 5 = .ok (.invokevirtual 186, 3) := by decide +kernel
theorem dX5_sets_8 : decode cX5_sets 8 = .ok (.iconst 0, 1) := by decide +kernel
theorem dX5_sets_9 : decode cX5_sets 9 = .ok (.istore_n 1, 1) := by decide +kernel
theorem dX5_sets_10 : decode cX5_sets 10 = .ok (.iconst 0, 1) := by decide +kernel
theorem dX5_sets_11 : decode cX5_sets 11 = .ok (.istore_n 2, 1) := by decide +kernel
theorem dX5_sets_12 : decode cX5_sets 12 = .ok (.iload_n 2, 1) := by decide +kernel
theorem dX5_sets_13 : decode cX5_sets 13 = .ok (.sipush 256, 3) := by decide +kernel
theorem dX5_sets_16 : decode cX5_sets 16 = .ok (.if_icmp .ge 26, 3) := by decide +kernel
theorem dX5_sets_19 : decode cX5_sets 19 = .ok (.iload_n 1, 1) := by decide +kernel
theorem dX5_sets_20 : decode cX5_sets 20 = .ok (.aload_n 0, 1) := by decide +kernel
theorem dX5_sets_21 : decode cX5_sets 21 = .ok (.getfield 40, 3) := by decide +kernel
theorem dX5_sets_24 : decode cX5_sets 24 = .ok (.iload_n 2, 1) := by decide +kernel
theorem dX5_sets_25 : decode cX5_sets 25 = .ok (.baload, 1) := by decide +kernel
theorem dX5_sets_26 : decode cX5_sets 26 = .ok (.ifCond .eq 7, 3) := by decide +kernel
theorem dX5_sets_29 : decode cX5_sets 29 = .ok (.iconst 1, 1) := by decide +kernel
theorem dX5_sets_30 : decode cX5_sets 30 = .ok (.goto 4, 3) := by decide +kernel
theorem dX5_sets_33 : decode cX5_sets 33 = .ok (.iconst 0, 1) := by decide +kernel
theorem dX5_sets_34 : decode cX5_sets 34 = .ok (.iadd, 1) := by decide +kernel
theorem dX5_sets_35 : decode cX5_sets 35 = .ok (.istore_n 1, 1) := by decide +kernel
theorem dX5_sets_36 : decode cX5_sets 36 = .ok (.iinc 2 1, 3) := by decide +kernel
theorem dX5_sets_39 : decode cX5_sets 39 = .ok (.goto (-27), 3) := by decide +kernel
theorem dX5_sets_42 : decode cX5_sets 42 = .ok (.iload_n 1, 1) := by decide +kernel
theorem dX5_sets_43 : decode cX5_sets 43 = .ok (.ireturn, 1) := by decide +kernel
theorem dX5_layFewest_0 : decode cX5_layFewest 0 = .ok (.aload_n 0, 1) := by decide +kernel
theorem dX5_layFewest_1 : decode cX5_layFewest 1 = .ok (.aload_n 0, 1) := by decide +kernel
theorem dX5_layFewest_2 : decode cX5_layFewest 2 = .ok (.invokevirtual 183, 3) := by decide +kernel
theorem dX5_layFewest_5 : decode cX5_layFewest 5 = .ok (.invokevirtual 186, 3) := by decide +kernel
theorem dX5_layFewest_8 : decode cX5_layFewest 8 = .ok (.iconst 0, 1) := by decide +kernel
theorem dX5_layFewest_9 : decode cX5_layFewest 9 = .ok (.istore_n 1, 1) := by decide +kernel
theorem dX5_layFewest_10 : decode cX5_layFewest 10 = .ok (.iload_n 1, 1) := by decide +kernel
theorem dX5_layFewest_11 : decode cX5_layFewest 11 = .ok (.sipush 256, 3) := by decide +kernel
theorem dX5_layFewest_14 : decode cX5_layFewest 14 = .ok (.if_icmp .ge 93, 3) := by decide +kernel
theorem dX5_layFewest_17 : decode cX5_layFewest 17 = .ok (.aload_n 0, 1) := by decide +kernel
theorem dX5_layFewest_18 : decode cX5_layFewest 18 = .ok (.getfield 47, 3) := by decide +kernel
theorem dX5_layFewest_21 : decode cX5_layFewest 21 = .ok (.iload_n 1, 1) := by decide +kernel
theorem dX5_layFewest_22 : decode cX5_layFewest 22 = .ok (.iload_n 1, 1) := by decide +kernel
theorem dX5_layFewest_23 : decode cX5_layFewest 23 = .ok (.ifCond .ne 7, 3) := by decide +kernel
theorem dX5_layFewest_26 : decode cX5_layFewest 26 = .ok (.iconst 0, 1) := by decide +kernel
theorem dX5_layFewest_27 : decode cX5_layFewest 27 = .ok (.goto 5, 3) := by decide +kernel
theorem dX5_layFewest_30 : decode cX5_layFewest 30 = .ok (.bipush 99, 2) := by decide +kernel
theorem dX5_layFewest_32 : decode cX5_layFewest 32 = .ok (.iastore, 1) := by decide +kernel
theorem dX5_layFewest_33 : decode cX5_layFewest 33 = .ok (.iload_n 1, 1) := by decide +kernel
theorem dX5_layFewest_34 : decode cX5_layFewest 34 = .ok (.istore_n 2, 1) := by decide +kernel
theorem dX5_layFewest_35 : decode cX5_layFewest 35 = .ok (.iload_n 2, 1) := by decide +kernel
theorem dX5_layFewest_36 : decode cX5_layFewest 36 = .ok (.ifCond .le 65, 3) := by decide +kernel
theorem dX5_layFewest_39 : decode cX5_layFewest 39 = .ok (.aload_n 0, 1) := by decide +kernel
theorem dX5_layFewest_40 : decode cX5_layFewest 40 = .ok (.getfield 40, 3) := by decide +kernel
theorem dX5_layFewest_43 : decode cX5_layFewest 43 = .ok (.iload_n 2, 1) := by decide +kernel
theorem dX5_layFewest_44 : decode cX5_layFewest 44 = .ok (.baload, 1) := by decide +kernel
theorem dX5_layFewest_45 : decode cX5_layFewest 45 = .ok (.ifCond .eq 18, 3) := by decide +kernel
theorem dX5_layFewest_48 : decode cX5_layFewest 48 = .ok (.aload_n 0, 1) := by decide +kernel
theorem dX5_layFewest_49 : decode cX5_layFewest 49 = .ok (.getfield 47, 3) := by decide +kernel
theorem dX5_layFewest_52 : decode cX5_layFewest 52 = .ok (.iload_n 1, 1) := by decide +kernel
theorem dX5_layFewest_53 : decode cX5_layFewest 53 = .ok (.iload_n 2, 1) := by decide +kernel
theorem dX5_layFewest_54 : decode cX5_layFewest 54 = .ok (.iconst (-1), 1) := by decide +kernel
theorem dX5_layFewest_55 : decode cX5_layFewest 55 = .ok (.ixor, 1) := by decide +kernel
theorem dX5_layFewest_56 : decode cX5_layFewest 56 = .ok (.iand, 1) := by decide +kernel
theorem dX5_layFewest_57 : decode cX5_layFewest 57 = .ok (.iaload, 1) := by decide +kernel
theorem dX5_layFewest_58 : decode cX5_layFewest 58 = .ok (.iconst 1, 1) := by decide +kernel
theorem dX5_layFewest_59 : decode cX5_layFewest 59 = .ok (.iadd, 1) := by decide +kernel
theorem dX5_layFewest_60 : decode cX5_layFewest 60 = .ok (.goto 5, 3) := by decide +kernel
theorem dX5_layFewest_63 : decode cX5_layFewest 63 = .ok (.bipush 99, 2) := by decide +kernel
theorem dX5_layFewest_65 : decode cX5_layFewest 65 = .ok (.istore_n 3, 1) := by decide +kernel
theorem dX5_layFewest_66 : decode cX5_layFewest 66 = .ok (.aload_n 0, 1) := by decide +kernel
theorem dX5_layFewest_67 : decode cX5_layFewest 67 = .ok (.getfield 47, 3) := by decide +kernel
theorem dX5_layFewest_70 : decode cX5_layFewest 70 = .ok (.iload_n 1, 1) := by decide +kernel
theorem dX5_layFewest_71 : decode cX5_layFewest 71 = .ok (.iload_n 3, 1) := by decide +kernel
theorem dX5_layFewest_72 : decode cX5_layFewest 72 = .ok (.aload_n 0, 1) := by decide +kernel
theorem dX5_layFewest_73 : decode cX5_layFewest 73 = .ok (.getfield 47, 3) := by decide +kernel
theorem dX5_layFewest_76 : decode cX5_layFewest 76 = .ok (.iload_n 1, 1) := by decide +kernel
theorem dX5_layFewest_77 : decode cX5_layFewest 77 = .ok (.iaload, 1) := by decide +kernel
theorem dX5_layFewest_78 : decode cX5_layFewest 78 = .ok (.if_icmp .ge 7, 3) := by decide +kernel
theorem dX5_layFewest_81 : decode cX5_layFewest 81 = .ok (.iload_n 3, 1) := by decide +kernel
theorem dX5_layFewest_82 : decode cX5_layFewest 82 = .ok (.goto 9, 3) := by decide +kernel
theorem dX5_layFewest_85 : decode cX5_layFewest 85 = .ok (.aload_n 0, 1) := by decide +kernel
theorem dX5_layFewest_86 : decode cX5_layFewest 86 = .ok (.getfield 47, 3) := by decide +kernel
theorem dX5_layFewest_89 : decode cX5_layFewest 89 = .ok (.iload_n 1, 1) := by decide +kernel
theorem dX5_layFewest_90 : decode cX5_layFewest 90 = .ok (.iaload, 1) := by decide +kernel
theorem dX5_layFewest_91 : decode cX5_layFewest 91 = .ok (.iastore, 1) := by decide +kernel
theorem dX5_layFewest_92 : decode cX5_layFewest 92 = .ok (.iload_n 2, 1) := by decide +kernel
theorem dX5_layFewest_93 : decode cX5_layFewest 93 = .ok (.iconst 1, 1) := by decide +kernel
theorem dX5_layFewest_94 : decode cX5_layFewest 94 = .ok (.isub, 1) := by decide +kernel
theorem dX5_layFewest_95 : decode cX5_layFewest 95 = .ok (.iload_n 1, 1) := by decide +kernel
theorem dX5_layFewest_96 : decode cX5_layFewest 96 = .ok (.iand, 1) := by decide +kernel
theorem dX5_layFewest_97 : decode cX5_layFewest 97 = .ok (.istore_n 2, 1) := by decide +kernel
theorem dX5_layFewest_98 : decode cX5_layFewest 98 = .ok (.goto (-63), 3) := by decide +kernel
theorem dX5_layFewest_101 : decode cX5_layFewest 101 = .ok (.iinc 1 1, 3) := by decide +kernel
theorem dX5_layFewest_104 : decode cX5_layFewest 104 = .ok (.goto (-94), 3) := by decide +kernel
theorem dX5_layFewest_107 : decode cX5_layFewest 107 = .ok (.return_, 1) := by decide +kernel
theorem dX5_crossings_0 : decode cX5_crossings 0 = .ok (.iload_n 1, 1) := by decide +kernel
theorem dX5_crossings_1 : decode cX5_crossings 1 = .ok (.i2l, 1) := by decide +kernel
theorem dX5_crossings_2 : decode cX5_crossings 2 = .ok (.lconst 1, 1) := by decide +kernel
theorem dX5_crossings_3 : decode cX5_crossings 3 = .ok (.ldc2_w 108, 3) := by decide +kernel
theorem dX5_crossings_6 : decode cX5_crossings 6 = .ok (.invokestatic 70, 3) := by decide +kernel
theorem dX5_crossings_9 : decode cX5_crossings 9 = .ok (.ifCond .ne 6, 3) := by decide +kernel
theorem dX5_crossings_12 : decode cX5_crossings 12 = .ok (.bipush (-2), 2) := by decide +kernel
theorem dX5_crossings_14 : decode cX5_crossings 14 = .ok (.ireturn, 1) := by decide +kernel
theorem dX5_crossings_15 : decode cX5_crossings 15 = .ok (.aload_n 0, 1) := by decide +kernel
theorem dX5_crossings_16 : decode cX5_crossings 16 = .ok (.invokevirtual 192, 3) := by decide +kernel
theorem dX5_crossings_19 : decode cX5_crossings 19 = .ok (.iconst 0, 1) := by decide +kernel
theorem dX5_crossings_20 : decode cX5_crossings 20 = .ok (.istore_n 2, 1) := by decide +kernel
theorem dX5_crossings_21 : decode cX5_crossings 21 = .ok (.iconst 0, 1) := by decide +kernel
theorem dX5_crossings_22 : decode cX5_crossings 22 = .ok (.istore_n 3, 1) := by decide +kernel
theorem dX5_crossings_23 : decode cX5_crossings 23 = .ok (.iload_n 3, 1) := by decide +kernel
theorem dX5_crossings_24 : decode cX5_crossings 24 = .ok (.sipush 256, 3) := by decide +kernel
theorem dX5_crossings_27 : decode cX5_crossings 27 = .ok (.if_icmp .ge 38, 3) := by decide +kernel
theorem dX5_crossings_30 : decode cX5_crossings 30 = .ok (.aload_n 0, 1) := by decide +kernel
theorem dX5_crossings_31 : decode cX5_crossings 31 = .ok (.getfield 47, 3) := by decide +kernel
theorem dX5_crossings_34 : decode cX5_crossings 34 = .ok (.iload_n 3, 1) := by decide +kernel
theorem dX5_crossings_35 : decode cX5_crossings 35 = .ok (.iaload, 1) := by decide +kernel
theorem dX5_crossings_36 : decode cX5_crossings 36 = .ok (.iload_n 1, 1) := by decide +kernel
theorem dX5_crossings_37 : decode cX5_crossings 37 = .ok (.if_icmp .gt 20, 3) := by decide +kernel
theorem dX5_crossings_40 : decode cX5_crossings 40 = .ok (.aload_n 0, 1) := by decide +kernel
theorem dX5_crossings_41 : decode cX5_crossings 41 = .ok (.iload_n 3, 1) := by decide +kernel
theorem dX5_crossings_42 : decode cX5_crossings 42 = .ok (.invokevirtual 154, 3) := by decide +kernel
theorem dX5_crossings_45 : decode cX5_crossings 45 = .ok (.iload_n 2, 1) := by decide +kernel
theorem dX5_crossings_46 : decode cX5_crossings 46 = .ok (.if_icmp .le 11, 3) := by decide +kernel
theorem dX5_crossings_49 : decode cX5_crossings 49 = .ok (.aload_n 0, 1) := by decide +kernel
theorem dX5_crossings_50 : decode cX5_crossings 50 = .ok (.iload_n 3, 1) := by decide +kernel
theorem dX5_crossings_51 : decode cX5_crossings 51 = .ok (.invokevirtual 154, 3) := by decide +kernel
theorem dX5_crossings_54 : decode cX5_crossings 54 = .ok (.goto 4, 3) := by decide +kernel
theorem dX5_crossings_57 : decode cX5_crossings 57 = .ok (.iload_n 2, 1) := by decide +kernel
theorem dX5_crossings_58 : decode cX5_crossings 58 = .ok (.istore_n 2, 1) := by decide +kernel
theorem dX5_crossings_59 : decode cX5_crossings 59 = .ok (.iinc 3 1, 3) := by decide +kernel
theorem dX5_crossings_62 : decode cX5_crossings 62 = .ok (.goto (-39), 3) := by decide +kernel
theorem dX5_crossings_65 : decode cX5_crossings 65 = .ok (.iload_n 2, 1) := by decide +kernel
theorem dX5_crossings_66 : decode cX5_crossings 66 = .ok (.ireturn, 1) := by decide +kernel
theorem dX5_all_0 : decode cX5_all 0 = .ok (.aload_n 0, 1) := by decide +kernel
theorem dX5_all_1 : decode cX5_all 1 = .ok (.invokevirtual 192, 3) := by decide +kernel
theorem dX5_all_4 : decode cX5_all 4 = .ok (.aload_n 0, 1) := by decide +kernel
theorem dX5_all_5 : decode cX5_all 5 = .ok (.getfield 47, 3) := by decide +kernel
theorem dX5_all_8 : decode cX5_all 8 = .ok (.aload_n 0, 1) := by decide +kernel
theorem dX5_all_9 : decode cX5_all 9 = .ok (.invokevirtual 183, 3) := by decide +kernel
theorem dX5_all_12 : decode cX5_all 12 = .ok (.iaload, 1) := by decide +kernel
theorem dX5_all_13 : decode cX5_all 13 = .ok (.bipush 99, 2) := by decide +kernel
theorem dX5_all_15 : decode cX5_all 15 = .ok (.if_icmp .ge 15, 3) := by decide +kernel
theorem dX5_all_18 : decode cX5_all 18 = .ok (.aload_n 0, 1) := by decide +kernel
theorem dX5_all_19 : decode cX5_all 19 = .ok (.getfield 47, 3) := by decide +kernel
theorem dX5_all_22 : decode cX5_all 22 = .ok (.aload_n 0, 1) := by decide +kernel
theorem dX5_all_23 : decode cX5_all 23 = .ok (.invokevirtual 183, 3) := by decide +kernel
theorem dX5_all_26 : decode cX5_all 26 = .ok (.iaload, 1) := by decide +kernel
theorem dX5_all_27 : decode cX5_all 27 = .ok (.goto 5, 3) := by decide +kernel
theorem dX5_all_30 : decode cX5_all 30 = .ok (.bipush (-9), 2) := by decide +kernel
theorem dX5_all_32 : decode cX5_all 32 = .ok (.ireturn, 1) := by decide +kernel
theorem dX5_layRule_0 : decode cX5_layRule 0 = .ok (.aload_n 0, 1) := by decide +kernel
theorem dX5_layRule_1 : decode cX5_layRule 1 = .ok (.getfield 37, 3) := by decide +kernel
theorem dX5_layRule_4 : decode cX5_layRule 4 = .ok (.iconst 0, 1) := by decide +kernel
theorem dX5_layRule_5 : decode cX5_layRule 5 = .ok (.iconst 0, 1) := by decide +kernel
theorem dX5_layRule_6 : decode cX5_layRule 6 = .ok (.iastore, 1) := by decide +kernel
theorem dX5_layRule_7 : decode cX5_layRule 7 = .ok (.aload_n 0, 1) := by decide +kernel
theorem dX5_layRule_8 : decode cX5_layRule 8 = .ok (.getfield 37, 3) := by decide +kernel
theorem dX5_layRule_11 : decode cX5_layRule 11 = .ok (.iconst 1, 1) := by decide +kernel
theorem dX5_layRule_12 : decode cX5_layRule 12 = .ok (.iconst 0, 1) := by decide +kernel
theorem dX5_layRule_13 : decode cX5_layRule 13 = .ok (.iastore, 1) := by decide +kernel
theorem dX5_layRule_14 : decode cX5_layRule 14 = .ok (.aload_n 0, 1) := by decide +kernel
theorem dX5_layRule_15 : decode cX5_layRule 15 = .ok (.getfield 37, 3) := by decide +kernel
theorem dX5_layRule_18 : decode cX5_layRule 18 = .ok (.iconst 2, 1) := by decide +kernel
theorem dX5_layRule_19 : decode cX5_layRule 19 = .ok (.iconst 0, 1) := by decide +kernel
theorem dX5_layRule_20 : decode cX5_layRule 20 = .ok (.iastore, 1) := by decide +kernel
theorem dX5_layRule_21 : decode cX5_layRule 21 = .ok (.iconst 0, 1) := by decide +kernel
theorem dX5_layRule_22 : decode cX5_layRule 22 = .ok (.istore_n 1, 1) := by decide +kernel
theorem dX5_layRule_23 : decode cX5_layRule 23 = .ok (.iload_n 1, 1) := by decide +kernel
theorem dX5_layRule_24 : decode cX5_layRule 24 = .ok (.aload_n 0, 1) := by decide +kernel
theorem dX5_layRule_25 : decode cX5_layRule 25 = .ok (.getfield 99, 3) := by decide +kernel
theorem dX5_layRule_28 : decode cX5_layRule 28 = .ok (.if_icmp .ge 176, 3) := by decide +kernel
theorem dX5_layRule_31 : decode cX5_layRule 31 = .ok (.bipush (-9), 2) := by decide +kernel
theorem dX5_layRule_33 : decode cX5_layRule 33 = .ok (.istore_n 2, 1) := by decide +kernel
theorem dX5_layRule_34 : decode cX5_layRule 34 = .ok (.iconst 0, 1) := by decide +kernel
theorem dX5_layRule_35 : decode cX5_layRule 35 = .ok (.istore_n 3, 1) := by decide +kernel
theorem dX5_layRule_36 : decode cX5_layRule 36 = .ok (.iconst 0, 1) := by decide +kernel
theorem dX5_layRule_37 : decode cX5_layRule 37 = .ok (.istore 4, 2) := by decide +kernel
theorem dX5_layRule_39 : decode cX5_layRule 39 = .ok (.iload 4, 2) := by decide +kernel
theorem dX5_layRule_41 : decode cX5_layRule 41 = .ok (.aload_n 0, 1) := by decide +kernel
theorem dX5_layRule_42 : decode cX5_layRule 42 = .ok (.getfield 16, 3) := by decide +kernel
theorem dX5_layRule_45 : decode cX5_layRule 45 = .ok (.iconst 0, 1) := by decide +kernel
theorem dX5_layRule_46 : decode cX5_layRule 46 = .ok (.iaload, 1) := by decide +kernel
theorem dX5_layRule_47 : decode cX5_layRule 47 = .ok (.if_icmp .ge 133, 3) := by decide +kernel
theorem dX5_layRule_50 : decode cX5_layRule 50 = .ok (.aload_n 0, 1) := by decide +kernel
theorem dX5_layRule_51 : decode cX5_layRule 51 = .ok (.getfield 28, 3) := by decide +kernel
theorem dX5_layRule_54 : decode cX5_layRule 54 = .ok (.iload_n 1, 1) := by decide +kernel
theorem dX5_layRule_55 : decode cX5_layRule 55 = .ok (.iaload, 1) := by decide +kernel
theorem dX5_layRule_56 : decode cX5_layRule 56 = .ok (.bipush 20, 2) := by decide +kernel
theorem dX5_layRule_58 : decode cX5_layRule 58 = .ok (.if_icmp .eq 122, 3) := by decide +kernel
theorem dX5_layRule_61 : decode cX5_layRule 61 = .ok (.aload_n 0, 1) := by decide +kernel
theorem dX5_layRule_62 : decode cX5_layRule 62 = .ok (.aload_n 0, 1) := by decide +kernel
theorem dX5_layRule_63 : decode cX5_layRule 63 = .ok (.getfield 37, 3) := by decide +kernel
theorem dX5_layRule_66 : decode cX5_layRule 66 = .ok (.iload 4, 2) := by decide +kernel
theorem dX5_layRule_68 : decode cX5_layRule 68 = .ok (.iaload, 1) := by decide +kernel
theorem dX5_layRule_69 : decode cX5_layRule 69 = .ok (.iload 4, 2) := by decide +kernel
theorem dX5_layRule_71 : decode cX5_layRule 71 = .ok (.iconst 0, 1) := by decide +kernel
theorem dX5_layRule_72 : decode cX5_layRule 72 = .ok (.iconst 0, 1) := by decide +kernel
theorem dX5_layRule_73 : decode cX5_layRule 73 = .ok (.invokevirtual 138, 3) := by decide +kernel
theorem dX5_layRule_76 : decode cX5_layRule 76 = .ok (.aload_n 0, 1) := by decide +kernel
theorem dX5_layRule_77 : decode cX5_layRule 77 = .ok (.getfield 16, 3) := by decide +kernel
theorem dX5_layRule_80 : decode cX5_layRule 80 = .ok (.iconst 0, 1) := by decide +kernel
theorem dX5_layRule_81 : decode cX5_layRule 81 = .ok (.iaload, 1) := by decide +kernel
theorem dX5_layRule_82 : decode cX5_layRule 82 = .ok (.iconst 3, 1) := by decide +kernel
theorem dX5_layRule_83 : decode cX5_layRule 83 = .ok (.if_icmp .ne 7, 3) := by decide +kernel
theorem dX5_layRule_86 : decode cX5_layRule 86 = .ok (.iconst 1, 1) := by decide +kernel
theorem dX5_layRule_87 : decode cX5_layRule 87 = .ok (.goto 12, 3) := by decide +kernel
theorem dX5_layRule_90 : decode cX5_layRule 90 = .ok (.aload_n 0, 1) := by decide +kernel
theorem dX5_layRule_91 : decode cX5_layRule 91 = .ok (.getfield 16, 3) := by decide +kernel
theorem dX5_layRule_94 : decode cX5_layRule 94 = .ok (.iconst 1, 1) := by decide +kernel
theorem dX5_layRule_95 : decode cX5_layRule 95 = .ok (.iload 4, 2) := by decide +kernel
theorem dX5_layRule_97 : decode cX5_layRule 97 = .ok (.iadd, 1) := by decide +kernel
theorem dX5_layRule_98 : decode cX5_layRule 98 = .ok (.iaload, 1) := by decide +kernel
theorem dX5_layRule_99 : decode cX5_layRule 99 = .ok (.imul, 1) := by decide +kernel
theorem dX5_layRule_100 : decode cX5_layRule 100 = .ok (.istore 5, 2) := by decide +kernel
theorem dX5_layRule_102 : decode cX5_layRule 102 = .ok (.aload_n 0, 1) := by decide +kernel
theorem dX5_layRule_103 : decode cX5_layRule 103 = .ok (.iload_n 1, 1) := by decide +kernel
theorem dX5_layRule_104 : decode cX5_layRule 104 = .ok (.iload 4, 2) := by decide +kernel
theorem dX5_layRule_106 : decode cX5_layRule 106 = .ok (.invokevirtual 121, 3) := by decide +kernel
theorem dX5_layRule_109 : decode cX5_layRule 109 = .ok (.ifCond .eq 38, 3) := by decide +kernel
theorem dX5_layRule_112 : decode cX5_layRule 112 = .ok (.aload_n 0, 1) := by decide +kernel
theorem dX5_layRule_113 : decode cX5_layRule 113 = .ok (.getfield 37, 3) := by decide +kernel
theorem dX5_layRule_116 : decode cX5_layRule 116 = .ok (.iload 4, 2) := by decide +kernel
theorem dX5_layRule_118 : decode cX5_layRule 118 = .ok (.iaload, 1) := by decide +kernel
theorem dX5_layRule_119 : decode cX5_layRule 119 = .ok (.invokestatic 128, 3) := by decide +kernel
theorem dX5_layRule_122 : decode cX5_layRule 122 = .ok (.aload_n 0, 1) := by decide +kernel
theorem dX5_layRule_123 : decode cX5_layRule 123 = .ok (.getfield 16, 3) := by decide +kernel
theorem dX5_layRule_126 : decode cX5_layRule 126 = .ok (.iconst 3, 1) := by decide +kernel
theorem dX5_layRule_127 : decode cX5_layRule 127 = .ok (.iaload, 1) := by decide +kernel
theorem dX5_layRule_128 : decode cX5_layRule 128 = .ok (.if_icmp .ge 19, 3) := by decide +kernel
theorem dX5_layRule_131 : decode cX5_layRule 131 = .ok (.iload_n 2, 1) := by decide +kernel
theorem dX5_layRule_132 : decode cX5_layRule 132 = .ok (.bipush (-9), 2) := by decide +kernel
theorem dX5_layRule_134 : decode cX5_layRule 134 = .ok (.if_icmp .eq 9, 3) := by decide +kernel
theorem dX5_layRule_137 : decode cX5_layRule 137 = .ok (.iload 5, 2) := by decide +kernel
theorem dX5_layRule_139 : decode cX5_layRule 139 = .ok (.iload_n 3, 1) := by decide +kernel
theorem dX5_layRule_140 : decode cX5_layRule 140 = .ok (.if_icmp .ge 7, 3) := by decide +kernel
theorem dX5_layRule_143 : decode cX5_layRule 143 = .ok (.iconst 1, 1) := by decide +kernel
theorem dX5_layRule_144 : decode cX5_layRule 144 = .ok (.goto 4, 3) := by decide +kernel
theorem dX5_layRule_147 : decode cX5_layRule 147 = .ok (.iconst 0, 1) := by decide +kernel
theorem dX5_layRule_148 : decode cX5_layRule 148 = .ok (.istore 6, 2) := by decide +kernel
theorem dX5_layRule_150 : decode cX5_layRule 150 = .ok (.iload 6, 2) := by decide +kernel
theorem dX5_layRule_152 : decode cX5_layRule 152 = .ok (.ifCond .eq 8, 3) := by decide +kernel
theorem dX5_layRule_155 : decode cX5_layRule 155 = .ok (.iload 4, 2) := by decide +kernel
theorem dX5_layRule_157 : decode cX5_layRule 157 = .ok (.goto 4, 3) := by decide +kernel
theorem dX5_layRule_160 : decode cX5_layRule 160 = .ok (.iload_n 2, 1) := by decide +kernel
theorem dX5_layRule_161 : decode cX5_layRule 161 = .ok (.istore_n 2, 1) := by decide +kernel
theorem dX5_layRule_162 : decode cX5_layRule 162 = .ok (.iload 6, 2) := by decide +kernel
theorem dX5_layRule_164 : decode cX5_layRule 164 = .ok (.ifCond .eq 8, 3) := by decide +kernel
theorem dX5_layRule_167 : decode cX5_layRule 167 = .ok (.iload 5, 2) := by decide +kernel
theorem dX5_layRule_169 : decode cX5_layRule 169 = .ok (.goto 4, 3) := by decide +kernel
theorem dX5_layRule_172 : decode cX5_layRule 172 = .ok (.iload_n 3, 1) := by decide +kernel
theorem dX5_layRule_173 : decode cX5_layRule 173 = .ok (.istore_n 3, 1) := by decide +kernel
theorem dX5_layRule_174 : decode cX5_layRule 174 = .ok (.iinc 4 1, 3) := by decide +kernel
theorem dX5_layRule_177 : decode cX5_layRule 177 = .ok (.goto (-138), 3) := by decide +kernel
theorem dX5_layRule_180 : decode cX5_layRule 180 = .ok (.iload_n 2, 1) := by decide +kernel
theorem dX5_layRule_181 : decode cX5_layRule 181 = .ok (.bipush (-9), 2) := by decide +kernel
theorem dX5_layRule_183 : decode cX5_layRule 183 = .ok (.if_icmp .eq 15, 3) := by decide +kernel
theorem dX5_layRule_186 : decode cX5_layRule 186 = .ok (.aload_n 0, 1) := by decide +kernel
theorem dX5_layRule_187 : decode cX5_layRule 187 = .ok (.getfield 37, 3) := by decide +kernel
theorem dX5_layRule_190 : decode cX5_layRule 190 = .ok (.iload_n 2, 1) := by decide +kernel
theorem dX5_layRule_191 : decode cX5_layRule 191 = .ok (.dup2, 1) := by decide +kernel
theorem dX5_layRule_192 : decode cX5_layRule 192 = .ok (.iaload, 1) := by decide +kernel
theorem dX5_layRule_193 : decode cX5_layRule 193 = .ok (.iconst 1, 1) := by decide +kernel
theorem dX5_layRule_194 : decode cX5_layRule 194 = .ok (.iload_n 1, 1) := by decide +kernel
theorem dX5_layRule_195 : decode cX5_layRule 195 = .ok (.ishl, 1) := by decide +kernel
theorem dX5_layRule_196 : decode cX5_layRule 196 = .ok (.ior, 1) := by decide +kernel
theorem dX5_layRule_197 : decode cX5_layRule 197 = .ok (.iastore, 1) := by decide +kernel
theorem dX5_layRule_198 : decode cX5_layRule 198 = .ok (.iinc 1 1, 3) := by decide +kernel
theorem dX5_layRule_201 : decode cX5_layRule 201 = .ok (.goto (-178), 3) := by decide +kernel
theorem dX5_layRule_204 : decode cX5_layRule 204 = .ok (.return_, 1) := by decide +kernel
theorem dX5_rule_0 : decode cX5_rule 0 = .ok (.aload_n 0, 1) := by decide +kernel
theorem dX5_rule_1 : decode cX5_rule 1 = .ok (.invokevirtual 195, 3) := by decide +kernel
theorem dX5_rule_4 : decode cX5_rule 4 = .ok (.aload_n 0, 1) := by decide +kernel
theorem dX5_rule_5 : decode cX5_rule 5 = .ok (.aload_n 0, 1) := by decide +kernel
theorem dX5_rule_6 : decode cX5_rule 6 = .ok (.getfield 37, 3) := by decide +kernel
theorem dX5_rule_9 : decode cX5_rule 9 = .ok (.iconst 0, 1) := by decide +kernel
theorem dX5_rule_10 : decode cX5_rule 10 = .ok (.iaload, 1) := by decide +kernel
theorem dX5_rule_11 : decode cX5_rule 11 = .ok (.aload_n 0, 1) := by decide +kernel
theorem dX5_rule_12 : decode cX5_rule 12 = .ok (.getfield 37, 3) := by decide +kernel
theorem dX5_rule_15 : decode cX5_rule 15 = .ok (.iconst 1, 1) := by decide +kernel
theorem dX5_rule_16 : decode cX5_rule 16 = .ok (.iaload, 1) := by decide +kernel
theorem dX5_rule_17 : decode cX5_rule 17 = .ok (.aload_n 0, 1) := by decide +kernel
theorem dX5_rule_18 : decode cX5_rule 18 = .ok (.getfield 37, 3) := by decide +kernel
theorem dX5_rule_21 : decode cX5_rule 21 = .ok (.iconst 2, 1) := by decide +kernel
theorem dX5_rule_22 : decode cX5_rule 22 = .ok (.iaload, 1) := by decide +kernel
theorem dX5_rule_23 : decode cX5_rule 23 = .ok (.iconst 0, 1) := by decide +kernel
theorem dX5_rule_24 : decode cX5_rule 24 = .ok (.invokevirtual 150, 3) := by decide +kernel
theorem dX5_rule_27 : decode cX5_rule 27 = .ok (.ifCond .eq 30, 3) := by decide +kernel
theorem dX5_rule_30 : decode cX5_rule 30 = .ok (.aload_n 0, 1) := by decide +kernel
theorem dX5_rule_31 : decode cX5_rule 31 = .ok (.aload_n 0, 1) := by decide +kernel
theorem dX5_rule_32 : decode cX5_rule 32 = .ok (.getfield 37, 3) := by decide +kernel
theorem dX5_rule_35 : decode cX5_rule 35 = .ok (.iconst 0, 1) := by decide +kernel
theorem dX5_rule_36 : decode cX5_rule 36 = .ok (.iaload, 1) := by decide +kernel
theorem dX5_rule_37 : decode cX5_rule 37 = .ok (.aload_n 0, 1) := by decide +kernel
theorem dX5_rule_38 : decode cX5_rule 38 = .ok (.getfield 37, 3) := by decide +kernel
theorem dX5_rule_41 : decode cX5_rule 41 = .ok (.iconst 1, 1) := by decide +kernel
theorem dX5_rule_42 : decode cX5_rule 42 = .ok (.iaload, 1) := by decide +kernel
theorem dX5_rule_43 : decode cX5_rule 43 = .ok (.ior, 1) := by decide +kernel
theorem dX5_rule_44 : decode cX5_rule 44 = .ok (.aload_n 0, 1) := by decide +kernel
theorem dX5_rule_45 : decode cX5_rule 45 = .ok (.getfield 37, 3) := by decide +kernel
theorem dX5_rule_48 : decode cX5_rule 48 = .ok (.iconst 2, 1) := by decide +kernel
theorem dX5_rule_49 : decode cX5_rule 49 = .ok (.iaload, 1) := by decide +kernel
theorem dX5_rule_50 : decode cX5_rule 50 = .ok (.ior, 1) := by decide +kernel
theorem dX5_rule_51 : decode cX5_rule 51 = .ok (.invokevirtual 154, 3) := by decide +kernel
theorem dX5_rule_54 : decode cX5_rule 54 = .ok (.goto 4, 3) := by decide +kernel
theorem dX5_rule_57 : decode cX5_rule 57 = .ok (.iconst 0, 1) := by decide +kernel
theorem dX5_rule_58 : decode cX5_rule 58 = .ok (.ireturn, 1) := by decide +kernel
theorem dX5_ruleAt_0 : decode cX5_ruleAt 0 = .ok (.aload_n 0, 1) := by decide +kernel
theorem dX5_ruleAt_1 : decode cX5_ruleAt 1 = .ok (.iload_n 1, 1) := by decide +kernel
theorem dX5_ruleAt_2 : decode cX5_ruleAt 2 = .ok (.invokevirtual 110, 3) := by decide +kernel
theorem dX5_ruleAt_5 : decode cX5_ruleAt 5 = .ok (.ifCond .ne 5, 3) := by decide +kernel
theorem dX5_ruleAt_8 : decode cX5_ruleAt 8 = .ok (.iconst (-1), 1) := by decide +kernel
theorem dX5_ruleAt_9 : decode cX5_ruleAt 9 = .ok (.ireturn, 1) := by decide +kernel
theorem dX5_ruleAt_10 : decode cX5_ruleAt 10 = .ok (.aload_n 0, 1) := by decide +kernel
theorem dX5_ruleAt_11 : decode cX5_ruleAt 11 = .ok (.invokevirtual 195, 3) := by decide +kernel
theorem dX5_ruleAt_14 : decode cX5_ruleAt 14 = .ok (.iconst 0, 1) := by decide +kernel
theorem dX5_ruleAt_15 : decode cX5_ruleAt 15 = .ok (.istore_n 2, 1) := by decide +kernel
theorem dX5_ruleAt_16 : decode cX5_ruleAt 16 = .ok (.iload_n 2, 1) := by decide +kernel
theorem dX5_ruleAt_17 : decode cX5_ruleAt 17 = .ok (.iconst 3, 1) := by decide +kernel
theorem dX5_ruleAt_18 : decode cX5_ruleAt 18 = .ok (.if_icmp .ge 25, 3) := by decide +kernel
theorem dX5_ruleAt_21 : decode cX5_ruleAt 21 = .ok (.aload_n 0, 1) := by decide +kernel
theorem dX5_ruleAt_22 : decode cX5_ruleAt 22 = .ok (.getfield 37, 3) := by decide +kernel
theorem dX5_ruleAt_25 : decode cX5_ruleAt 25 = .ok (.iload_n 2, 1) := by decide +kernel
theorem dX5_ruleAt_26 : decode cX5_ruleAt 26 = .ok (.iaload, 1) := by decide +kernel
theorem dX5_ruleAt_27 : decode cX5_ruleAt 27 = .ok (.iload_n 1, 1) := by decide +kernel
theorem dX5_ruleAt_28 : decode cX5_ruleAt 28 = .ok (.ishr, 1) := by decide +kernel
theorem dX5_ruleAt_29 : decode cX5_ruleAt 29 = .ok (.iconst 1, 1) := by decide +kernel
theorem dX5_ruleAt_30 : decode cX5_ruleAt 30 = .ok (.iand, 1) := by decide +kernel
theorem dX5_ruleAt_31 : decode cX5_ruleAt 31 = .ok (.iconst 1, 1) := by decide +kernel
theorem dX5_ruleAt_32 : decode cX5_ruleAt 32 = .ok (.if_icmp .ne 5, 3) := by decide +kernel
theorem dX5_ruleAt_35 : decode cX5_ruleAt 35 = .ok (.iload_n 2, 1) := by decide +kernel
theorem dX5_ruleAt_36 : decode cX5_ruleAt 36 = .ok (.ireturn, 1) := by decide +kernel
theorem dX5_ruleAt_37 : decode cX5_ruleAt 37 = .ok (.iinc 2 1, 3) := by decide +kernel
theorem dX5_ruleAt_40 : decode cX5_ruleAt 40 = .ok (.goto (-24), 3) := by decide +kernel
theorem dX5_ruleAt_43 : decode cX5_ruleAt 43 = .ok (.bipush (-9), 2) := by decide +kernel
theorem dX5_ruleAt_45 : decode cX5_ruleAt 45 = .ok (.ireturn, 1) := by decide +kernel
theorem dX5_claim_0 : decode cX5_claim 0 = .ok (.aload_n 0, 1) := by decide +kernel
theorem dX5_claim_1 : decode cX5_claim 1 = .ok (.iload_n 1, 1) := by decide +kernel
theorem dX5_claim_2 : decode cX5_claim 2 = .ok (.invokevirtual 110, 3) := by decide +kernel
theorem dX5_claim_5 : decode cX5_claim 5 = .ok (.ifCond .ne 5, 3) := by decide +kernel
theorem dX5_claim_8 : decode cX5_claim 8 = .ok (.iconst (-1), 1) := by decide +kernel
theorem dX5_claim_9 : decode cX5_claim 9 = .ok (.ireturn, 1) := by decide +kernel
theorem dX5_claim_10 : decode cX5_claim 10 = .ok (.iload_n 2, 1) := by decide +kernel
theorem dX5_claim_11 : decode cX5_claim 11 = .ok (.i2l, 1) := by decide +kernel
theorem dX5_claim_12 : decode cX5_claim 12 = .ok (.lconst 1, 1) := by decide +kernel
theorem dX5_claim_13 : decode cX5_claim 13 = .ok (.ldc2_w 181, 3) := by decide +kernel
theorem dX5_claim_16 : decode cX5_claim 16 = .ok (.invokestatic 70, 3) := by decide +kernel
theorem dX5_claim_19 : decode cX5_claim 19 = .ok (.ifCond .ne 6, 3) := by decide +kernel
theorem dX5_claim_22 : decode cX5_claim 22 = .ok (.bipush (-2), 2) := by decide +kernel
theorem dX5_claim_24 : decode cX5_claim 24 = .ok (.ireturn, 1) := by decide +kernel
theorem dX5_claim_25 : decode cX5_claim 25 = .ok (.aload_n 0, 1) := by decide +kernel
theorem dX5_claim_26 : decode cX5_claim 26 = .ok (.getfield 25, 3) := by decide +kernel
theorem dX5_claim_29 : decode cX5_claim 29 = .ok (.iload_n 1, 1) := by decide +kernel
theorem dX5_claim_30 : decode cX5_claim 30 = .ok (.iaload, 1) := by decide +kernel
theorem dX5_claim_31 : decode cX5_claim 31 = .ok (.istore_n 3, 1) := by decide +kernel
theorem dX5_claim_32 : decode cX5_claim 32 = .ok (.aload_n 0, 1) := by decide +kernel
theorem dX5_claim_33 : decode cX5_claim 33 = .ok (.getfield 25, 3) := by decide +kernel
theorem dX5_claim_36 : decode cX5_claim 36 = .ok (.iload_n 1, 1) := by decide +kernel
theorem dX5_claim_37 : decode cX5_claim 37 = .ok (.iload_n 2, 1) := by decide +kernel
theorem dX5_claim_38 : decode cX5_claim 38 = .ok (.iastore, 1) := by decide +kernel
theorem dX5_claim_39 : decode cX5_claim 39 = .ok (.iload_n 3, 1) := by decide +kernel
theorem dX5_claim_40 : decode cX5_claim 40 = .ok (.ireturn, 1) := by decide +kernel
theorem dX5_allFit_0 : decode cX5_allFit 0 = .ok (.iconst 1, 1) := by decide +kernel
theorem dX5_allFit_1 : decode cX5_allFit 1 = .ok (.istore_n 1, 1) := by decide +kernel
theorem dX5_allFit_2 : decode cX5_allFit 2 = .ok (.iconst 0, 1) := by decide +kernel
theorem dX5_allFit_3 : decode cX5_allFit 3 = .ok (.istore_n 2, 1) := by decide +kernel
theorem dX5_allFit_4 : decode cX5_allFit 4 = .ok (.iload_n 2, 1) := by decide +kernel
theorem dX5_allFit_5 : decode cX5_allFit 5 = .ok (.aload_n 0, 1) := by decide +kernel
theorem dX5_allFit_6 : decode cX5_allFit 6 = .ok (.getfield 105, 3) := by decide +kernel
theorem dX5_allFit_9 : decode cX5_allFit 9 = .ok (.if_icmp .ge 55, 3) := by decide +kernel
theorem dX5_allFit_12 : decode cX5_allFit 12 = .ok (.iload_n 1, 1) := by decide +kernel
theorem dX5_allFit_13 : decode cX5_allFit 13 = .ok (.ifCond .eq 43, 3) := by decide +kernel
theorem dX5_allFit_16 : decode cX5_allFit 16 = .ok (.aload_n 0, 1) := by decide +kernel
theorem dX5_allFit_17 : decode cX5_allFit 17 = .ok (.aload_n 0, 1) := by decide +kernel
theorem dX5_allFit_18 : decode cX5_allFit 18 = .ok (.getfield 34, 3) := by decide +kernel
theorem dX5_allFit_21 : decode cX5_allFit 21 = .ok (.iconst 3, 1) := by decide +kernel
theorem dX5_allFit_22 : decode cX5_allFit 22 = .ok (.iload_n 2, 1) := by decide +kernel
theorem dX5_allFit_23 : decode cX5_allFit 23 = .ok (.imul, 1) := by decide +kernel
theorem dX5_allFit_24 : decode cX5_allFit 24 = .ok (.iaload, 1) := by decide +kernel
theorem dX5_allFit_25 : decode cX5_allFit 25 = .ok (.aload_n 0, 1) := by decide +kernel
theorem dX5_allFit_26 : decode cX5_allFit 26 = .ok (.getfield 34, 3) := by decide +kernel
theorem dX5_allFit_29 : decode cX5_allFit 29 = .ok (.iconst 3, 1) := by decide +kernel
theorem dX5_allFit_30 : decode cX5_allFit 30 = .ok (.iload_n 2, 1) := by decide +kernel
theorem dX5_allFit_31 : decode cX5_allFit 31 = .ok (.imul, 1) := by decide +kernel
theorem dX5_allFit_32 : decode cX5_allFit 32 = .ok (.iconst 1, 1) := by decide +kernel
theorem dX5_allFit_33 : decode cX5_allFit 33 = .ok (.iadd, 1) := by decide +kernel
theorem dX5_allFit_34 : decode cX5_allFit 34 = .ok (.iaload, 1) := by decide +kernel
theorem dX5_allFit_35 : decode cX5_allFit 35 = .ok (.aload_n 0, 1) := by decide +kernel
theorem dX5_allFit_36 : decode cX5_allFit 36 = .ok (.getfield 34, 3) := by decide +kernel
theorem dX5_allFit_39 : decode cX5_allFit 39 = .ok (.iconst 3, 1) := by decide +kernel
theorem dX5_allFit_40 : decode cX5_allFit 40 = .ok (.iload_n 2, 1) := by decide +kernel
theorem dX5_allFit_41 : decode cX5_allFit 41 = .ok (.imul, 1) := by decide +kernel
theorem dX5_allFit_42 : decode cX5_allFit 42 = .ok (.iconst 2, 1) := by decide +kernel
theorem dX5_allFit_43 : decode cX5_allFit 43 = .ok (.iadd, 1) := by decide +kernel
theorem dX5_allFit_44 : decode cX5_allFit 44 = .ok (.iaload, 1) := by decide +kernel
theorem dX5_allFit_45 : decode cX5_allFit 45 = .ok (.iconst 1, 1) := by decide +kernel
theorem dX5_allFit_46 : decode cX5_allFit 46 = .ok (.invokevirtual 150, 3) := by decide +kernel
theorem dX5_allFit_49 : decode cX5_allFit 49 = .ok (.ifCond .eq 7, 3) := by decide +kernel
theorem dX5_allFit_52 : decode cX5_allFit 52 = .ok (.iconst 1, 1) := by decide +kernel
theorem dX5_allFit_53 : decode cX5_allFit 53 = .ok (.goto 4, 3) := by decide +kernel
theorem dX5_allFit_56 : decode cX5_allFit 56 = .ok (.iconst 0, 1) := by decide +kernel
theorem dX5_allFit_57 : decode cX5_allFit 57 = .ok (.istore_n 1, 1) := by decide +kernel
theorem dX5_allFit_58 : decode cX5_allFit 58 = .ok (.iinc 2 1, 3) := by decide +kernel
theorem dX5_allFit_61 : decode cX5_allFit 61 = .ok (.goto (-57), 3) := by decide +kernel
theorem dX5_allFit_64 : decode cX5_allFit 64 = .ok (.iload_n 1, 1) := by decide +kernel
theorem dX5_allFit_65 : decode cX5_allFit 65 = .ok (.ireturn, 1) := by decide +kernel
theorem dX5_fits_0 : decode cX5_fits 0 = .ok (.aload_n 0, 1) := by decide +kernel
theorem dX5_fits_1 : decode cX5_fits 1 = .ok (.invokevirtual 198, 3) := by decide +kernel
theorem dX5_fits_4 : decode cX5_fits 4 = .ok (.ifCond .eq 7, 3) := by decide +kernel
theorem dX5_fits_7 : decode cX5_fits 7 = .ok (.iconst 1, 1) := by decide +kernel
theorem dX5_fits_8 : decode cX5_fits 8 = .ok (.goto 4, 3) := by decide +kernel
theorem dX5_fits_11 : decode cX5_fits 11 = .ok (.iconst 0, 1) := by decide +kernel
theorem dX5_fits_12 : decode cX5_fits 12 = .ok (.ireturn, 1) := by decide +kernel
theorem dX5_mayOf_0 : decode cX5_mayOf 0 = .ok (.aload_n 0, 1) := by decide +kernel
theorem dX5_mayOf_1 : decode cX5_mayOf 1 = .ok (.getfield 25, 3) := by decide +kernel
theorem dX5_mayOf_4 : decode cX5_mayOf 4 = .ok (.iload_n 1, 1) := by decide +kernel
theorem dX5_mayOf_5 : decode cX5_mayOf 5 = .ok (.iaload, 1) := by decide +kernel
theorem dX5_mayOf_6 : decode cX5_mayOf 6 = .ok (.istore_n 2, 1) := by decide +kernel
theorem dX5_mayOf_7 : decode cX5_mayOf 7 = .ok (.iconst 0, 1) := by decide +kernel
theorem dX5_mayOf_8 : decode cX5_mayOf 8 = .ok (.istore_n 3, 1) := by decide +kernel
theorem dX5_mayOf_9 : decode cX5_mayOf 9 = .ok (.iconst 1, 1) := by decide +kernel
theorem dX5_mayOf_10 : decode cX5_mayOf 10 = .ok (.istore 4, 2) := by decide +kernel
theorem dX5_mayOf_12 : decode cX5_mayOf 12 = .ok (.iload 4, 2) := by decide +kernel
theorem dX5_mayOf_14 : decode cX5_mayOf 14 = .ok (.bipush 100, 2) := by decide +kernel
theorem dX5_mayOf_16 : decode cX5_mayOf 16 = .ok (.if_icmp .ge 32, 3) := by decide +kernel
theorem dX5_mayOf_19 : decode cX5_mayOf 19 = .ok (.aload_n 0, 1) := by decide +kernel
theorem dX5_mayOf_20 : decode cX5_mayOf 20 = .ok (.getfield 25, 3) := by decide +kernel
theorem dX5_mayOf_23 : decode cX5_mayOf 23 = .ok (.iload_n 1, 1) := by decide +kernel
theorem dX5_mayOf_24 : decode cX5_mayOf 24 = .ok (.iload 4, 2) := by decide +kernel
theorem dX5_mayOf_26 : decode cX5_mayOf 26 = .ok (.iastore, 1) := by decide +kernel
theorem dX5_mayOf_27 : decode cX5_mayOf 27 = .ok (.iload_n 3, 1) := by decide +kernel
theorem dX5_mayOf_28 : decode cX5_mayOf 28 = .ok (.aload_n 0, 1) := by decide +kernel
theorem dX5_mayOf_29 : decode cX5_mayOf 29 = .ok (.invokevirtual 198, 3) := by decide +kernel
theorem dX5_mayOf_32 : decode cX5_mayOf 32 = .ok (.ifCond .eq 7, 3) := by decide +kernel
theorem dX5_mayOf_35 : decode cX5_mayOf 35 = .ok (.iconst 1, 1) := by decide +kernel
theorem dX5_mayOf_36 : decode cX5_mayOf 36 = .ok (.goto 4, 3) := by decide +kernel
theorem dX5_mayOf_39 : decode cX5_mayOf 39 = .ok (.iconst 0, 1) := by decide +kernel
theorem dX5_mayOf_40 : decode cX5_mayOf 40 = .ok (.iadd, 1) := by decide +kernel
theorem dX5_mayOf_41 : decode cX5_mayOf 41 = .ok (.istore_n 3, 1) := by decide +kernel
theorem dX5_mayOf_42 : decode cX5_mayOf 42 = .ok (.iinc 4 1, 3) := by decide +kernel
theorem dX5_mayOf_45 : decode cX5_mayOf 45 = .ok (.goto (-33), 3) := by decide +kernel
theorem dX5_mayOf_48 : decode cX5_mayOf 48 = .ok (.aload_n 0, 1) := by decide +kernel
theorem dX5_mayOf_49 : decode cX5_mayOf 49 = .ok (.getfield 25, 3) := by decide +kernel
theorem dX5_mayOf_52 : decode cX5_mayOf 52 = .ok (.iload_n 1, 1) := by decide +kernel
theorem dX5_mayOf_53 : decode cX5_mayOf 53 = .ok (.iload_n 2, 1) := by decide +kernel
theorem dX5_mayOf_54 : decode cX5_mayOf 54 = .ok (.iastore, 1) := by decide +kernel
theorem dX5_mayOf_55 : decode cX5_mayOf 55 = .ok (.iload_n 3, 1) := by decide +kernel
theorem dX5_mayOf_56 : decode cX5_mayOf 56 = .ok (.ireturn, 1) := by decide +kernel
theorem dX5_liars_0 : decode cX5_liars 0 = .ok (.iconst 0, 1) := by decide +kernel
theorem dX5_liars_1 : decode cX5_liars 1 = .ok (.istore_n 1, 1) := by decide +kernel
theorem dX5_liars_2 : decode cX5_liars 2 = .ok (.iconst 0, 1) := by decide +kernel
theorem dX5_liars_3 : decode cX5_liars 3 = .ok (.istore_n 2, 1) := by decide +kernel
theorem dX5_liars_4 : decode cX5_liars 4 = .ok (.iload_n 2, 1) := by decide +kernel
theorem dX5_liars_5 : decode cX5_liars 5 = .ok (.aload_n 0, 1) := by decide +kernel
theorem dX5_liars_6 : decode cX5_liars 6 = .ok (.getfield 99, 3) := by decide +kernel
theorem dX5_liars_9 : decode cX5_liars 9 = .ok (.if_icmp .ge 34, 3) := by decide +kernel
theorem dX5_liars_12 : decode cX5_liars 12 = .ok (.aload_n 0, 1) := by decide +kernel
theorem dX5_liars_13 : decode cX5_liars 13 = .ok (.invokevirtual 198, 3) := by decide +kernel
theorem dX5_liars_16 : decode cX5_liars 16 = .ok (.ifCond .ne 27, 3) := by decide +kernel
theorem dX5_liars_19 : decode cX5_liars 19 = .ok (.iload_n 1, 1) := by decide +kernel
theorem dX5_liars_20 : decode cX5_liars 20 = .ok (.aload_n 0, 1) := by decide +kernel
theorem dX5_liars_21 : decode cX5_liars 21 = .ok (.iload_n 2, 1) := by decide +kernel
theorem dX5_liars_22 : decode cX5_liars 22 = .ok (.invokevirtual 202, 3) := by decide +kernel
theorem dX5_liars_25 : decode cX5_liars 25 = .ok (.ifCond .le 9, 3) := by decide +kernel
theorem dX5_liars_28 : decode cX5_liars 28 = .ok (.iconst 1, 1) := by decide +kernel
theorem dX5_liars_29 : decode cX5_liars 29 = .ok (.iload_n 2, 1) := by decide +kernel
theorem dX5_liars_30 : decode cX5_liars 30 = .ok (.ishl, 1) := by decide +kernel
theorem dX5_liars_31 : decode cX5_liars 31 = .ok (.goto 4, 3) := by decide +kernel
theorem dX5_liars_34 : decode cX5_liars 34 = .ok (.iconst 0, 1) := by decide +kernel
theorem dX5_liars_35 : decode cX5_liars 35 = .ok (.ior, 1) := by decide +kernel
theorem dX5_liars_36 : decode cX5_liars 36 = .ok (.istore_n 1, 1) := by decide +kernel
theorem dX5_liars_37 : decode cX5_liars 37 = .ok (.iinc 2 1, 3) := by decide +kernel
theorem dX5_liars_40 : decode cX5_liars 40 = .ok (.goto (-36), 3) := by decide +kernel
theorem dX5_liars_43 : decode cX5_liars 43 = .ok (.iload_n 1, 1) := by decide +kernel
theorem dX5_liars_44 : decode cX5_liars 44 = .ok (.ireturn, 1) := by decide +kernel
theorem dX5_mayWeigh_0 : decode cX5_mayWeigh 0 = .ok (.aload_n 0, 1) := by decide +kernel
theorem dX5_mayWeigh_1 : decode cX5_mayWeigh 1 = .ok (.iload_n 1, 1) := by decide +kernel
theorem dX5_mayWeigh_2 : decode cX5_mayWeigh 2 = .ok (.invokevirtual 110, 3) := by decide +kernel
theorem dX5_mayWeigh_5 : decode cX5_mayWeigh 5 = .ok (.ifCond .eq 11, 3) := by decide +kernel
theorem dX5_mayWeigh_8 : decode cX5_mayWeigh 8 = .ok (.aload_n 0, 1) := by decide +kernel
theorem dX5_mayWeigh_9 : decode cX5_mayWeigh 9 = .ok (.iload_n 1, 1) := by decide +kernel
theorem dX5_mayWeigh_10 : decode cX5_mayWeigh 10 = .ok (.invokevirtual 202, 3) := by decide +kernel
theorem dX5_mayWeigh_13 : decode cX5_mayWeigh 13 = .ok (.goto 4, 3) := by decide +kernel
theorem dX5_mayWeigh_16 : decode cX5_mayWeigh 16 = .ok (.iconst (-1), 1) := by decide +kernel
theorem dX5_mayWeigh_17 : decode cX5_mayWeigh 17 = .ok (.ireturn, 1) := by decide +kernel
theorem dX5_keep_0 : decode cX5_keep 0 = .ok (.iload_n 1, 1) := by decide +kernel
theorem dX5_keep_1 : decode cX5_keep 1 = .ok (.i2l, 1) := by decide +kernel
theorem dX5_keep_2 : decode cX5_keep 2 = .ok (.lconst 0, 1) := by decide +kernel
theorem dX5_keep_3 : decode cX5_keep 3 = .ok (.lconst 1, 1) := by decide +kernel
theorem dX5_keep_4 : decode cX5_keep 4 = .ok (.invokestatic 70, 3) := by decide +kernel
theorem dX5_keep_7 : decode cX5_keep 7 = .ok (.ifCond .ne 5, 3) := by decide +kernel
theorem dX5_keep_10 : decode cX5_keep 10 = .ok (.iconst (-1), 1) := by decide +kernel
theorem dX5_keep_11 : decode cX5_keep 11 = .ok (.ireturn, 1) := by decide +kernel
theorem dX5_keep_12 : decode cX5_keep 12 = .ok (.aload_n 0, 1) := by decide +kernel
theorem dX5_keep_13 : decode cX5_keep 13 = .ok (.getfield 50, 3) := by decide +kernel
theorem dX5_keep_16 : decode cX5_keep 16 = .ok (.iload_n 1, 1) := by decide +kernel
theorem dX5_keep_17 : decode cX5_keep 17 = .ok (.iconst 1, 1) := by decide +kernel
theorem dX5_keep_18 : decode cX5_keep 18 = .ok (.bastore, 1) := by decide +kernel
theorem dX5_keep_19 : decode cX5_keep 19 = .ok (.iconst 0, 1) := by decide +kernel
theorem dX5_keep_20 : decode cX5_keep 20 = .ok (.istore_n 2, 1) := by decide +kernel
theorem dX5_keep_21 : decode cX5_keep 21 = .ok (.iload_n 2, 1) := by decide +kernel
theorem dX5_keep_22 : decode cX5_keep 22 = .ok (.bipush 8, 2) := by decide +kernel
theorem dX5_keep_24 : decode cX5_keep 24 = .ok (.if_icmp .ge 60, 3) := by decide +kernel
theorem dX5_keep_27 : decode cX5_keep 27 = .ok (.aload_n 0, 1) := by decide +kernel
theorem dX5_keep_28 : decode cX5_keep 28 = .ok (.getfield 53, 3) := by decide +kernel
theorem dX5_keep_31 : decode cX5_keep 31 = .ok (.bipush 8, 2) := by decide +kernel
theorem dX5_keep_33 : decode cX5_keep 33 = .ok (.iload_n 1, 1) := by decide +kernel
theorem dX5_keep_34 : decode cX5_keep 34 = .ok (.imul, 1) := by decide +kernel
theorem dX5_keep_35 : decode cX5_keep 35 = .ok (.iload_n 2, 1) := by decide +kernel
theorem dX5_keep_36 : decode cX5_keep 36 = .ok (.iadd, 1) := by decide +kernel
theorem dX5_keep_37 : decode cX5_keep 37 = .ok (.aload_n 0, 1) := by decide +kernel
theorem dX5_keep_38 : decode cX5_keep 38 = .ok (.getfield 28, 3) := by decide +kernel
theorem dX5_keep_41 : decode cX5_keep 41 = .ok (.iload_n 2, 1) := by decide +kernel
theorem dX5_keep_42 : decode cX5_keep 42 = .ok (.iaload, 1) := by decide +kernel
theorem dX5_keep_43 : decode cX5_keep 43 = .ok (.iastore, 1) := by decide +kernel
theorem dX5_keep_44 : decode cX5_keep 44 = .ok (.aload_n 0, 1) := by decide +kernel
theorem dX5_keep_45 : decode cX5_keep 45 = .ok (.getfield 56, 3) := by decide +kernel
theorem dX5_keep_48 : decode cX5_keep 48 = .ok (.bipush 8, 2) := by decide +kernel
theorem dX5_keep_50 : decode cX5_keep 50 = .ok (.iload_n 1, 1) := by decide +kernel
theorem dX5_keep_51 : decode cX5_keep 51 = .ok (.imul, 1) := by decide +kernel
theorem dX5_keep_52 : decode cX5_keep 52 = .ok (.iload_n 2, 1) := by decide +kernel
theorem dX5_keep_53 : decode cX5_keep 53 = .ok (.iadd, 1) := by decide +kernel
theorem dX5_keep_54 : decode cX5_keep 54 = .ok (.aload_n 0, 1) := by decide +kernel
theorem dX5_keep_55 : decode cX5_keep 55 = .ok (.getfield 22, 3) := by decide +kernel
theorem dX5_keep_58 : decode cX5_keep 58 = .ok (.iload_n 2, 1) := by decide +kernel
theorem dX5_keep_59 : decode cX5_keep 59 = .ok (.iaload, 1) := by decide +kernel
theorem dX5_keep_60 : decode cX5_keep 60 = .ok (.iastore, 1) := by decide +kernel
theorem dX5_keep_61 : decode cX5_keep 61 = .ok (.aload_n 0, 1) := by decide +kernel
theorem dX5_keep_62 : decode cX5_keep 62 = .ok (.getfield 59, 3) := by decide +kernel
theorem dX5_keep_65 : decode cX5_keep 65 = .ok (.bipush 8, 2) := by decide +kernel
theorem dX5_keep_67 : decode cX5_keep 67 = .ok (.iload_n 1, 1) := by decide +kernel
theorem dX5_keep_68 : decode cX5_keep 68 = .ok (.imul, 1) := by decide +kernel
theorem dX5_keep_69 : decode cX5_keep 69 = .ok (.iload_n 2, 1) := by decide +kernel
theorem dX5_keep_70 : decode cX5_keep 70 = .ok (.iadd, 1) := by decide +kernel
theorem dX5_keep_71 : decode cX5_keep 71 = .ok (.aload_n 0, 1) := by decide +kernel
theorem dX5_keep_72 : decode cX5_keep 72 = .ok (.getfield 25, 3) := by decide +kernel
theorem dX5_keep_75 : decode cX5_keep 75 = .ok (.iload_n 2, 1) := by decide +kernel
theorem dX5_keep_76 : decode cX5_keep 76 = .ok (.iaload, 1) := by decide +kernel
theorem dX5_keep_77 : decode cX5_keep 77 = .ok (.iastore, 1) := by decide +kernel
theorem dX5_keep_78 : decode cX5_keep 78 = .ok (.iinc 2 1, 3) := by decide +kernel
theorem dX5_keep_81 : decode cX5_keep 81 = .ok (.goto (-60), 3) := by decide +kernel
theorem dX5_keep_84 : decode cX5_keep 84 = .ok (.iconst 0, 1) := by decide +kernel
theorem dX5_keep_85 : decode cX5_keep 85 = .ok (.istore_n 2, 1) := by decide +kernel
theorem dX5_keep_86 : decode cX5_keep 86 = .ok (.iload_n 2, 1) := by decide +kernel
theorem dX5_keep_87 : decode cX5_keep 87 = .ok (.bipush 24, 2) := by decide +kernel
theorem dX5_keep_89 : decode cX5_keep 89 = .ok (.if_icmp .ge 26, 3) := by decide +kernel
theorem dX5_keep_92 : decode cX5_keep 92 = .ok (.aload_n 0, 1) := by decide +kernel
theorem dX5_keep_93 : decode cX5_keep 93 = .ok (.getfield 62, 3) := by decide +kernel
theorem dX5_keep_96 : decode cX5_keep 96 = .ok (.bipush 24, 2) := by decide +kernel
theorem dX5_keep_98 : decode cX5_keep 98 = .ok (.iload_n 1, 1) := by decide +kernel
theorem dX5_keep_99 : decode cX5_keep 99 = .ok (.imul, 1) := by decide +kernel
theorem dX5_keep_100 : decode cX5_keep 100 = .ok (.iload_n 2, 1) := by decide +kernel
theorem dX5_keep_101 : decode cX5_keep 101 = .ok (.iadd, 1) := by decide +kernel
theorem dX5_keep_102 : decode cX5_keep 102 = .ok (.aload_n 0, 1) := by decide +kernel
theorem dX5_keep_103 : decode cX5_keep 103 = .ok (.getfield 34, 3) := by decide +kernel
theorem dX5_keep_106 : decode cX5_keep 106 = .ok (.iload_n 2, 1) := by decide +kernel
theorem dX5_keep_107 : decode cX5_keep 107 = .ok (.iaload, 1) := by decide +kernel
theorem dX5_keep_108 : decode cX5_keep 108 = .ok (.iastore, 1) := by decide +kernel
theorem dX5_keep_109 : decode cX5_keep 109 = .ok (.iinc 2 1, 3) := by decide +kernel
theorem dX5_keep_112 : decode cX5_keep 112 = .ok (.goto (-26), 3) := by decide +kernel
theorem dX5_keep_115 : decode cX5_keep 115 = .ok (.aload_n 0, 1) := by decide +kernel
theorem dX5_keep_116 : decode cX5_keep 116 = .ok (.getfield 65, 3) := by decide +kernel
theorem dX5_keep_119 : decode cX5_keep 119 = .ok (.iconst 2, 1) := by decide +kernel
theorem dX5_keep_120 : decode cX5_keep 120 = .ok (.iload_n 1, 1) := by decide +kernel
theorem dX5_keep_121 : decode cX5_keep 121 = .ok (.imul, 1) := by decide +kernel
theorem dX5_keep_122 : decode cX5_keep 122 = .ok (.aload_n 0, 1) := by decide +kernel
theorem dX5_keep_123 : decode cX5_keep 123 = .ok (.getfield 105, 3) := by decide +kernel
theorem dX5_keep_126 : decode cX5_keep 126 = .ok (.iastore, 1) := by decide +kernel
theorem dX5_keep_127 : decode cX5_keep 127 = .ok (.aload_n 0, 1) := by decide +kernel
theorem dX5_keep_128 : decode cX5_keep 128 = .ok (.getfield 65, 3) := by decide +kernel
theorem dX5_keep_131 : decode cX5_keep 131 = .ok (.iconst 2, 1) := by decide +kernel
theorem dX5_keep_132 : decode cX5_keep 132 = .ok (.iload_n 1, 1) := by decide +kernel
theorem dX5_keep_133 : decode cX5_keep 133 = .ok (.imul, 1) := by decide +kernel
theorem dX5_keep_134 : decode cX5_keep 134 = .ok (.iconst 1, 1) := by decide +kernel
theorem dX5_keep_135 : decode cX5_keep 135 = .ok (.iadd, 1) := by decide +kernel
theorem dX5_keep_136 : decode cX5_keep 136 = .ok (.aload_n 0, 1) := by decide +kernel
theorem dX5_keep_137 : decode cX5_keep 137 = .ok (.getfield 102, 3) := by decide +kernel
theorem dX5_keep_140 : decode cX5_keep 140 = .ok (.iastore, 1) := by decide +kernel
theorem dX5_keep_141 : decode cX5_keep 141 = .ok (.aload_n 0, 1) := by decide +kernel
theorem dX5_keep_142 : decode cX5_keep 142 = .ok (.getfield 105, 3) := by decide +kernel
theorem dX5_keep_145 : decode cX5_keep 145 = .ok (.ireturn, 1) := by decide +kernel
theorem dX5_again_0 : decode cX5_again 0 = .ok (.iload_n 1, 1) := by decide +kernel
theorem dX5_again_1 : decode cX5_again 1 = .ok (.i2l, 1) := by decide +kernel
theorem dX5_again_2 : decode cX5_again 2 = .ok (.lconst 0, 1) := by decide +kernel
theorem dX5_again_3 : decode cX5_again 3 = .ok (.lconst 1, 1) := by decide +kernel
theorem dX5_again_4 : decode cX5_again 4 = .ok (.invokestatic 70, 3) := by decide +kernel
theorem dX5_again_7 : decode cX5_again 7 = .ok (.ifCond .ne 5, 3) := by decide +kernel
theorem dX5_again_10 : decode cX5_again 10 = .ok (.iconst (-1), 1) := by decide +kernel
theorem dX5_again_11 : decode cX5_again 11 = .ok (.ireturn, 1) := by decide +kernel
theorem dX5_again_12 : decode cX5_again 12 = .ok (.aload_n 0, 1) := by decide +kernel
theorem dX5_again_13 : decode cX5_again 13 = .ok (.getfield 50, 3) := by decide +kernel
theorem dX5_again_16 : decode cX5_again 16 = .ok (.iload_n 1, 1) := by decide +kernel
theorem dX5_again_17 : decode cX5_again 17 = .ok (.baload, 1) := by decide +kernel
theorem dX5_again_18 : decode cX5_again 18 = .ok (.ifCond .ne 6, 3) := by decide +kernel
theorem dX5_again_21 : decode cX5_again 21 = .ok (.bipush (-3), 2) := by decide +kernel
theorem dX5_again_23 : decode cX5_again 23 = .ok (.ireturn, 1) := by decide +kernel
theorem dX5_again_24 : decode cX5_again 24 = .ok (.iconst 0, 1) := by decide +kernel
theorem dX5_again_25 : decode cX5_again 25 = .ok (.istore_n 2, 1) := by decide +kernel
theorem dX5_again_26 : decode cX5_again 26 = .ok (.iload_n 2, 1) := by decide +kernel
theorem dX5_again_27 : decode cX5_again 27 = .ok (.bipush 8, 2) := by decide +kernel
theorem dX5_again_29 : decode cX5_again 29 = .ok (.if_icmp .ge 60, 3) := by decide +kernel
theorem dX5_again_32 : decode cX5_again 32 = .ok (.aload_n 0, 1) := by decide +kernel
theorem dX5_again_33 : decode cX5_again 33 = .ok (.getfield 28, 3) := by decide +kernel
theorem dX5_again_36 : decode cX5_again 36 = .ok (.iload_n 2, 1) := by decide +kernel
theorem dX5_again_37 : decode cX5_again 37 = .ok (.aload_n 0, 1) := by decide +kernel
theorem dX5_again_38 : decode cX5_again 38 = .ok (.getfield 53, 3) := by decide +kernel
theorem dX5_again_41 : decode cX5_again 41 = .ok (.bipush 8, 2) := by decide +kernel
theorem dX5_again_43 : decode cX5_again 43 = .ok (.iload_n 1, 1) := by decide +kernel
theorem dX5_again_44 : decode cX5_again 44 = .ok (.imul, 1) := by decide +kernel
theorem dX5_again_45 : decode cX5_again 45 = .ok (.iload_n 2, 1) := by decide +kernel
theorem dX5_again_46 : decode cX5_again 46 = .ok (.iadd, 1) := by decide +kernel
theorem dX5_again_47 : decode cX5_again 47 = .ok (.iaload, 1) := by decide +kernel
theorem dX5_again_48 : decode cX5_again 48 = .ok (.iastore, 1) := by decide +kernel
theorem dX5_again_49 : decode cX5_again 49 = .ok (.aload_n 0, 1) := by decide +kernel
theorem dX5_again_50 : decode cX5_again 50 = .ok (.getfield 22, 3) := by decide +kernel
theorem dX5_again_53 : decode cX5_again 53 = .ok (.iload_n 2, 1) := by decide +kernel
theorem dX5_again_54 : decode cX5_again 54 = .ok (.aload_n 0, 1) := by decide +kernel
theorem dX5_again_55 : decode cX5_again 55 = .ok (.getfield 56, 3) := by decide +kernel
theorem dX5_again_58 : decode cX5_again 58 = .ok (.bipush 8, 2) := by decide +kernel
theorem dX5_again_60 : decode cX5_again 60 = .ok (.iload_n 1, 1) := by decide +kernel
theorem dX5_again_61 : decode cX5_again 61 = .ok (.imul, 1) := by decide +kernel
theorem dX5_again_62 : decode cX5_again 62 = .ok (.iload_n 2, 1) := by decide +kernel
theorem dX5_again_63 : decode cX5_again 63 = .ok (.iadd, 1) := by decide +kernel
theorem dX5_again_64 : decode cX5_again 64 = .ok (.iaload, 1) := by decide +kernel
theorem dX5_again_65 : decode cX5_again 65 = .ok (.iastore, 1) := by decide +kernel
theorem dX5_again_66 : decode cX5_again 66 = .ok (.aload_n 0, 1) := by decide +kernel
theorem dX5_again_67 : decode cX5_again 67 = .ok (.getfield 25, 3) := by decide +kernel
theorem dX5_again_70 : decode cX5_again 70 = .ok (.iload_n 2, 1) := by decide +kernel
theorem dX5_again_71 : decode cX5_again 71 = .ok (.aload_n 0, 1) := by decide +kernel
theorem dX5_again_72 : decode cX5_again 72 = .ok (.getfield 59, 3) := by decide +kernel
theorem dX5_again_75 : decode cX5_again 75 = .ok (.bipush 8, 2) := by decide +kernel
theorem dX5_again_77 : decode cX5_again 77 = .ok (.iload_n 1, 1) := by decide +kernel
theorem dX5_again_78 : decode cX5_again 78 = .ok (.imul, 1) := by decide +kernel
theorem dX5_again_79 : decode cX5_again 79 = .ok (.iload_n 2, 1) := by decide +kernel
theorem dX5_again_80 : decode cX5_again 80 = .ok (.iadd, 1) := by decide +kernel
theorem dX5_again_81 : decode cX5_again 81 = .ok (.iaload, 1) := by decide +kernel
theorem dX5_again_82 : decode cX5_again 82 = .ok (.iastore, 1) := by decide +kernel
theorem dX5_again_83 : decode cX5_again 83 = .ok (.iinc 2 1, 3) := by decide +kernel
theorem dX5_again_86 : decode cX5_again 86 = .ok (.goto (-60), 3) := by decide +kernel
theorem dX5_again_89 : decode cX5_again 89 = .ok (.iconst 0, 1) := by decide +kernel
theorem dX5_again_90 : decode cX5_again 90 = .ok (.istore_n 2, 1) := by decide +kernel
theorem dX5_again_91 : decode cX5_again 91 = .ok (.iload_n 2, 1) := by decide +kernel
theorem dX5_again_92 : decode cX5_again 92 = .ok (.bipush 24, 2) := by decide +kernel
theorem dX5_again_94 : decode cX5_again 94 = .ok (.if_icmp .ge 26, 3) := by decide +kernel
theorem dX5_again_97 : decode cX5_again 97 = .ok (.aload_n 0, 1) := by decide +kernel
theorem dX5_again_98 : decode cX5_again 98 = .ok (.getfield 34, 3) := by decide +kernel
theorem dX5_again_101 : decode cX5_again 101 = .ok (.iload_n 2, 1) := by decide +kernel
theorem dX5_again_102 : decode cX5_again 102 = .ok (.aload_n 0, 1) := by decide +kernel
theorem dX5_again_103 : decode cX5_again 103 = .ok (.getfield 62, 3) := by decide +kernel
theorem dX5_again_106 : decode cX5_again 106 = .ok (.bipush 24, 2) := by decide +kernel
theorem dX5_again_108 : decode cX5_again 108 = .ok (.iload_n 1, 1) := by decide +kernel
theorem dX5_again_109 : decode cX5_again 109 = .ok (.imul, 1) := by decide +kernel
theorem dX5_again_110 : decode cX5_again 110 = .ok (.iload_n 2, 1) := by decide +kernel
theorem dX5_again_111 : decode cX5_again 111 = .ok (.iadd, 1) := by decide +kernel
theorem dX5_again_112 : decode cX5_again 112 = .ok (.iaload, 1) := by decide +kernel
theorem dX5_again_113 : decode cX5_again 113 = .ok (.iastore, 1) := by decide +kernel
theorem dX5_again_114 : decode cX5_again 114 = .ok (.iinc 2 1, 3) := by decide +kernel
theorem dX5_again_117 : decode cX5_again 117 = .ok (.goto (-26), 3) := by decide +kernel
theorem dX5_again_120 : decode cX5_again 120 = .ok (.aload_n 0, 1) := by decide +kernel
theorem dX5_again_121 : decode cX5_again 121 = .ok (.aload_n 0, 1) := by decide +kernel
theorem dX5_again_122 : decode cX5_again 122 = .ok (.getfield 65, 3) := by decide +kernel
theorem dX5_again_125 : decode cX5_again 125 = .ok (.iconst 2, 1) := by decide +kernel
theorem dX5_again_126 : decode cX5_again 126 = .ok (.iload_n 1, 1) := by decide +kernel
theorem dX5_again_127 : decode cX5_again 127 = .ok (.imul, 1) := by decide +kernel
theorem dX5_again_128 : decode cX5_again 128 = .ok (.iaload, 1) := by decide +kernel
theorem dX5_again_129 : decode cX5_again 129 = .ok (.putfield 105, 3) := by decide +kernel
theorem dX5_again_132 : decode cX5_again 132 = .ok (.aload_n 0, 1) := by decide +kernel
theorem dX5_again_133 : decode cX5_again 133 = .ok (.aload_n 0, 1) := by decide +kernel
theorem dX5_again_134 : decode cX5_again 134 = .ok (.getfield 65, 3) := by decide +kernel
theorem dX5_again_137 : decode cX5_again 137 = .ok (.iconst 2, 1) := by decide +kernel
theorem dX5_again_138 : decode cX5_again 138 = .ok (.iload_n 1, 1) := by decide +kernel
theorem dX5_again_139 : decode cX5_again 139 = .ok (.imul, 1) := by decide +kernel
theorem dX5_again_140 : decode cX5_again 140 = .ok (.iconst 1, 1) := by decide +kernel
theorem dX5_again_141 : decode cX5_again 141 = .ok (.iadd, 1) := by decide +kernel
theorem dX5_again_142 : decode cX5_again 142 = .ok (.iaload, 1) := by decide +kernel
theorem dX5_again_143 : decode cX5_again 143 = .ok (.putfield 102, 3) := by decide +kernel
theorem dX5_again_146 : decode cX5_again 146 = .ok (.aload_n 0, 1) := by decide +kernel
theorem dX5_again_147 : decode cX5_again 147 = .ok (.getfield 105, 3) := by decide +kernel
theorem dX5_again_150 : decode cX5_again 150 = .ok (.ireturn, 1) := by decide +kernel
theorem dX5_count_0 : decode cX5_count 0 = .ok (.iconst 0, 1) := by decide +kernel
theorem dX5_count_1 : decode cX5_count 1 = .ok (.istore_n 2, 1) := by decide +kernel
theorem dX5_count_2 : decode cX5_count 2 = .ok (.iconst 0, 1) := by decide +kernel
theorem dX5_count_3 : decode cX5_count 3 = .ok (.istore_n 3, 1) := by decide +kernel
theorem dX5_count_4 : decode cX5_count 4 = .ok (.iload_n 3, 1) := by decide +kernel
theorem dX5_count_5 : decode cX5_count 5 = .ok (.aload_n 0, 1) := by decide +kernel
theorem dX5_count_6 : decode cX5_count 6 = .ok (.getfield 105, 3) := by decide +kernel
theorem dX5_count_9 : decode cX5_count 9 = .ok (.if_icmp .ge 46, 3) := by decide +kernel
theorem dX5_count_12 : decode cX5_count 12 = .ok (.iload_n 2, 1) := by decide +kernel
theorem dX5_count_13 : decode cX5_count 13 = .ok (.aload_n 0, 1) := by decide +kernel
theorem dX5_count_14 : decode cX5_count 14 = .ok (.aload_n 0, 1) := by decide +kernel
theorem dX5_count_15 : decode cX5_count 15 = .ok (.getfield 34, 3) := by decide +kernel
theorem dX5_count_18 : decode cX5_count 18 = .ok (.iconst 3, 1) := by decide +kernel
theorem dX5_count_19 : decode cX5_count 19 = .ok (.iload_n 3, 1) := by decide +kernel
theorem dX5_count_20 : decode cX5_count 20 = .ok (.imul, 1) := by decide +kernel
theorem dX5_count_21 : decode cX5_count 21 = .ok (.iaload, 1) := by decide +kernel
theorem dX5_count_22 : decode cX5_count 22 = .ok (.aload_n 0, 1) := by decide +kernel
theorem dX5_count_23 : decode cX5_count 23 = .ok (.getfield 34, 3) := by decide +kernel
theorem dX5_count_26 : decode cX5_count 26 = .ok (.iconst 3, 1) := by decide +kernel
theorem dX5_count_27 : decode cX5_count 27 = .ok (.iload_n 3, 1) := by decide +kernel
theorem dX5_count_28 : decode cX5_count 28 = .ok (.imul, 1) := by decide +kernel
theorem dX5_count_29 : decode cX5_count 29 = .ok (.iconst 1, 1) := by decide +kernel
theorem dX5_count_30 : decode cX5_count 30 = .ok (.iadd, 1) := by decide +kernel
theorem dX5_count_31 : decode cX5_count 31 = .ok (.iaload, 1) := by decide +kernel
theorem dX5_count_32 : decode cX5_count 32 = .ok (.ior, 1) := by decide +kernel
theorem dX5_count_33 : decode cX5_count 33 = .ok (.aload_n 0, 1) := by decide +kernel
theorem dX5_count_34 : decode cX5_count 34 = .ok (.getfield 34, 3) := by decide +kernel
theorem dX5_count_37 : decode cX5_count 37 = .ok (.iconst 3, 1) := by decide +kernel
theorem dX5_count_38 : decode cX5_count 38 = .ok (.iload_n 3, 1) := by decide +kernel
theorem dX5_count_39 : decode cX5_count 39 = .ok (.imul, 1) := by decide +kernel
theorem dX5_count_40 : decode cX5_count 40 = .ok (.iconst 2, 1) := by decide +kernel
theorem dX5_count_41 : decode cX5_count 41 = .ok (.iadd, 1) := by decide +kernel
theorem dX5_count_42 : decode cX5_count 42 = .ok (.iaload, 1) := by decide +kernel
theorem dX5_count_43 : decode cX5_count 43 = .ok (.ior, 1) := by decide +kernel
theorem dX5_count_44 : decode cX5_count 44 = .ok (.invokevirtual 154, 3) := by decide +kernel
theorem dX5_count_47 : decode cX5_count 47 = .ok (.iadd, 1) := by decide +kernel
theorem dX5_count_48 : decode cX5_count 48 = .ok (.istore_n 2, 1) := by decide +kernel
theorem dX5_count_49 : decode cX5_count 49 = .ok (.iinc 3 1, 3) := by decide +kernel
theorem dX5_count_52 : decode cX5_count 52 = .ok (.goto (-48), 3) := by decide +kernel
theorem dX5_count_55 : decode cX5_count 55 = .ok (.iload_n 1, 1) := by decide +kernel
theorem dX5_count_56 : decode cX5_count 56 = .ok (.tableswitch 84 0 6 #[44, 49, 54, 62, 67, 77, 82], 44) := by decide +kernel
theorem dX5_count_100 : decode cX5_count 100 = .ok (.aload_n 0, 1) := by decide +kernel
theorem dX5_count_101 : decode cX5_count 101 = .ok (.getfield 74, 3) := by decide +kernel
theorem dX5_count_104 : decode cX5_count 104 = .ok (.ireturn, 1) := by decide +kernel
theorem dX5_count_105 : decode cX5_count 105 = .ok (.aload_n 0, 1) := by decide +kernel
theorem dX5_count_106 : decode cX5_count 106 = .ok (.getfield 99, 3) := by decide +kernel
theorem dX5_count_109 : decode cX5_count 109 = .ok (.ireturn, 1) := by decide +kernel
theorem dX5_count_110 : decode cX5_count 110 = .ok (.aload_n 0, 1) := by decide +kernel
theorem dX5_count_111 : decode cX5_count 111 = .ok (.invokevirtual 183, 3) := by decide +kernel
theorem dX5_count_114 : decode cX5_count 114 = .ok (.invokestatic 128, 3) := by decide +kernel
theorem dX5_count_117 : decode cX5_count 117 = .ok (.ireturn, 1) := by decide +kernel
theorem dX5_count_118 : decode cX5_count 118 = .ok (.aload_n 0, 1) := by decide +kernel
theorem dX5_count_119 : decode cX5_count 119 = .ok (.invokevirtual 131, 3) := by decide +kernel
theorem dX5_count_122 : decode cX5_count 122 = .ok (.ireturn, 1) := by decide +kernel
theorem dX5_count_123 : decode cX5_count 123 = .ok (.aload_n 0, 1) := by decide +kernel
theorem dX5_count_124 : decode cX5_count 124 = .ok (.bipush 20, 2) := by decide +kernel
theorem dX5_count_126 : decode cX5_count 126 = .ok (.invokevirtual 125, 3) := by decide +kernel
theorem dX5_count_129 : decode cX5_count 129 = .ok (.invokestatic 128, 3) := by decide +kernel
theorem dX5_count_132 : decode cX5_count 132 = .ok (.ireturn, 1) := by decide +kernel
theorem dX5_count_133 : decode cX5_count 133 = .ok (.aload_n 0, 1) := by decide +kernel
theorem dX5_count_134 : decode cX5_count 134 = .ok (.getfield 105, 3) := by decide +kernel
theorem dX5_count_137 : decode cX5_count 137 = .ok (.ireturn, 1) := by decide +kernel
theorem dX5_count_138 : decode cX5_count 138 = .ok (.iload_n 2, 1) := by decide +kernel
theorem dX5_count_139 : decode cX5_count 139 = .ok (.ireturn, 1) := by decide +kernel
theorem dX5_count_140 : decode cX5_count 140 = .ok (.bipush (-2), 2) := by decide +kernel
theorem dX5_count_142 : decode cX5_count 142 = .ok (.ireturn, 1) := by decide +kernel
end
section
theorem dL_law_0 : decode cL_law 0 = .ok (.new 7, 3) := by decide +kernel
theorem dL_law_3 : decode cL_law 3 = .ok (.dup, 1) := by decide +kernel
theorem dL_law_4 : decode cL_law 4 = .ok (.invokespecial 9, 3) := by decide +kernel
theorem dL_law_7 : decode cL_law 7 = .ok (.astore_n 1, 1) := by decide +kernel
theorem dL_law_8 : decode cL_law 8 = .ok (.new 10, 3) := by decide +kernel
theorem dL_law_11 : decode cL_law 11 = .ok (.dup, 1) := by decide +kernel
theorem dL_law_12 : decode cL_law 12 = .ok (.invokespecial 12, 3) := by decide +kernel
theorem dL_law_15 : decode cL_law 15 = .ok (.astore_n 2, 1) := by decide +kernel
theorem dL_law_16 : decode cL_law 16 = .ok (.iconst 0, 1) := by decide +kernel
theorem dL_law_17 : decode cL_law 17 = .ok (.istore_n 3, 1) := by decide +kernel
theorem dL_law_18 : decode cL_law 18 = .ok (.iload_n 3, 1) := by decide +kernel
theorem dL_law_19 : decode cL_law 19 = .ok (.aload_n 0, 1) := by decide +kernel
theorem dL_law_20 : decode cL_law 20 = .ok (.arraylength, 1) := by decide +kernel
theorem dL_law_21 : decode cL_law 21 = .ok (.iconst 4, 1) := by decide +kernel
theorem dL_law_22 : decode cL_law 22 = .ok (.isub, 1) := by decide +kernel
theorem dL_law_23 : decode cL_law 23 = .ok (.if_icmp .gt 875, 3) := by decide +kernel
theorem dL_law_26 : decode cL_law 26 = .ok (.aload_n 0, 1) := by decide +kernel
theorem dL_law_27 : decode cL_law 27 = .ok (.iload_n 3, 1) := by decide +kernel
theorem dL_law_28 : decode cL_law 28 = .ok (.iaload, 1) := by decide +kernel
theorem dL_law_29 : decode cL_law 29 = .ok (.bipush 31, 2) := by decide +kernel
theorem dL_law_31 : decode cL_law 31 = .ok (.iand, 1) := by decide +kernel
theorem dL_law_32 : decode cL_law 32 = .ok (.tableswitch 860 0 31 #[144, 207, 220, 233, 246, 269, 302, 335, 358, 391, 414, 447, 470, 483, 496, 529, 542, 565, 588, 611, 624, 637, 660, 673, 686, 709, 742, 755, 768, 791, 814, 837], 144) := by decide +kernel
theorem dL_law_176 : decode cL_law 176 = .ok (.aload_n 1, 1) := by decide +kernel
theorem dL_law_177 : decode cL_law 177 = .ok (.aload_n 0, 1) := by decide +kernel
theorem dL_law_178 : decode cL_law 178 = .ok (.iload_n 3, 1) := by decide +kernel
theorem dL_law_179 : decode cL_law 179 = .ok (.iconst 1, 1) := by decide +kernel
theorem dL_law_180 : decode cL_law 180 = .ok (.iadd, 1) := by decide +kernel
theorem dL_law_181 : decode cL_law 181 = .ok (.iaload, 1) := by decide +kernel
theorem dL_law_182 : decode cL_law 182 = .ok (.aload_n 0, 1) := by decide +kernel
theorem dL_law_183 : decode cL_law 183 = .ok (.iload_n 3, 1) := by decide +kernel
theorem dL_law_184 : decode cL_law 184 = .ok (.iconst 2, 1) := by decide +kernel
theorem dL_law_185 : decode cL_law 185 = .ok (.iadd, 1) := by decide +kernel
theorem dL_law_186 : decode cL_law 186 = .ok (.iaload, 1) := by decide +kernel
theorem dL_law_187 : decode cL_law 187 = .ok (.i2l, 1) := by decide +kernel
theorem dL_law_188 : decode cL_law 188 = .ok (.bipush 32, 2) := by decide +kernel
theorem dL_law_190 : decode cL_law 190 = .ok (.lshl, 1) := by decide +kernel
theorem dL_law_191 : decode cL_law 191 = .ok (.aload_n 0, 1) := by decide +kernel
theorem dL_law_192 : decode cL_law 192 = .ok (.iload_n 3, 1) := by decide +kernel
theorem dL_law_193 : decode cL_law 193 = .ok (.iconst 3, 1) := by decide +kernel
theorem dL_law_194 : decode cL_law 194 = .ok (.iadd, 1) := by decide +kernel
theorem dL_law_195 : decode cL_law 195 = .ok (.iaload, 1) := by decide +kernel
theorem dL_law_196 : decode cL_law 196 = .ok (.i2l, 1) := by decide +kernel
theorem dL_law_197 : decode cL_law 197 = .ok (.ldc2_w 13, 3) := by decide +kernel
theorem dL_law_200 : decode cL_law 200 = .ok (.land, 1) := by decide +kernel
theorem dL_law_201 : decode cL_law 201 = .ok (.lor, 1) := by decide +kernel
theorem dL_law_202 : decode cL_law 202 = .ok (.invokevirtual 15, 3) := by decide +kernel
theorem dL_law_205 : decode cL_law 205 = .ok (.aload_n 2, 1) := by decide +kernel
theorem dL_law_206 : decode cL_law 206 = .ok (.aload_n 0, 1) := by decide +kernel
theorem dL_law_207 : decode cL_law 207 = .ok (.iload_n 3, 1) := by decide +kernel
theorem dL_law_208 : decode cL_law 208 = .ok (.iconst 1, 1) := by decide +kernel
theorem dL_law_209 : decode cL_law 209 = .ok (.iadd, 1) := by decide +kernel
theorem dL_law_210 : decode cL_law 210 = .ok (.iaload, 1) := by decide +kernel
theorem dL_law_211 : decode cL_law 211 = .ok (.aload_n 0, 1) := by decide +kernel
theorem dL_law_212 : decode cL_law 212 = .ok (.iload_n 3, 1) := by decide +kernel
theorem dL_law_213 : decode cL_law 213 = .ok (.iconst 2, 1) := by decide +kernel
theorem dL_law_214 : decode cL_law 214 = .ok (.iadd, 1) := by decide +kernel
theorem dL_law_215 : decode cL_law 215 = .ok (.iaload, 1) := by decide +kernel
theorem dL_law_216 : decode cL_law 216 = .ok (.i2l, 1) := by decide +kernel
theorem dL_law_217 : decode cL_law 217 = .ok (.bipush 32, 2) := by decide +kernel
theorem dL_law_219 : decode cL_law 219 = .ok (.lshl, 1) := by decide +kernel
theorem dL_law_220 : decode cL_law 220 = .ok (.aload_n 0, 1) := by decide +kernel
theorem dL_law_221 : decode cL_law 221 = .ok (.iload_n 3, 1) := by decide +kernel
theorem dL_law_222 : decode cL_law 222 = .ok (.iconst 3, 1) := by decide +kernel
theorem dL_law_223 : decode cL_law 223 = .ok (.iadd, 1) := by decide +kernel
theorem dL_law_224 : decode cL_law 224 = .ok (.iaload, 1) := by decide +kernel
theorem dL_law_225 : decode cL_law 225 = .ok (.i2l, 1) := by decide +kernel
theorem dL_law_226 : decode cL_law 226 = .ok (.ldc2_w 13, 3) := by decide +kernel
theorem dL_law_229 : decode cL_law 229 = .ok (.land, 1) := by decide +kernel
theorem dL_law_230 : decode cL_law 230 = .ok (.lor, 1) := by decide +kernel
theorem dL_law_231 : decode cL_law 231 = .ok (.invokevirtual 19, 3) := by decide +kernel
theorem dL_law_234 : decode cL_law 234 = .ok (.if_icmp .eq 658, 3) := by decide +kernel
theorem dL_law_237 : decode cL_law 237 = .ok (.iconst 0, 1) := by decide +kernel
theorem dL_law_238 : decode cL_law 238 = .ok (.ireturn, 1) := by decide +kernel
theorem dL_law_239 : decode cL_law 239 = .ok (.aload_n 1, 1) := by decide +kernel
theorem dL_law_240 : decode cL_law 240 = .ok (.invokevirtual 20, 3) := by decide +kernel
theorem dL_law_243 : decode cL_law 243 = .ok (.aload_n 2, 1) := by decide +kernel
theorem dL_law_244 : decode cL_law 244 = .ok (.invokevirtual 24, 3) := by decide +kernel
theorem dL_law_247 : decode cL_law 247 = .ok (.if_icmp .eq 645, 3) := by decide +kernel
theorem dL_law_250 : decode cL_law 250 = .ok (.iconst 0, 1) := by decide +kernel
theorem dL_law_251 : decode cL_law 251 = .ok (.ireturn, 1) := by decide +kernel
theorem dL_law_252 : decode cL_law 252 = .ok (.aload_n 1, 1) := by decide +kernel
theorem dL_law_253 : decode cL_law 253 = .ok (.invokevirtual 25, 3) := by decide +kernel
theorem dL_law_256 : decode cL_law 256 = .ok (.aload_n 2, 1) := by decide +kernel
theorem dL_law_257 : decode cL_law 257 = .ok (.invokevirtual 28, 3) := by decide +kernel
theorem dL_law_260 : decode cL_law 260 = .ok (.if_icmp .eq 632, 3) := by decide +kernel
theorem dL_law_263 : decode cL_law 263 = .ok (.iconst 0, 1) := by decide +kernel
theorem dL_law_264 : decode cL_law 264 = .ok (.ireturn, 1) := by decide +kernel
theorem dL_law_265 : decode cL_law 265 = .ok (.aload_n 1, 1) := by decide +kernel
theorem dL_law_266 : decode cL_law 266 = .ok (.invokevirtual 29, 3) := by decide +kernel
theorem dL_law_269 : decode cL_law 269 = .ok (.aload_n 2, 1) := by decide +kernel
theorem dL_law_270 : decode cL_law 270 = .ok (.invokevirtual 32, 3) := by decide +kernel
theorem dL_law_273 : decode cL_law 273 = .ok (.if_icmp .eq 619, 3) := by decide +kernel
theorem dL_law_276 : decode cL_law 276 = .ok (.iconst 0, 1) := by decide +kernel
theorem dL_law_277 : decode cL_law 277 = .ok (.ireturn, 1) := by decide +kernel
theorem dL_law_278 : decode cL_law 278 = .ok (.aload_n 1, 1) := by decide +kernel
theorem dL_law_279 : decode cL_law 279 = .ok (.aload_n 0, 1) := by decide +kernel
theorem dL_law_280 : decode cL_law 280 = .ok (.iload_n 3, 1) := by decide +kernel
theorem dL_law_281 : decode cL_law 281 = .ok (.iconst 1, 1) := by decide +kernel
theorem dL_law_282 : decode cL_law 282 = .ok (.iadd, 1) := by decide +kernel
theorem dL_law_283 : decode cL_law 283 = .ok (.iaload, 1) := by decide +kernel
theorem dL_law_284 : decode cL_law 284 = .ok (.invokevirtual 33, 3) := by decide +kernel
theorem dL_law_287 : decode cL_law 287 = .ok (.aload_n 2, 1) := by decide +kernel
theorem dL_law_288 : decode cL_law 288 = .ok (.aload_n 0, 1) := by decide +kernel
theorem dL_law_289 : decode cL_law 289 = .ok (.iload_n 3, 1) := by decide +kernel
theorem dL_law_290 : decode cL_law 290 = .ok (.iconst 1, 1) := by decide +kernel
theorem dL_law_291 : decode cL_law 291 = .ok (.iadd, 1) := by decide +kernel
theorem dL_law_292 : decode cL_law 292 = .ok (.iaload, 1) := by decide +kernel
theorem dL_law_293 : decode cL_law 293 = .ok (.invokevirtual 37, 3) := by decide +kernel
theorem dL_law_296 : decode cL_law 296 = .ok (.if_icmp .eq 596, 3) := by decide +kernel
theorem dL_law_299 : decode cL_law 299 = .ok (.iconst 0, 1) := by decide +kernel
theorem dL_law_300 : decode cL_law 300 = .ok (.ireturn, 1) := by decide +kernel
theorem dL_law_301 : decode cL_law 301 = .ok (.aload_n 1, 1) := by decide +kernel
theorem dL_law_302 : decode cL_law 302 = .ok (.aload_n 0, 1) := by decide +kernel
theorem dL_law_303 : decode cL_law 303 = .ok (.iload_n 3, 1) := by decide +kernel
theorem dL_law_304 : decode cL_law 304 = .ok (.iconst 1, 1) := by decide +kernel
theorem dL_law_305 : decode cL_law 305 = .ok (.iadd, 1) := by decide +kernel
theorem dL_law_306 : decode cL_law 306 = .ok (.iaload, 1) := by decide +kernel
theorem dL_law_307 : decode cL_law 307 = .ok (.aload_n 0, 1) := by decide +kernel
theorem dL_law_308 : decode cL_law 308 = .ok (.iload_n 3, 1) := by decide +kernel
theorem dL_law_309 : decode cL_law 309 = .ok (.iconst 2, 1) := by decide +kernel
theorem dL_law_310 : decode cL_law 310 = .ok (.iadd, 1) := by decide +kernel
theorem dL_law_311 : decode cL_law 311 = .ok (.iaload, 1) := by decide +kernel
theorem dL_law_312 : decode cL_law 312 = .ok (.invokevirtual 38, 3) := by decide +kernel
theorem dL_law_315 : decode cL_law 315 = .ok (.aload_n 2, 1) := by decide +kernel
theorem dL_law_316 : decode cL_law 316 = .ok (.aload_n 0, 1) := by decide +kernel
theorem dL_law_317 : decode cL_law 317 = .ok (.iload_n 3, 1) := by decide +kernel
theorem dL_law_318 : decode cL_law 318 = .ok (.iconst 1, 1) := by decide +kernel
theorem dL_law_319 : decode cL_law 319 = .ok (.iadd, 1) := by decide +kernel
theorem dL_law_320 : decode cL_law 320 = .ok (.iaload, 1) := by decide +kernel
theorem dL_law_321 : decode cL_law 321 = .ok (.aload_n 0, 1) := by decide +kernel
theorem dL_law_322 : decode cL_law 322 = .ok (.iload_n 3, 1) := by decide +kernel
theorem dL_law_323 : decode cL_law 323 = .ok (.iconst 2, 1) := by decide +kernel
theorem dL_law_324 : decode cL_law 324 = .ok (.iadd, 1) := by decide +kernel
theorem dL_law_325 : decode cL_law 325 = .ok (.iaload, 1) := by decide +kernel
theorem dL_law_326 : decode cL_law 326 = .ok (.invokevirtual 42, 3) := by decide +kernel
theorem dL_law_329 : decode cL_law 329 = .ok (.if_icmp .eq 563, 3) := by decide +kernel
theorem dL_law_332 : decode cL_law 332 = .ok (.iconst 0, 1) := by decide +kernel
theorem dL_law_333 : decode cL_law 333 = .ok (.ireturn, 1) := by decide +kernel
theorem dL_law_334 : decode cL_law 334 = .ok (.aload_n 1, 1) := by decide +kernel
theorem dL_law_335 : decode cL_law 335 = .ok (.aload_n 0, 1) := by decide +kernel
theorem dL_law_336 : decode cL_law 336 = .ok (.iload_n 3, 1) := by decide +kernel
theorem dL_law_337 : decode cL_law 337 = .ok (.iconst 1, 1) := by decide +kernel
theorem dL_law_338 : decode cL_law 338 = .ok (.iadd, 1) := by decide +kernel
theorem dL_law_339 : decode cL_law 339 = .ok (.iaload, 1) := by decide +kernel
theorem dL_law_340 : decode cL_law 340 = .ok (.aload_n 0, 1) := by decide +kernel
theorem dL_law_341 : decode cL_law 341 = .ok (.iload_n 3, 1) := by decide +kernel
theorem dL_law_342 : decode cL_law 342 = .ok (.iconst 2, 1) := by decide +kernel
theorem dL_law_343 : decode cL_law 343 = .ok (.iadd, 1) := by decide +kernel
theorem dL_law_344 : decode cL_law 344 = .ok (.iaload, 1) := by decide +kernel
theorem dL_law_345 : decode cL_law 345 = .ok (.invokevirtual 43, 3) := by decide +kernel
theorem dL_law_348 : decode cL_law 348 = .ok (.aload_n 2, 1) := by decide +kernel
theorem dL_law_349 : decode cL_law 349 = .ok (.aload_n 0, 1) := by decide +kernel
theorem dL_law_350 : decode cL_law 350 = .ok (.iload_n 3, 1) := by decide +kernel
theorem dL_law_351 : decode cL_law 351 = .ok (.iconst 1, 1) := by decide +kernel
theorem dL_law_352 : decode cL_law 352 = .ok (.iadd, 1) := by decide +kernel
theorem dL_law_353 : decode cL_law 353 = .ok (.iaload, 1) := by decide +kernel
theorem dL_law_354 : decode cL_law 354 = .ok (.aload_n 0, 1) := by decide +kernel
theorem dL_law_355 : decode cL_law 355 = .ok (.iload_n 3, 1) := by decide +kernel
theorem dL_law_356 : decode cL_law 356 = .ok (.iconst 2, 1) := by decide +kernel
theorem dL_law_357 : decode cL_law 357 = .ok (.iadd, 1) := by decide +kernel
theorem dL_law_358 : decode cL_law 358 = .ok (.iaload, 1) := by decide +kernel
theorem dL_law_359 : decode cL_law 359 = .ok (.invokevirtual 46, 3) := by decide +kernel
theorem dL_law_362 : decode cL_law 362 = .ok (.if_icmp .eq 530, 3) := by decide +kernel
theorem dL_law_365 : decode cL_law 365 = .ok (.iconst 0, 1) := by decide +kernel
theorem dL_law_366 : decode cL_law 366 = .ok (.ireturn, 1) := by decide +kernel
theorem dL_law_367 : decode cL_law 367 = .ok (.aload_n 1, 1) := by decide +kernel
theorem dL_law_368 : decode cL_law 368 = .ok (.aload_n 0, 1) := by decide +kernel
theorem dL_law_369 : decode cL_law 369 = .ok (.iload_n 3, 1) := by decide +kernel
theorem dL_law_370 : decode cL_law 370 = .ok (.iconst 1, 1) := by decide +kernel
theorem dL_law_371 : decode cL_law 371 = .ok (.iadd, 1) := by decide +kernel
theorem dL_law_372 : decode cL_law 372 = .ok (.iaload, 1) := by decide +kernel
theorem dL_law_373 : decode cL_law 373 = .ok (.invokevirtual 47, 3) := by decide +kernel
theorem dL_law_376 : decode cL_law 376 = .ok (.aload_n 2, 1) := by decide +kernel
theorem dL_law_377 : decode cL_law 377 = .ok (.aload_n 0, 1) := by decide +kernel
theorem dL_law_378 : decode cL_law 378 = .ok (.iload_n 3, 1) := by decide +kernel
theorem dL_law_379 : decode cL_law 379 = .ok (.iconst 1, 1) := by decide +kernel
theorem dL_law_380 : decode cL_law 380 = .ok (.iadd, 1) := by decide +kernel
theorem dL_law_381 : decode cL_law 381 = .ok (.iaload, 1) := by decide +kernel
theorem dL_law_382 : decode cL_law 382 = .ok (.invokevirtual 50, 3) := by decide +kernel
theorem dL_law_385 : decode cL_law 385 = .ok (.if_icmp .eq 507, 3) := by decide +kernel
theorem dL_law_388 : decode cL_law 388 = .ok (.iconst 0, 1) := by decide +kernel
theorem dL_law_389 : decode cL_law 389 = .ok (.ireturn, 1) := by decide +kernel
theorem dL_law_390 : decode cL_law 390 = .ok (.aload_n 1, 1) := by decide +kernel
theorem dL_law_391 : decode cL_law 391 = .ok (.aload_n 0, 1) := by decide +kernel
theorem dL_law_392 : decode cL_law 392 = .ok (.iload_n 3, 1) := by decide +kernel
theorem dL_law_393 : decode cL_law 393 = .ok (.iconst 1, 1) := by decide +kernel
theorem dL_law_394 : decode cL_law 394 = .ok (.iadd, 1) := by decide +kernel
theorem dL_law_395 : decode cL_law 395 = .ok (.iaload, 1) := by decide +kernel
theorem dL_law_396 : decode cL_law 396 = .ok (.aload_n 0, 1) := by decide +kernel
theorem dL_law_397 : decode cL_law 397 = .ok (.iload_n 3, 1) := by decide +kernel
theorem dL_law_398 : decode cL_law 398 = .ok (.iconst 2, 1) := by decide +kernel
theorem dL_law_399 : decode cL_law 399 = .ok (.iadd, 1) := by decide +kernel
theorem dL_law_400 : decode cL_law 400 = .ok (.iaload, 1) := by decide +kernel
theorem dL_law_401 : decode cL_law 401 = .ok (.invokevirtual 51, 3) := by decide +kernel
theorem dL_law_404 : decode cL_law 404 = .ok (.aload_n 2, 1) := by decide +kernel
theorem dL_law_405 : decode cL_law 405 = .ok (.aload_n 0, 1) := by decide +kernel
theorem dL_law_406 : decode cL_law 406 = .ok (.iload_n 3, 1) := by decide +kernel
theorem dL_law_407 : decode cL_law 407 = .ok (.iconst 1, 1) := by decide +kernel
theorem dL_law_408 : decode cL_law 408 = .ok (.iadd, 1) := by decide +kernel
theorem dL_law_409 : decode cL_law 409 = .ok (.iaload, 1) := by decide +kernel
theorem dL_law_410 : decode cL_law 410 = .ok (.aload_n 0, 1) := by decide +kernel
theorem dL_law_411 : decode cL_law 411 = .ok (.iload_n 3, 1) := by decide +kernel
theorem dL_law_412 : decode cL_law 412 = .ok (.iconst 2, 1) := by decide +kernel
theorem dL_law_413 : decode cL_law 413 = .ok (.iadd, 1) := by decide +kernel
theorem dL_law_414 : decode cL_law 414 = .ok (.iaload, 1) := by decide +kernel
theorem dL_law_415 : decode cL_law 415 = .ok (.invokevirtual 54, 3) := by decide +kernel
theorem dL_law_418 : decode cL_law 418 = .ok (.if_icmp .eq 474, 3) := by decide +kernel
theorem dL_law_421 : decode cL_law 421 = .ok (.iconst 0, 1) := by decide +kernel
theorem dL_law_422 : decode cL_law 422 = .ok (.ireturn, 1) := by decide +kernel
theorem dL_law_423 : decode cL_law 423 = .ok (.aload_n 1, 1) := by decide +kernel
theorem dL_law_424 : decode cL_law 424 = .ok (.aload_n 0, 1) := by decide +kernel
theorem dL_law_425 : decode cL_law 425 = .ok (.iload_n 3, 1) := by decide +kernel
theorem dL_law_426 : decode cL_law 426 = .ok (.iconst 1, 1) := by decide +kernel
theorem dL_law_427 : decode cL_law 427 = .ok (.iadd, 1) := by decide +kernel
theorem dL_law_428 : decode cL_law 428 = .ok (.iaload, 1) := by decide +kernel
theorem dL_law_429 : decode cL_law 429 = .ok (.invokevirtual 55, 3) := by decide +kernel
theorem dL_law_432 : decode cL_law 432 = .ok (.aload_n 2, 1) := by decide +kernel
theorem dL_law_433 : decode cL_law 433 = .ok (.aload_n 0, 1) := by decide +kernel
theorem dL_law_434 : decode cL_law 434 = .ok (.iload_n 3, 1) := by decide +kernel
theorem dL_law_435 : decode cL_law 435 = .ok (.iconst 1, 1) := by decide +kernel
theorem dL_law_436 : decode cL_law 436 = .ok (.iadd, 1) := by decide +kernel
theorem dL_law_437 : decode cL_law 437 = .ok (.iaload, 1) := by decide +kernel
theorem dL_law_438 : decode cL_law 438 = .ok (.invokevirtual 58, 3) := by decide +kernel
theorem dL_law_441 : decode cL_law 441 = .ok (.if_icmp .eq 451, 3) := by decide +kernel
theorem dL_law_444 : decode cL_law 444 = .ok (.iconst 0, 1) := by decide +kernel
theorem dL_law_445 : decode cL_law 445 = .ok (.ireturn, 1) := by decide +kernel
theorem dL_law_446 : decode cL_law 446 = .ok (.aload_n 1, 1) := by decide +kernel
theorem dL_law_447 : decode cL_law 447 = .ok (.aload_n 0, 1) := by decide +kernel
theorem dL_law_448 : decode cL_law 448 = .ok (.iload_n 3, 1) := by decide +kernel
theorem dL_law_449 : decode cL_law 449 = .ok (.iconst 1, 1) := by decide +kernel
theorem dL_law_450 : decode cL_law 450 = .ok (.iadd, 1) := by decide +kernel
theorem dL_law_451 : decode cL_law 451 = .ok (.iaload, 1) := by decide +kernel
theorem dL_law_452 : decode cL_law 452 = .ok (.aload_n 0, 1) := by decide +kernel
theorem dL_law_453 : decode cL_law 453 = .ok (.iload_n 3, 1) := by decide +kernel
theorem dL_law_454 : decode cL_law 454 = .ok (.iconst 2, 1) := by decide +kernel
theorem dL_law_455 : decode cL_law 455 = .ok (.iadd, 1) := by decide +kernel
theorem dL_law_456 : decode cL_law 456 = .ok (.iaload, 1) := by decide +kernel
theorem dL_law_457 : decode cL_law 457 = .ok (.invokevirtual 59, 3) := by decide +kernel
theorem dL_law_460 : decode cL_law 460 = .ok (.aload_n 2, 1) := by decide +kernel
theorem dL_law_461 : decode cL_law 461 = .ok (.aload_n 0, 1) := by decide +kernel
theorem dL_law_462 : decode cL_law 462 = .ok (.iload_n 3, 1) := by decide +kernel
theorem dL_law_463 : decode cL_law 463 = .ok (.iconst 1, 1) := by decide +kernel
theorem dL_law_464 : decode cL_law 464 = .ok (.iadd, 1) := by decide +kernel
theorem dL_law_465 : decode cL_law 465 = .ok (.iaload, 1) := by decide +kernel
theorem dL_law_466 : decode cL_law 466 = .ok (.aload_n 0, 1) := by decide +kernel
theorem dL_law_467 : decode cL_law 467 = .ok (.iload_n 3, 1) := by decide +kernel
theorem dL_law_468 : decode cL_law 468 = .ok (.iconst 2, 1) := by decide +kernel
theorem dL_law_469 : decode cL_law 469 = .ok (.iadd, 1) := by decide +kernel
theorem dL_law_470 : decode cL_law 470 = .ok (.iaload, 1) := by decide +kernel
theorem dL_law_471 : decode cL_law 471 = .ok (.invokevirtual 62, 3) := by decide +kernel
theorem dL_law_474 : decode cL_law 474 = .ok (.if_icmp .eq 418, 3) := by decide +kernel
theorem dL_law_477 : decode cL_law 477 = .ok (.iconst 0, 1) := by decide +kernel
theorem dL_law_478 : decode cL_law 478 = .ok (.ireturn, 1) := by decide +kernel
theorem dL_law_479 : decode cL_law 479 = .ok (.aload_n 1, 1) := by decide +kernel
theorem dL_law_480 : decode cL_law 480 = .ok (.aload_n 0, 1) := by decide +kernel
theorem dL_law_481 : decode cL_law 481 = .ok (.iload_n 3, 1) := by decide +kernel
theorem dL_law_482 : decode cL_law 482 = .ok (.iconst 1, 1) := by decide +kernel
theorem dL_law_483 : decode cL_law 483 = .ok (.iadd, 1) := by decide +kernel
theorem dL_law_484 : decode cL_law 484 = .ok (.iaload, 1) := by decide +kernel
theorem dL_law_485 : decode cL_law 485 = .ok (.invokevirtual 63, 3) := by decide +kernel
theorem dL_law_488 : decode cL_law 488 = .ok (.aload_n 2, 1) := by decide +kernel
theorem dL_law_489 : decode cL_law 489 = .ok (.aload_n 0, 1) := by decide +kernel
theorem dL_law_490 : decode cL_law 490 = .ok (.iload_n 3, 1) := by decide +kernel
theorem dL_law_491 : decode cL_law 491 = .ok (.iconst 1, 1) := by decide +kernel
theorem dL_law_492 : decode cL_law 492 = .ok (.iadd, 1) := by decide +kernel
theorem dL_law_493 : decode cL_law 493 = .ok (.iaload, 1) := by decide +kernel
theorem dL_law_494 : decode cL_law 494 = .ok (.invokevirtual 66, 3) := by decide +kernel
theorem dL_law_497 : decode cL_law 497 = .ok (.if_icmp .eq 395, 3) := by decide +kernel
theorem dL_law_500 : decode cL_law 500 = .ok (.iconst 0, 1) := by decide +kernel
theorem dL_law_501 : decode cL_law 501 = .ok (.ireturn, 1) := by decide +kernel
theorem dL_law_502 : decode cL_law 502 = .ok (.aload_n 1, 1) := by decide +kernel
theorem dL_law_503 : decode cL_law 503 = .ok (.invokevirtual 67, 3) := by decide +kernel
theorem dL_law_506 : decode cL_law 506 = .ok (.aload_n 2, 1) := by decide +kernel
theorem dL_law_507 : decode cL_law 507 = .ok (.invokevirtual 70, 3) := by decide +kernel
theorem dL_law_510 : decode cL_law 510 = .ok (.if_icmp .eq 382, 3) := by decide +kernel
theorem dL_law_513 : decode cL_law 513 = .ok (.iconst 0, 1) := by decide +kernel
theorem dL_law_514 : decode cL_law 514 = .ok (.ireturn, 1) := by decide +kernel
theorem dL_law_515 : decode cL_law 515 = .ok (.aload_n 1, 1) := by decide +kernel
theorem dL_law_516 : decode cL_law 516 = .ok (.invokevirtual 71, 3) := by decide +kernel
theorem dL_law_519 : decode cL_law 519 = .ok (.aload_n 2, 1) := by decide +kernel
theorem dL_law_520 : decode cL_law 520 = .ok (.invokevirtual 74, 3) := by decide +kernel
theorem dL_law_523 : decode cL_law 523 = .ok (.if_icmp .eq 369, 3) := by decide +kernel
theorem dL_law_526 : decode cL_law 526 = .ok (.iconst 0, 1) := by decide +kernel
theorem dL_law_527 : decode cL_law 527 = .ok (.ireturn, 1) := by decide +kernel
theorem dL_law_528 : decode cL_law 528 = .ok (.aload_n 1, 1) := by decide +kernel
theorem dL_law_529 : decode cL_law 529 = .ok (.aload_n 0, 1) := by decide +kernel
theorem dL_law_530 : decode cL_law 530 = .ok (.iload_n 3, 1) := by decide +kernel
theorem dL_law_531 : decode cL_law 531 = .ok (.iconst 1, 1) := by decide +kernel
theorem dL_law_532 : decode cL_law 532 = .ok (.iadd, 1) := by decide +kernel
theorem dL_law_533 : decode cL_law 533 = .ok (.iaload, 1) := by decide +kernel
theorem dL_law_534 : decode cL_law 534 = .ok (.aload_n 0, 1) := by decide +kernel
theorem dL_law_535 : decode cL_law 535 = .ok (.iload_n 3, 1) := by decide +kernel
theorem dL_law_536 : decode cL_law 536 = .ok (.iconst 2, 1) := by decide +kernel
theorem dL_law_537 : decode cL_law 537 = .ok (.iadd, 1) := by decide +kernel
theorem dL_law_538 : decode cL_law 538 = .ok (.iaload, 1) := by decide +kernel
theorem dL_law_539 : decode cL_law 539 = .ok (.invokevirtual 75, 3) := by decide +kernel
theorem dL_law_542 : decode cL_law 542 = .ok (.aload_n 2, 1) := by decide +kernel
theorem dL_law_543 : decode cL_law 543 = .ok (.aload_n 0, 1) := by decide +kernel
theorem dL_law_544 : decode cL_law 544 = .ok (.iload_n 3, 1) := by decide +kernel
theorem dL_law_545 : decode cL_law 545 = .ok (.iconst 1, 1) := by decide +kernel
theorem dL_law_546 : decode cL_law 546 = .ok (.iadd, 1) := by decide +kernel
theorem dL_law_547 : decode cL_law 547 = .ok (.iaload, 1) := by decide +kernel
theorem dL_law_548 : decode cL_law 548 = .ok (.aload_n 0, 1) := by decide +kernel
theorem dL_law_549 : decode cL_law 549 = .ok (.iload_n 3, 1) := by decide +kernel
theorem dL_law_550 : decode cL_law 550 = .ok (.iconst 2, 1) := by decide +kernel
theorem dL_law_551 : decode cL_law 551 = .ok (.iadd, 1) := by decide +kernel
theorem dL_law_552 : decode cL_law 552 = .ok (.iaload, 1) := by decide +kernel
theorem dL_law_553 : decode cL_law 553 = .ok (.invokevirtual 78, 3) := by decide +kernel
theorem dL_law_556 : decode cL_law 556 = .ok (.if_icmp .eq 336, 3) := by decide +kernel
theorem dL_law_559 : decode cL_law 559 = .ok (.iconst 0, 1) := by decide +kernel
theorem dL_law_560 : decode cL_law 560 = .ok (.ireturn, 1) := by decide +kernel
theorem dL_law_561 : decode cL_law 561 = .ok (.aload_n 1, 1) := by decide +kernel
theorem dL_law_562 : decode cL_law 562 = .ok (.invokevirtual 79, 3) := by decide +kernel
theorem dL_law_565 : decode cL_law 565 = .ok (.aload_n 2, 1) := by decide +kernel
theorem dL_law_566 : decode cL_law 566 = .ok (.invokevirtual 82, 3) := by decide +kernel
theorem dL_law_569 : decode cL_law 569 = .ok (.if_icmp .eq 323, 3) := by decide +kernel
theorem dL_law_572 : decode cL_law 572 = .ok (.iconst 0, 1) := by decide +kernel
theorem dL_law_573 : decode cL_law 573 = .ok (.ireturn, 1) := by decide +kernel
theorem dL_law_574 : decode cL_law 574 = .ok (.aload_n 1, 1) := by decide +kernel
theorem dL_law_575 : decode cL_law 575 = .ok (.aload_n 0, 1) := by decide +kernel
theorem dL_law_576 : decode cL_law 576 = .ok (.iload_n 3, 1) := by decide +kernel
theorem dL_law_577 : decode cL_law 577 = .ok (.iconst 1, 1) := by decide +kernel
theorem dL_law_578 : decode cL_law 578 = .ok (.iadd, 1) := by decide +kernel
theorem dL_law_579 : decode cL_law 579 = .ok (.iaload, 1) := by decide +kernel
theorem dL_law_580 : decode cL_law 580 = .ok (.invokevirtual 83, 3) := by decide +kernel
theorem dL_law_583 : decode cL_law 583 = .ok (.aload_n 2, 1) := by decide +kernel
theorem dL_law_584 : decode cL_law 584 = .ok (.aload_n 0, 1) := by decide +kernel
theorem dL_law_585 : decode cL_law 585 = .ok (.iload_n 3, 1) := by decide +kernel
theorem dL_law_586 : decode cL_law 586 = .ok (.iconst 1, 1) := by decide +kernel
theorem dL_law_587 : decode cL_law 587 = .ok (.iadd, 1) := by decide +kernel
theorem dL_law_588 : decode cL_law 588 = .ok (.iaload, 1) := by decide +kernel
theorem dL_law_589 : decode cL_law 589 = .ok (.invokevirtual 86, 3) := by decide +kernel
theorem dL_law_592 : decode cL_law 592 = .ok (.if_icmp .eq 300, 3) := by decide +kernel
theorem dL_law_595 : decode cL_law 595 = .ok (.iconst 0, 1) := by decide +kernel
theorem dL_law_596 : decode cL_law 596 = .ok (.ireturn, 1) := by decide +kernel
theorem dL_law_597 : decode cL_law 597 = .ok (.aload_n 1, 1) := by decide +kernel
theorem dL_law_598 : decode cL_law 598 = .ok (.aload_n 0, 1) := by decide +kernel
theorem dL_law_599 : decode cL_law 599 = .ok (.iload_n 3, 1) := by decide +kernel
theorem dL_law_600 : decode cL_law 600 = .ok (.iconst 1, 1) := by decide +kernel
theorem dL_law_601 : decode cL_law 601 = .ok (.iadd, 1) := by decide +kernel
theorem dL_law_602 : decode cL_law 602 = .ok (.iaload, 1) := by decide +kernel
theorem dL_law_603 : decode cL_law 603 = .ok (.invokevirtual 87, 3) := by decide +kernel
theorem dL_law_606 : decode cL_law 606 = .ok (.aload_n 2, 1) := by decide +kernel
theorem dL_law_607 : decode cL_law 607 = .ok (.aload_n 0, 1) := by decide +kernel
theorem dL_law_608 : decode cL_law 608 = .ok (.iload_n 3, 1) := by decide +kernel
theorem dL_law_609 : decode cL_law 609 = .ok (.iconst 1, 1) := by decide +kernel
theorem dL_law_610 : decode cL_law 610 = .ok (.iadd, 1) := by decide +kernel
theorem dL_law_611 : decode cL_law 611 = .ok (.iaload, 1) := by decide +kernel
theorem dL_law_612 : decode cL_law 612 = .ok (.invokevirtual 90, 3) := by decide +kernel
theorem dL_law_615 : decode cL_law 615 = .ok (.if_icmp .eq 277, 3) := by decide +kernel
theorem dL_law_618 : decode cL_law 618 = .ok (.iconst 0, 1) := by decide +kernel
theorem dL_law_619 : decode cL_law 619 = .ok (.ireturn, 1) := by decide +kernel
theorem dL_law_620 : decode cL_law 620 = .ok (.aload_n 1, 1) := by decide +kernel
theorem dL_law_621 : decode cL_law 621 = .ok (.aload_n 0, 1) := by decide +kernel
theorem dL_law_622 : decode cL_law 622 = .ok (.iload_n 3, 1) := by decide +kernel
theorem dL_law_623 : decode cL_law 623 = .ok (.iconst 1, 1) := by decide +kernel
theorem dL_law_624 : decode cL_law 624 = .ok (.iadd, 1) := by decide +kernel
theorem dL_law_625 : decode cL_law 625 = .ok (.iaload, 1) := by decide +kernel
theorem dL_law_626 : decode cL_law 626 = .ok (.invokevirtual 91, 3) := by decide +kernel
theorem dL_law_629 : decode cL_law 629 = .ok (.aload_n 2, 1) := by decide +kernel
theorem dL_law_630 : decode cL_law 630 = .ok (.aload_n 0, 1) := by decide +kernel
theorem dL_law_631 : decode cL_law 631 = .ok (.iload_n 3, 1) := by decide +kernel
theorem dL_law_632 : decode cL_law 632 = .ok (.iconst 1, 1) := by decide +kernel
theorem dL_law_633 : decode cL_law 633 = .ok (.iadd, 1) := by decide +kernel
theorem dL_law_634 : decode cL_law 634 = .ok (.iaload, 1) := by decide +kernel
theorem dL_law_635 : decode cL_law 635 = .ok (.invokevirtual 94, 3) := by decide +kernel
theorem dL_law_638 : decode cL_law 638 = .ok (.if_icmp .eq 254, 3) := by decide +kernel
theorem dL_law_641 : decode cL_law 641 = .ok (.iconst 0, 1) := by decide +kernel
theorem dL_law_642 : decode cL_law 642 = .ok (.ireturn, 1) := by decide +kernel
theorem dL_law_643 : decode cL_law 643 = .ok (.aload_n 1, 1) := by decide +kernel
theorem dL_law_644 : decode cL_law 644 = .ok (.invokevirtual 95, 3) := by decide +kernel
theorem dL_law_647 : decode cL_law 647 = .ok (.aload_n 2, 1) := by decide +kernel
theorem dL_law_648 : decode cL_law 648 = .ok (.invokevirtual 98, 3) := by decide +kernel
theorem dL_law_651 : decode cL_law 651 = .ok (.if_icmp .eq 241, 3) := by decide +kernel
theorem dL_law_654 : decode cL_law 654 = .ok (.iconst 0, 1) := by decide +kernel
theorem dL_law_655 : decode cL_law 655 = .ok (.ireturn, 1) := by decide +kernel
theorem dL_law_656 : decode cL_law 656 = .ok (.aload_n 1, 1) := by decide +kernel
theorem dL_law_657 : decode cL_law 657 = .ok (.invokevirtual 99, 3) := by decide +kernel
theorem dL_law_660 : decode cL_law 660 = .ok (.aload_n 2, 1) := by decide +kernel
theorem dL_law_661 : decode cL_law 661 = .ok (.invokevirtual 102, 3) := by decide +kernel
theorem dL_law_664 : decode cL_law 664 = .ok (.if_icmp .eq 228, 3) := by decide +kernel
theorem dL_law_667 : decode cL_law 667 = .ok (.iconst 0, 1) := by decide +kernel
theorem dL_law_668 : decode cL_law 668 = .ok (.ireturn, 1) := by decide +kernel
theorem dL_law_669 : decode cL_law 669 = .ok (.aload_n 1, 1) := by decide +kernel
theorem dL_law_670 : decode cL_law 670 = .ok (.aload_n 0, 1) := by decide +kernel
theorem dL_law_671 : decode cL_law 671 = .ok (.iload_n 3, 1) := by decide +kernel
theorem dL_law_672 : decode cL_law 672 = .ok (.iconst 1, 1) := by decide +kernel
theorem dL_law_673 : decode cL_law 673 = .ok (.iadd, 1) := by decide +kernel
theorem dL_law_674 : decode cL_law 674 = .ok (.iaload, 1) := by decide +kernel
theorem dL_law_675 : decode cL_law 675 = .ok (.invokevirtual 103, 3) := by decide +kernel
theorem dL_law_678 : decode cL_law 678 = .ok (.aload_n 2, 1) := by decide +kernel
theorem dL_law_679 : decode cL_law 679 = .ok (.aload_n 0, 1) := by decide +kernel
theorem dL_law_680 : decode cL_law 680 = .ok (.iload_n 3, 1) := by decide +kernel
theorem dL_law_681 : decode cL_law 681 = .ok (.iconst 1, 1) := by decide +kernel
theorem dL_law_682 : decode cL_law 682 = .ok (.iadd, 1) := by decide +kernel
theorem dL_law_683 : decode cL_law 683 = .ok (.iaload, 1) := by decide +kernel
theorem dL_law_684 : decode cL_law 684 = .ok (.invokevirtual 106, 3) := by decide +kernel
theorem dL_law_687 : decode cL_law 687 = .ok (.if_icmp .eq 205, 3) := by decide +kernel
theorem dL_law_690 : decode cL_law 690 = .ok (.iconst 0, 1) := by decide +kernel
theorem dL_law_691 : decode cL_law 691 = .ok (.ireturn, 1) := by decide +kernel
theorem dL_law_692 : decode cL_law 692 = .ok (.aload_n 1, 1) := by decide +kernel
theorem dL_law_693 : decode cL_law 693 = .ok (.invokevirtual 107, 3) := by decide +kernel
theorem dL_law_696 : decode cL_law 696 = .ok (.aload_n 2, 1) := by decide +kernel
theorem dL_law_697 : decode cL_law 697 = .ok (.invokevirtual 110, 3) := by decide +kernel
theorem dL_law_700 : decode cL_law 700 = .ok (.if_icmp .eq 192, 3) := by decide +kernel
theorem dL_law_703 : decode cL_law 703 = .ok (.iconst 0, 1) := by decide +kernel
theorem dL_law_704 : decode cL_law 704 = .ok (.ireturn, 1) := by decide +kernel
theorem dL_law_705 : decode cL_law 705 = .ok (.aload_n 1, 1) := by decide +kernel
theorem dL_law_706 : decode cL_law 706 = .ok (.invokevirtual 111, 3) := by decide +kernel
theorem dL_law_709 : decode cL_law 709 = .ok (.aload_n 2, 1) := by decide +kernel
theorem dL_law_710 : decode cL_law 710 = .ok (.invokevirtual 114, 3) := by decide +kernel
theorem dL_law_713 : decode cL_law 713 = .ok (.if_icmp .eq 179, 3) := by decide +kernel
theorem dL_law_716 : decode cL_law 716 = .ok (.iconst 0, 1) := by decide +kernel
theorem dL_law_717 : decode cL_law 717 = .ok (.ireturn, 1) := by decide +kernel
theorem dL_law_718 : decode cL_law 718 = .ok (.aload_n 1, 1) := by decide +kernel
theorem dL_law_719 : decode cL_law 719 = .ok (.aload_n 0, 1) := by decide +kernel
theorem dL_law_720 : decode cL_law 720 = .ok (.iload_n 3, 1) := by decide +kernel
theorem dL_law_721 : decode cL_law 721 = .ok (.iconst 1, 1) := by decide +kernel
theorem dL_law_722 : decode cL_law 722 = .ok (.iadd, 1) := by decide +kernel
theorem dL_law_723 : decode cL_law 723 = .ok (.iaload, 1) := by decide +kernel
theorem dL_law_724 : decode cL_law 724 = .ok (.invokevirtual 115, 3) := by decide +kernel
theorem dL_law_727 : decode cL_law 727 = .ok (.aload_n 2, 1) := by decide +kernel
theorem dL_law_728 : decode cL_law 728 = .ok (.aload_n 0, 1) := by decide +kernel
theorem dL_law_729 : decode cL_law 729 = .ok (.iload_n 3, 1) := by decide +kernel
theorem dL_law_730 : decode cL_law 730 = .ok (.iconst 1, 1) := by decide +kernel
theorem dL_law_731 : decode cL_law 731 = .ok (.iadd, 1) := by decide +kernel
theorem dL_law_732 : decode cL_law 732 = .ok (.iaload, 1) := by decide +kernel
theorem dL_law_733 : decode cL_law 733 = .ok (.invokevirtual 118, 3) := by decide +kernel
theorem dL_law_736 : decode cL_law 736 = .ok (.if_icmp .eq 156, 3) := by decide +kernel
theorem dL_law_739 : decode cL_law 739 = .ok (.iconst 0, 1) := by decide +kernel
theorem dL_law_740 : decode cL_law 740 = .ok (.ireturn, 1) := by decide +kernel
theorem dL_law_741 : decode cL_law 741 = .ok (.aload_n 1, 1) := by decide +kernel
theorem dL_law_742 : decode cL_law 742 = .ok (.aload_n 0, 1) := by decide +kernel
theorem dL_law_743 : decode cL_law 743 = .ok (.iload_n 3, 1) := by decide +kernel
theorem dL_law_744 : decode cL_law 744 = .ok (.iconst 1, 1) := by decide +kernel
theorem dL_law_745 : decode cL_law 745 = .ok (.iadd, 1) := by decide +kernel
theorem dL_law_746 : decode cL_law 746 = .ok (.iaload, 1) := by decide +kernel
theorem dL_law_747 : decode cL_law 747 = .ok (.aload_n 0, 1) := by decide +kernel
theorem dL_law_748 : decode cL_law 748 = .ok (.iload_n 3, 1) := by decide +kernel
theorem dL_law_749 : decode cL_law 749 = .ok (.iconst 2, 1) := by decide +kernel
theorem dL_law_750 : decode cL_law 750 = .ok (.iadd, 1) := by decide +kernel
theorem dL_law_751 : decode cL_law 751 = .ok (.iaload, 1) := by decide +kernel
theorem dL_law_752 : decode cL_law 752 = .ok (.invokevirtual 119, 3) := by decide +kernel
theorem dL_law_755 : decode cL_law 755 = .ok (.aload_n 2, 1) := by decide +kernel
theorem dL_law_756 : decode cL_law 756 = .ok (.aload_n 0, 1) := by decide +kernel
theorem dL_law_757 : decode cL_law 757 = .ok (.iload_n 3, 1) := by decide +kernel
theorem dL_law_758 : decode cL_law 758 = .ok (.iconst 1, 1) := by decide +kernel
theorem dL_law_759 : decode cL_law 759 = .ok (.iadd, 1) := by decide +kernel
theorem dL_law_760 : decode cL_law 760 = .ok (.iaload, 1) := by decide +kernel
theorem dL_law_761 : decode cL_law 761 = .ok (.aload_n 0, 1) := by decide +kernel
theorem dL_law_762 : decode cL_law 762 = .ok (.iload_n 3, 1) := by decide +kernel
theorem dL_law_763 : decode cL_law 763 = .ok (.iconst 2, 1) := by decide +kernel
theorem dL_law_764 : decode cL_law 764 = .ok (.iadd, 1) := by decide +kernel
theorem dL_law_765 : decode cL_law 765 = .ok (.iaload, 1) := by decide +kernel
theorem dL_law_766 : decode cL_law 766 = .ok (.invokevirtual 122, 3) := by decide +kernel
theorem dL_law_769 : decode cL_law 769 = .ok (.if_icmp .eq 123, 3) := by decide +kernel
theorem dL_law_772 : decode cL_law 772 = .ok (.iconst 0, 1) := by decide +kernel
theorem dL_law_773 : decode cL_law 773 = .ok (.ireturn, 1) := by decide +kernel
theorem dL_law_774 : decode cL_law 774 = .ok (.aload_n 1, 1) := by decide +kernel
theorem dL_law_775 : decode cL_law 775 = .ok (.invokevirtual 123, 3) := by decide +kernel
theorem dL_law_778 : decode cL_law 778 = .ok (.aload_n 2, 1) := by decide +kernel
theorem dL_law_779 : decode cL_law 779 = .ok (.invokevirtual 126, 3) := by decide +kernel
theorem dL_law_782 : decode cL_law 782 = .ok (.if_icmp .eq 110, 3) := by decide +kernel
theorem dL_law_785 : decode cL_law 785 = .ok (.iconst 0, 1) := by decide +kernel
theorem dL_law_786 : decode cL_law 786 = .ok (.ireturn, 1) := by decide +kernel
theorem dL_law_787 : decode cL_law 787 = .ok (.aload_n 1, 1) := by decide +kernel
theorem dL_law_788 : decode cL_law 788 = .ok (.invokevirtual 127, 3) := by decide +kernel
theorem dL_law_791 : decode cL_law 791 = .ok (.aload_n 2, 1) := by decide +kernel
theorem dL_law_792 : decode cL_law 792 = .ok (.invokevirtual 130, 3) := by decide +kernel
theorem dL_law_795 : decode cL_law 795 = .ok (.if_icmp .eq 97, 3) := by decide +kernel
theorem dL_law_798 : decode cL_law 798 = .ok (.iconst 0, 1) := by decide +kernel
theorem dL_law_799 : decode cL_law 799 = .ok (.ireturn, 1) := by decide +kernel
theorem dL_law_800 : decode cL_law 800 = .ok (.aload_n 1, 1) := by decide +kernel
theorem dL_law_801 : decode cL_law 801 = .ok (.aload_n 0, 1) := by decide +kernel
theorem dL_law_802 : decode cL_law 802 = .ok (.iload_n 3, 1) := by decide +kernel
theorem dL_law_803 : decode cL_law 803 = .ok (.iconst 1, 1) := by decide +kernel
theorem dL_law_804 : decode cL_law 804 = .ok (.iadd, 1) := by decide +kernel
theorem dL_law_805 : decode cL_law 805 = .ok (.iaload, 1) := by decide +kernel
theorem dL_law_806 : decode cL_law 806 = .ok (.invokevirtual 131, 3) := by decide +kernel
theorem dL_law_809 : decode cL_law 809 = .ok (.aload_n 2, 1) := by decide +kernel
theorem dL_law_810 : decode cL_law 810 = .ok (.aload_n 0, 1) := by decide +kernel
theorem dL_law_811 : decode cL_law 811 = .ok (.iload_n 3, 1) := by decide +kernel
theorem dL_law_812 : decode cL_law 812 = .ok (.iconst 1, 1) := by decide +kernel
theorem dL_law_813 : decode cL_law 813 = .ok (.iadd, 1) := by decide +kernel
theorem dL_law_814 : decode cL_law 814 = .ok (.iaload, 1) := by decide +kernel
theorem dL_law_815 : decode cL_law 815 = .ok (.invokevirtual 134, 3) := by decide +kernel
theorem dL_law_818 : decode cL_law 818 = .ok (.if_icmp .eq 74, 3) := by decide +kernel
theorem dL_law_821 : decode cL_law 821 = .ok (.iconst 0, 1) := by decide +kernel
theorem dL_law_822 : decode cL_law 822 = .ok (.ireturn, 1) := by decide +kernel
theorem dL_law_823 : decode cL_law 823 = .ok (.aload_n 1, 1) := by decide +kernel
theorem dL_law_824 : decode cL_law 824 = .ok (.aload_n 0, 1) := by decide +kernel
theorem dL_law_825 : decode cL_law 825 = .ok (.iload_n 3, 1) := by decide +kernel
theorem dL_law_826 : decode cL_law 826 = .ok (.iconst 1, 1) := by decide +kernel
theorem dL_law_827 : decode cL_law 827 = .ok (.iadd, 1) := by decide +kernel
theorem dL_law_828 : decode cL_law 828 = .ok (.iaload, 1) := by decide +kernel
theorem dL_law_829 : decode cL_law 829 = .ok (.invokevirtual 135, 3) := by decide +kernel
theorem dL_law_832 : decode cL_law 832 = .ok (.aload_n 2, 1) := by decide +kernel
theorem dL_law_833 : decode cL_law 833 = .ok (.aload_n 0, 1) := by decide +kernel
theorem dL_law_834 : decode cL_law 834 = .ok (.iload_n 3, 1) := by decide +kernel
theorem dL_law_835 : decode cL_law 835 = .ok (.iconst 1, 1) := by decide +kernel
theorem dL_law_836 : decode cL_law 836 = .ok (.iadd, 1) := by decide +kernel
theorem dL_law_837 : decode cL_law 837 = .ok (.iaload, 1) := by decide +kernel
theorem dL_law_838 : decode cL_law 838 = .ok (.invokevirtual 138, 3) := by decide +kernel
theorem dL_law_841 : decode cL_law 841 = .ok (.if_icmp .eq 51, 3) := by decide +kernel
theorem dL_law_844 : decode cL_law 844 = .ok (.iconst 0, 1) := by decide +kernel
theorem dL_law_845 : decode cL_law 845 = .ok (.ireturn, 1) := by decide +kernel
theorem dL_law_846 : decode cL_law 846 = .ok (.aload_n 1, 1) := by decide +kernel
theorem dL_law_847 : decode cL_law 847 = .ok (.aload_n 0, 1) := by decide +kernel
theorem dL_law_848 : decode cL_law 848 = .ok (.iload_n 3, 1) := by decide +kernel
theorem dL_law_849 : decode cL_law 849 = .ok (.iconst 1, 1) := by decide +kernel
theorem dL_law_850 : decode cL_law 850 = .ok (.iadd, 1) := by decide +kernel
theorem dL_law_851 : decode cL_law 851 = .ok (.iaload, 1) := by decide +kernel
theorem dL_law_852 : decode cL_law 852 = .ok (.invokevirtual 139, 3) := by decide +kernel
theorem dL_law_855 : decode cL_law 855 = .ok (.aload_n 2, 1) := by decide +kernel
theorem dL_law_856 : decode cL_law 856 = .ok (.aload_n 0, 1) := by decide +kernel
theorem dL_law_857 : decode cL_law 857 = .ok (.iload_n 3, 1) := by decide +kernel
theorem dL_law_858 : decode cL_law 858 = .ok (.iconst 1, 1) := by decide +kernel
theorem dL_law_859 : decode cL_law 859 = .ok (.iadd, 1) := by decide +kernel
theorem dL_law_860 : decode cL_law 860 = .ok (.iaload, 1) := by decide +kernel
theorem dL_law_861 : decode cL_law 861 = .ok (.invokevirtual 142, 3) := by decide +kernel
theorem dL_law_864 : decode cL_law 864 = .ok (.if_icmp .eq 28, 3) := by decide +kernel
theorem dL_law_867 : decode cL_law 867 = .ok (.iconst 0, 1) := by decide +kernel
theorem dL_law_868 : decode cL_law 868 = .ok (.ireturn, 1) := by decide +kernel
theorem dL_law_869 : decode cL_law 869 = .ok (.aload_n 1, 1) := by decide +kernel
theorem dL_law_870 : decode cL_law 870 = .ok (.aload_n 0, 1) := by decide +kernel
theorem dL_law_871 : decode cL_law 871 = .ok (.iload_n 3, 1) := by decide +kernel
theorem dL_law_872 : decode cL_law 872 = .ok (.iconst 1, 1) := by decide +kernel
theorem dL_law_873 : decode cL_law 873 = .ok (.iadd, 1) := by decide +kernel
theorem dL_law_874 : decode cL_law 874 = .ok (.iaload, 1) := by decide +kernel
theorem dL_law_875 : decode cL_law 875 = .ok (.invokevirtual 143, 3) := by decide +kernel
theorem dL_law_878 : decode cL_law 878 = .ok (.aload_n 2, 1) := by decide +kernel
theorem dL_law_879 : decode cL_law 879 = .ok (.aload_n 0, 1) := by decide +kernel
theorem dL_law_880 : decode cL_law 880 = .ok (.iload_n 3, 1) := by decide +kernel
theorem dL_law_881 : decode cL_law 881 = .ok (.iconst 1, 1) := by decide +kernel
theorem dL_law_882 : decode cL_law 882 = .ok (.iadd, 1) := by decide +kernel
theorem dL_law_883 : decode cL_law 883 = .ok (.iaload, 1) := by decide +kernel
theorem dL_law_884 : decode cL_law 884 = .ok (.invokevirtual 146, 3) := by decide +kernel
theorem dL_law_887 : decode cL_law 887 = .ok (.if_icmp .eq 5, 3) := by decide +kernel
theorem dL_law_890 : decode cL_law 890 = .ok (.iconst 0, 1) := by decide +kernel
theorem dL_law_891 : decode cL_law 891 = .ok (.ireturn, 1) := by decide +kernel
theorem dL_law_892 : decode cL_law 892 = .ok (.iinc 3 4, 3) := by decide +kernel
theorem dL_law_895 : decode cL_law 895 = .ok (.goto (-877), 3) := by decide +kernel
theorem dL_law_898 : decode cL_law 898 = .ok (.iconst 1, 1) := by decide +kernel
theorem dL_law_899 : decode cL_law 899 = .ok (.ireturn, 1) := by decide +kernel
end
section
/-- a store of one number -/
def up2 (σ : Nat → Nat → Int32) (a i : Nat) (v : Int32) : Nat → Nat → Int32 := fun x => if x = a then upd (σ x) i v else σ x
theorem up2_s {σ : Nat → Nat → Int32} {a i : Nat} {v : Int32} : up2 σ a i v a i = v := by simp [up2, upd]
theorem up2_c {σ : Nat → Nat → Int32} {a i b : Nat} {v : Int32} (h : b ≠ a) : up2 σ a i v b = σ b := by simp [up2, h]
theorem up2_i {σ : Nat → Nat → Int32} {a i j : Nat} {v : Int32} (h : j ≠ i) : up2 σ a i v a j = σ a j := by simp [up2, upd, h]
theorem up2_a {σ : Nat → Nat → Int32} {a i : Nat} {v : Int32} : up2 σ a i v a = upd (σ a) i v := by simp [up2]
/-- an index that is looked at, a divisor, a truth value: else nothing -/
def chk {α : Type} (i : Int32) (n : Nat) (k : Option α) : Option α := if 0 ≤ i.toInt ∧ i.toInt < n then k else none
theorem chk_some {α : Type} {i : Int32} {n : Nat} {k : Option α} {z : α} (h : chk i n k = some z) : vp_in i n ∧ k = some z := by
  unfold chk at h
  split at h
  · next q => exact ⟨vp_in_iff.mpr q, h⟩
  · cases h
theorem chk_in {α : Type} {i : Int32} {n : Nat} {k : Option α} (h : vp_in i n) : chk i n k = k := if_pos (vp_in_iff.mp h)
def chz {α : Type} (y : Int32) (k : Option α) : Option α := if y = 0 then none else k
theorem chz_some {α : Type} {y : Int32} {k : Option α} {z : α} (h : chz y k = some z) : ¬ y = 0 ∧ k = some z := by
  unfold chz at h
  split at h
  · cases h
  · next q => exact ⟨q, h⟩
theorem chz_ne {α : Type} {y : Int32} {k : Option α} (h : ¬ y = 0) : chz y k = k := if_neg h
def chb {α : Type} (y : Int32) (k : Option α) : Option α := if y = 0 ∨ y = 1 then k else none
theorem chb_some {α : Type} {y : Int32} {k : Option α} {z : α} (h : chb y k = some z) : narrow .boolean (.int y) = .int y ∧ k = some z := by
  unfold chb at h
  split at h
  · next q => exact ⟨by rcases q with rfl | rfl <;> rfl, h⟩
  · cases h
theorem chb_in {α : Type} {y : Int32} {k : Option α} (h : y = 0 ∨ y = 1) : chb y k = k := if_pos h
theorem bnd_some {α β : Type} {o : Option α} {k : α → Option β} {z : β} (h : o.bind k = some z) : ∃ a, o = some a ∧ k a = some z := by
  cases o with
  | none => cases h
  | some a => exact ⟨a, rfl, h⟩
/-- how many turns a loop is given -/
def fuel : Nat := 100000
-- the worlds: the 28 cells of a FerriesLevel, the 20 of a FerriesLevelModel; q: the addresses, σ: the numbers
def wX (cI : ClassId) (q : Nat → Nat) (σ : Nat → Nat → Int32) : va_W := [(q 0, .inr (4, [.ref (q 1), .ref (q 3), .ref (q 7), .ref (q 11), .ref (q 15), .ref (q 19)])), (q 1, .inr (3, [.ref (q 2), .int (σ 1 1)])), (q 2, .inl (cI, 48, .inl (σ 2))), (q 3, .inr (0, [.int (σ 3 0), .int (σ 3 1), .int (σ 3 2), .int (σ 3 3), .int (σ 3 4), .int (σ 3 5), .ref (q 4), .ref (q 5), .ref (q 6)])), (q 4, .inl (cI, 8, .inl (σ 4))), (q 5, .inl (cI, 8, .inl (σ 5))), (q 6, .inl (cI, 8, .inl (σ 6))), (q 7, .inr (1, [.ref (q 8), .ref (q 9), .ref (q 10), .int (σ 7 3), .int (σ 7 4), .int (σ 7 5)])), (q 8, .inl (cI, 9, .inl (σ 8))), (q 9, .inl (cI, 8, .inl (σ 9))), (q 10, .inl (cI, 8, .inl (σ 10))), (q 11, .inr (1, [.ref (q 12), .ref (q 13), .ref (q 14), .int (σ 11 3), .int (σ 11 4), .int (σ 11 5)])), (q 12, .inl (cI, 9, .inl (σ 12))), (q 13, .inl (cI, 8, .inl (σ 13))), (q 14, .inl (cI, 8, .inl (σ 14))), (q 15, .inr (1, [.ref (q 16), .ref (q 17), .ref (q 18), .int (σ 15 3), .int (σ 15 4), .int (σ 15 5)])), (q 16, .inl (cI, 9, .inl (σ 16))), (q 17, .inl (cI, 8, .inl (σ 17))), (q 18, .inl (cI, 8, .inl (σ 18))), (q 19, .inr (2, [.ref (q 20), .ref (q 21), .ref (q 22), .ref (q 23), .ref (q 24), .ref (q 25), .ref (q 26), .ref (q 27), .int (σ 19 8), .int (σ 19 9), .int (σ 19 10), .int (σ 19 11), .int (σ 19 12), .int (σ 19 13), .int (σ 19 14), .int (σ 19 15), .int (σ 19 16)])), (q 20, .inl (cI, 256, .inl (σ 20))), (q 21, .inl (cI, 256, .inl (σ 21))), (q 22, .inl (cI, 256, .inl (σ 22))), (q 23, .inl (cI, 256, .inl (σ 23))), (q 24, .inl (cI, 100, .inl (σ 24))), (q 25, .inl (cI, 3, .inl (σ 25))), (q 26, .inl (cI, 3, .inl (σ 26))), (q 27, .inl (cI, 3, .inl (σ 27)))]
def wM (cI cZ : ClassId) (q : Nat → Nat) (σ : Nat → Nat → Int32) : va_W := [(q 0, .inr (5, [.ref (q 1), .ref (q 2), .int (σ 0 2), .ref (q 3), .ref (q 4), .int (σ 0 5), .ref (q 5), .ref (q 6), .ref (q 7), .int (σ 0 9), .ref (q 8), .int (σ 0 11), .int (σ 0 12), .int (σ 0 13), .int (σ 0 14), .ref (q 9), .ref (q 10), .int (σ 0 17), .int (σ 0 18), .int (σ 0 19), .ref (q 11), .ref (q 12), .ref (q 13), .ref (q 14), .ref (q 15), .ref (q 16), .ref (q 17), .ref (q 18), .ref (q 19)])), (q 1, .inl (cI, 5, .inl (σ 1))), (q 2, .inl (cI, 24, .inl (σ 2))), (q 3, .inl (cI, 5, .inl (σ 3))), (q 4, .inl (cI, 24, .inl (σ 4))), (q 5, .inl (cI, 8, .inl (σ 5))), (q 6, .inl (cI, 8, .inl (σ 6))), (q 7, .inl (cI, 8, .inl (σ 7))), (q 8, .inl (cI, 48, .inl (σ 8))), (q 9, .inl (cI, 24, .inl (σ 9))), (q 10, .inl (cI, 3, .inl (σ 10))), (q 11, .inl (cZ, 256, .inl (σ 11))), (q 12, .inl (cI, 100, .inl (σ 12))), (q 13, .inl (cI, 256, .inl (σ 13))), (q 14, .inl (cZ, 2, .inl (σ 14))), (q 15, .inl (cI, 16, .inl (σ 15))), (q 16, .inl (cI, 16, .inl (σ 16))), (q 17, .inl (cI, 16, .inl (σ 17))), (q 18, .inl (cI, 48, .inl (σ 18))), (q 19, .inl (cI, 4, .inl (σ 19)))]
def nestT : List (String × Nat × MethodName) := [(RX4, 9, yX3_init), (RX4, 18, yX0_init), (RX4, 25, yX1_init), (RX4, 38, yX2_init), (RX1, 48, yX4_endOf), (RX0, 62, yX4_sitters), (RX0, 65, yX4_poundsAfter), (RX1, 45, yX4_members), (RX2, 132, yX4_poundsAfter), (RX2, 150, yX4_members)]
def nestW (t : String × Nat × MethodName) : Cond := .methodLinkNest t.1 t.2.1 t.2.2 RX4
/-- what of the tables every contract takes beside its words -/
def KK (dC : Nat → ClassId) (dI : Nat → Nat → Nat) (cI cZ : ClassId) (U : State) : Prop := va_K (dC, dI) vwCl [(cI, .int), (cZ, .boolean)] U ∧ ∀ t ∈ nestT, va_Nw (nestW t) U
theorem KK.calling {dC : Nat → ClassId} {dI : Nat → Nat → Nat} {cI cZ : ClassId} {U : State} (h : KK dC dI cI cZ U) (g : JFrame) (mk : MethodId) (a : Array Value) : KK dC dI cI cZ (U.calling g mk a) :=
  ⟨va_K.moved (u := U) (U := U.calling g mk a) (Vm.Alike.refl U.vm) h.1, fun t ht => va_Nw.same (u := U) (U := U.calling g mk a) rfl rfl (h.2 t ht)⟩
theorem KK.warm {dC : Nat → ClassId} {dI : Nat → Nat → Nat} {cI cZ : ClassId} {s U : State} (hW : s.WarmedH U.vm) (h : KK dC dI cI cZ s) : KK dC dI cI cZ U :=
  ⟨va_K.moved hW.alike h.1, fun t ht => va_Nw.warmM hW (h.2 t ht)⟩
/-- a contract's end -/
def CQ (dC : Nat → ClassId) (dI : Nat → Nat → Nat) (ov : Option Value) (w : va_W) (A : Nat → Prop) : Array Value → State → Outcome → State → Prop := fun _ st oc t => (oc = .returned ov ∧ va_P (dC, dI) vwCl w t.heap ∧ va_D A w) ∧ va_F A st t
/-- a contract: from a heap that holds w it answers ov, and the heap holds w' -/
def CT (l : Launch) (dC : Nat → ClassId) (dI : Nat → Nat → Nat) (cI cZ : ClassId) (A : Nat → Prop) (y : MethodName) (bytes : ByteArray) (maxL : Nat) (ret : Option FieldType) (rm : Room) (av : List Value) (w w' : va_W) (ov : Option Value) : Prop :=
  Met l y (.code y bytes maxL ret :: wG) rm (va_Pc av (fun U => va_P (dC, dI) vwCl w U.heap ∧ KK dC dI cI cZ U ∧ va_D A w)) (CQ dC dI ov w' A) 0 0 A
/-- the machine in a method's body -/
def EV (p : Program) (s : State) (m : MethodId) (args : Array Value) (meth : Method) (c : Code) (dC : Nat → ClassId) (dI : Nat → Nat → Nat) (cI cZ : ClassId) (cc : ByteArray) (nL : Nat) (own : String) (ret : Option FieldType) : Prop :=
  p.tables.exec = Jvm.exec ∧ c.code = cc ∧ c.maxLocals = nL ∧ s.vm.findClass own = some m.cls ∧ (∀ w ∈ wG, w.before args s = true) ∧ KK dC dI cI cZ s ∧ meth.sig.returnType = ret ∧ meth.locks = false
def GG (p : Program) (l : Launch) (e : Env) (R : Room) (s : State) (m : MethodId) (args : Array Value) (below : List Frame) (meth : Method) (c : Code) (Q : State → Prop) (A : Nat → Prop) (dC : Nat → ClassId) (dI : Nat → Nat → Nat) (nL : Nat) (w : va_W) (pc : Nat) (lv : List (Nat × Value)) (st : List Value) : Prop :=
  ∀ (ls : Array Slot) (H : Heap) (locs : List Loc), lv_has ls nL lv → va_P (dC, dI) vwCl w H → va_D A w → va_S A s.heap H locs → W p l e R s m args below meth c H locs 0 0 Q (F0 m pc ls st)
/-- the locals behind a store -/
def lset (i : Nat) (v : Value) : List (Nat × Value) → List (Nat × Value)
  | [] => [(i, v)]
  | a :: l => if a.1 = i then (i, v) :: l else a :: lset i v l
theorem lset_in {i : Nat} {v : Value} : ∀ {l : List (Nat × Value)} {q : Nat × Value}, l.all (fun a => !(a.1 + 1 == i && a.2.category == 2)) = true → va_nd (l.map (fun a => a.1)) = true → q ∈ lset i v l → q ∈ (i, v) :: l.filter (fun q => !(q.1 == i) && !(q.1 + 1 == i && q.2.category == 2))
  | [], q, _, _, h => by
    simp [lset] at h
    simp [h]
  | a :: l, q, hc, hn, h => by
    rw [List.all_cons, Bool.and_eq_true] at hc
    have hc2 := hc.1
    simp only [List.map_cons, va_nd, Bool.and_eq_true, decide_eq_true_eq] at hn
    unfold lset at h
    split at h
    · next e =>
      rcases List.mem_cons.mp h with rfl | h
      · exact List.mem_cons_self
      · refine List.mem_cons_of_mem _ (List.mem_filter.mpr ⟨List.mem_cons_of_mem _ h, ?_⟩)
        have h1 : q.1 ≠ i := fun z => hn.1 (by rw [e, ← z]; exact List.mem_map_of_mem h)
        have h2 := List.all_eq_true.mp hc.2 q h
        rw [Bool.and_eq_true]
        exact ⟨by simp [h1], h2⟩
    · next e =>
      rcases List.mem_cons.mp h with rfl | h
      · refine List.mem_cons_of_mem _ (List.mem_filter.mpr ⟨List.mem_cons_self, ?_⟩)
        rw [Bool.and_eq_true]
        exact ⟨by simp [e], hc2⟩
      · rcases List.mem_cons.mp (lset_in hc.2 hn.2 h) with rfl | h
        · exact List.mem_cons_self
        · exact List.mem_cons_of_mem _ (List.mem_filter.mpr ⟨List.mem_cons_of_mem _ (List.mem_filter.mp h).1, (List.mem_filter.mp h).2⟩)
section
variable {p : Program} {l : Launch} {e : Env} {R : Room} {s : State} {m : MethodId} {args : Array Value} {below : List Frame} {meth : Method} {c : Code} {Q : State → Prop} {A : Nat → Prop} {dC : Nat → ClassId} {dI : Nat → Nat → Nat} {cI cZ : ClassId} {cc : ByteArray} {nL : Nat} {own : String} {ret : Option FieldType} {w w' : va_W} {pc : Nat} {lv lv' : List (Nat × Value)} {rest st : List Value}
theorem s_iconst (E : EV p s m args meth c dC dI cI cZ cc nL own ret) {n : Int} {v : Int32} (d : decode cc pc = .ok (.iconst n, 1)) (hv : Int32.ofInt n = v) (k : GG p l e R s m args below meth c Q A dC dI nL w (pc + 1) lv (.int v :: rest)) : GG p l e R s m args below meth c Q A dC dI nL w (pc) lv (rest) :=
  fun ls H locs h1 h2 h3 h4 => lv_iconst E.1 E.2.1 d hv (k ls H locs h1 h2 h3 h4)
theorem s_bipush (E : EV p s m args meth c dC dI cI cZ cc nL own ret) {n : Int} {v : Int32} (d : decode cc pc = .ok (.bipush n, 2)) (hv : (Int8.ofInt n).toInt32 = v) (k : GG p l e R s m args below meth c Q A dC dI nL w (pc + 2) lv (.int v :: rest)) : GG p l e R s m args below meth c Q A dC dI nL w (pc) lv (rest) :=
  fun ls H locs h1 h2 h3 h4 => lv_bipush E.1 E.2.1 d hv (k ls H locs h1 h2 h3 h4)
theorem s_sipush (E : EV p s m args meth c dC dI cI cZ cc nL own ret) {n : Int} {v : Int32} (d : decode cc pc = .ok (.sipush n, 3)) (hv : (Int16.ofInt n).toInt32 = v) (k : GG p l e R s m args below meth c Q A dC dI nL w (pc + 3) lv (.int v :: rest)) : GG p l e R s m args below meth c Q A dC dI nL w (pc) lv (rest) :=
  fun ls H locs h1 h2 h3 h4 => lv_sipush E.1 E.2.1 d hv (k ls H locs h1 h2 h3 h4)
theorem s_lconst (E : EV p s m args meth c dC dI cI cZ cc nL own ret) {n : Fin 2} {v : Int64} (d : decode cc pc = .ok (.lconst n, 1)) (hv : Int64.ofNat (n : Nat) = v) (k : GG p l e R s m args below meth c Q A dC dI nL w (pc + 1) lv (.long v :: rest)) : GG p l e R s m args below meth c Q A dC dI nL w (pc) lv (rest) :=
  fun ls H locs h1 h2 h3 h4 => lv_lconst E.1 E.2.1 d hv (k ls H locs h1 h2 h3 h4)
theorem s_iload_n (E : EV p s m args meth c dC dI cI cZ cc nL own ret) {j : Fin 4} {i : Nat} {x : Int32} (kk : Nat) (hk : lv[kk]? = some (i, .int x)) (d : decode cc pc = .ok (.iload_n j, 1)) (hi : (j : Nat) = i) (k : GG p l e R s m args below meth c Q A dC dI nL w (pc + 1) lv (.int x :: rest)) : GG p l e R s m args below meth c Q A dC dI nL w (pc) lv (rest) :=
  fun ls H locs h1 h2 h3 h4 => lv_iload_n E.1 E.2.1 d hi (lv_at h1 kk hk) (k ls H locs h1 h2 h3 h4)
theorem s_iload (E : EV p s m args meth c dC dI cI cZ cc nL own ret) {i : Nat} {x : Int32} (kk : Nat) (hk : lv[kk]? = some (i, .int x)) (d : decode cc pc = .ok (.iload i, 2)) (k : GG p l e R s m args below meth c Q A dC dI nL w (pc + 2) lv (.int x :: rest)) : GG p l e R s m args below meth c Q A dC dI nL w (pc) lv (rest) :=
  fun ls H locs h1 h2 h3 h4 => lv_iload E.1 E.2.1 d (lv_at h1 kk hk) (k ls H locs h1 h2 h3 h4)
theorem s_lload_n (E : EV p s m args meth c dC dI cI cZ cc nL own ret) {j : Fin 4} {i : Nat} {x : Int64} (kk : Nat) (hk : lv[kk]? = some (i, .long x)) (d : decode cc pc = .ok (.lload_n j, 1)) (hi : (j : Nat) = i) (k : GG p l e R s m args below meth c Q A dC dI nL w (pc + 1) lv (.long x :: rest)) : GG p l e R s m args below meth c Q A dC dI nL w (pc) lv (rest) :=
  fun ls H locs h1 h2 h3 h4 => lv_lload_n E.1 E.2.1 d hi (lv_at h1 kk hk) (k ls H locs h1 h2 h3 h4)
theorem s_lload (E : EV p s m args meth c dC dI cI cZ cc nL own ret) {i : Nat} {x : Int64} (kk : Nat) (hk : lv[kk]? = some (i, .long x)) (d : decode cc pc = .ok (.lload i, 2)) (k : GG p l e R s m args below meth c Q A dC dI nL w (pc + 2) lv (.long x :: rest)) : GG p l e R s m args below meth c Q A dC dI nL w (pc) lv (rest) :=
  fun ls H locs h1 h2 h3 h4 => lv_lload E.1 E.2.1 d (lv_at h1 kk hk) (k ls H locs h1 h2 h3 h4)
theorem s_aload_n (E : EV p s m args meth c dC dI cI cZ cc nL own ret) {j : Fin 4} {i : Nat} {x : Nat} (kk : Nat) (hk : lv[kk]? = some (i, .ref x)) (d : decode cc pc = .ok (.aload_n j, 1)) (hi : (j : Nat) = i) (k : GG p l e R s m args below meth c Q A dC dI nL w (pc + 1) lv (.ref x :: rest)) : GG p l e R s m args below meth c Q A dC dI nL w (pc) lv (rest) :=
  fun ls H locs h1 h2 h3 h4 => lv_aload_n E.1 E.2.1 d hi (lv_at h1 kk hk) (k ls H locs h1 h2 h3 h4)
theorem s_aload (E : EV p s m args meth c dC dI cI cZ cc nL own ret) {i : Nat} {x : Nat} (kk : Nat) (hk : lv[kk]? = some (i, .ref x)) (d : decode cc pc = .ok (.aload i, 2)) (k : GG p l e R s m args below meth c Q A dC dI nL w (pc + 2) lv (.ref x :: rest)) : GG p l e R s m args below meth c Q A dC dI nL w (pc) lv (rest) :=
  fun ls H locs h1 h2 h3 h4 => lv_aload E.1 E.2.1 d (lv_at h1 kk hk) (k ls H locs h1 h2 h3 h4)
theorem s_istore_n (E : EV p s m args meth c dC dI cI cZ cc nL own ret) {j : Fin 4} {i : Nat} (d : decode cc pc = .ok (.istore_n j, 1)) (hi : (j : Nat) = i) {x : Int32} (hc : lv.all (fun a => !(a.1 + 1 == i && a.2.category == 2)) = true) (hn : va_nd (lv.map (fun a => a.1)) = true) (hl : lset i (.int x) lv = lv') (hi2 : i < nL) (k : GG p l e R s m args below meth c Q A dC dI nL w (pc + 1) lv' (rest)) : GG p l e R s m args below meth c Q A dC dI nL w (pc) lv (.int x :: rest) :=
  fun ls H locs h1 h2 h3 h4 => lv_istore_n E.1 E.2.1 d hi h1 hi2 rfl (fun ls2 h1b => k ls2 H locs ⟨h1b.1, h1b.2.1, fun q hq => h1b.2.2 q (lset_in hc hn (by rw [hl]; exact hq))⟩ h2 h3 h4)
theorem s_istore (E : EV p s m args meth c dC dI cI cZ cc nL own ret) {i : Nat} (d : decode cc pc = .ok (.istore i, 2)) {x : Int32} (hc : lv.all (fun a => !(a.1 + 1 == i && a.2.category == 2)) = true) (hn : va_nd (lv.map (fun a => a.1)) = true) (hl : lset i (.int x) lv = lv') (hi2 : i < nL) (k : GG p l e R s m args below meth c Q A dC dI nL w (pc + 2) lv' (rest)) : GG p l e R s m args below meth c Q A dC dI nL w (pc) lv (.int x :: rest) :=
  fun ls H locs h1 h2 h3 h4 => lv_istore E.1 E.2.1 d h1 hi2 rfl (fun ls2 h1b => k ls2 H locs ⟨h1b.1, h1b.2.1, fun q hq => h1b.2.2 q (lset_in hc hn (by rw [hl]; exact hq))⟩ h2 h3 h4)
theorem s_astore_n (E : EV p s m args meth c dC dI cI cZ cc nL own ret) {j : Fin 4} {i : Nat} (d : decode cc pc = .ok (.astore_n j, 1)) (hi : (j : Nat) = i) {x : Nat} (hc : lv.all (fun a => !(a.1 + 1 == i && a.2.category == 2)) = true) (hn : va_nd (lv.map (fun a => a.1)) = true) (hl : lset i (.ref x) lv = lv') (hi2 : i < nL) (k : GG p l e R s m args below meth c Q A dC dI nL w (pc + 1) lv' (rest)) : GG p l e R s m args below meth c Q A dC dI nL w (pc) lv (.ref x :: rest) :=
  fun ls H locs h1 h2 h3 h4 => lv_astore_n E.1 E.2.1 d hi h1 hi2 rfl (fun ls2 h1b => k ls2 H locs ⟨h1b.1, h1b.2.1, fun q hq => h1b.2.2 q (lset_in hc hn (by rw [hl]; exact hq))⟩ h2 h3 h4)
theorem s_astore (E : EV p s m args meth c dC dI cI cZ cc nL own ret) {i : Nat} (d : decode cc pc = .ok (.astore i, 2)) {x : Nat} (hc : lv.all (fun a => !(a.1 + 1 == i && a.2.category == 2)) = true) (hn : va_nd (lv.map (fun a => a.1)) = true) (hl : lset i (.ref x) lv = lv') (hi2 : i < nL) (k : GG p l e R s m args below meth c Q A dC dI nL w (pc + 2) lv' (rest)) : GG p l e R s m args below meth c Q A dC dI nL w (pc) lv (.ref x :: rest) :=
  fun ls H locs h1 h2 h3 h4 => lv_astore E.1 E.2.1 d h1 hi2 rfl (fun ls2 h1b => k ls2 H locs ⟨h1b.1, h1b.2.1, fun q hq => h1b.2.2 q (lset_in hc hn (by rw [hl]; exact hq))⟩ h2 h3 h4)
theorem s_iinc (E : EV p s m args meth c dC dI cI cZ cc nL own ret) {i : Nat} {n : Int} {x v : Int32} (kk : Nat) (hk : lv[kk]? = some (i, .int x)) (d : decode cc pc = .ok (.iinc i n, 3)) {kv : Int32} (hkv : Int32.ofInt n = kv) (hv : x + kv = v) (hc : lv.all (fun a => !(a.1 + 1 == i && a.2.category == 2)) = true) (hn : va_nd (lv.map (fun a => a.1)) = true) (hl : lset i (.int v) lv = lv') (hi2 : i < nL) (k : GG p l e R s m args below meth c Q A dC dI nL w (pc + 3) lv' (rest)) : GG p l e R s m args below meth c Q A dC dI nL w (pc) lv (rest) :=
  fun ls H locs h1 h2 h3 h4 => lv_iinc (v := v) E.1 E.2.1 d h1 hk (show x + Int32.ofInt n = v by rw [hkv]; exact hv) hi2 rfl (fun ls2 h1b => k ls2 H locs ⟨h1b.1, h1b.2.1, fun q hq => h1b.2.2 q (lset_in hc hn (by rw [hl]; exact hq))⟩ h2 h3 h4)
abbrev shl (x y : Int32) : Int32 := x <<< (y &&& 31)
abbrev shr (x y : Int32) : Int32 := x >>> (y &&& 31)
abbrev rem (x y : Int32) : Int32 := x - x / y * y
theorem s_iadd (E : EV p s m args meth c dC dI cI cZ cc nL own ret) {x y : Int32} (d : decode cc pc = .ok (.iadd, 1))  (k : GG p l e R s m args below meth c Q A dC dI nL w (pc + 1) lv (.int (x + y) :: rest)) : GG p l e R s m args below meth c Q A dC dI nL w (pc) lv (.int y :: .int x :: rest) :=
  fun ls H locs h1 h2 h3 h4 => lv_iadd E.1 E.2.1 d (k ls H locs h1 h2 h3 h4)
theorem s_isub (E : EV p s m args meth c dC dI cI cZ cc nL own ret) {x y : Int32} (d : decode cc pc = .ok (.isub, 1))  (k : GG p l e R s m args below meth c Q A dC dI nL w (pc + 1) lv (.int (x - y) :: rest)) : GG p l e R s m args below meth c Q A dC dI nL w (pc) lv (.int y :: .int x :: rest) :=
  fun ls H locs h1 h2 h3 h4 => lv_isub E.1 E.2.1 d (k ls H locs h1 h2 h3 h4)
theorem s_imul (E : EV p s m args meth c dC dI cI cZ cc nL own ret) {x y : Int32} (d : decode cc pc = .ok (.imul, 1))  (k : GG p l e R s m args below meth c Q A dC dI nL w (pc + 1) lv (.int (x * y) :: rest)) : GG p l e R s m args below meth c Q A dC dI nL w (pc) lv (.int y :: .int x :: rest) :=
  fun ls H locs h1 h2 h3 h4 => lv_imul E.1 E.2.1 d (k ls H locs h1 h2 h3 h4)
theorem s_iand (E : EV p s m args meth c dC dI cI cZ cc nL own ret) {x y : Int32} (d : decode cc pc = .ok (.iand, 1))  (k : GG p l e R s m args below meth c Q A dC dI nL w (pc + 1) lv (.int (x &&& y) :: rest)) : GG p l e R s m args below meth c Q A dC dI nL w (pc) lv (.int y :: .int x :: rest) :=
  fun ls H locs h1 h2 h3 h4 => lv_iand E.1 E.2.1 d (k ls H locs h1 h2 h3 h4)
theorem s_ior (E : EV p s m args meth c dC dI cI cZ cc nL own ret) {x y : Int32} (d : decode cc pc = .ok (.ior, 1))  (k : GG p l e R s m args below meth c Q A dC dI nL w (pc + 1) lv (.int (x ||| y) :: rest)) : GG p l e R s m args below meth c Q A dC dI nL w (pc) lv (.int y :: .int x :: rest) :=
  fun ls H locs h1 h2 h3 h4 => lv_ior E.1 E.2.1 d (k ls H locs h1 h2 h3 h4)
theorem s_ixor (E : EV p s m args meth c dC dI cI cZ cc nL own ret) {x y : Int32} (d : decode cc pc = .ok (.ixor, 1))  (k : GG p l e R s m args below meth c Q A dC dI nL w (pc + 1) lv (.int (x ^^^ y) :: rest)) : GG p l e R s m args below meth c Q A dC dI nL w (pc) lv (.int y :: .int x :: rest) :=
  fun ls H locs h1 h2 h3 h4 => lv_ixor E.1 E.2.1 d (k ls H locs h1 h2 h3 h4)
theorem s_ishl (E : EV p s m args meth c dC dI cI cZ cc nL own ret) {x y : Int32} (d : decode cc pc = .ok (.ishl, 1))  (k : GG p l e R s m args below meth c Q A dC dI nL w (pc + 1) lv (.int (shl x y) :: rest)) : GG p l e R s m args below meth c Q A dC dI nL w (pc) lv (.int y :: .int x :: rest) :=
  fun ls H locs h1 h2 h3 h4 => lv_ishl E.1 E.2.1 d (k ls H locs h1 h2 h3 h4)
theorem s_ishr (E : EV p s m args meth c dC dI cI cZ cc nL own ret) {x y : Int32} (d : decode cc pc = .ok (.ishr, 1))  (k : GG p l e R s m args below meth c Q A dC dI nL w (pc + 1) lv (.int (shr x y) :: rest)) : GG p l e R s m args below meth c Q A dC dI nL w (pc) lv (.int y :: .int x :: rest) :=
  fun ls H locs h1 h2 h3 h4 => lv_ishr E.1 E.2.1 d (k ls H locs h1 h2 h3 h4)
theorem s_idiv (E : EV p s m args meth c dC dI cI cZ cc nL own ret) {x y : Int32} (d : decode cc pc = .ok (.idiv, 1)) (hne : ¬ y = 0) (k : GG p l e R s m args below meth c Q A dC dI nL w (pc + 1) lv (.int (x / y) :: rest)) : GG p l e R s m args below meth c Q A dC dI nL w (pc) lv (.int y :: .int x :: rest) :=
  fun ls H locs h1 h2 h3 h4 => lv_idiv E.1 E.2.1 d hne (k ls H locs h1 h2 h3 h4)
theorem s_irem (E : EV p s m args meth c dC dI cI cZ cc nL own ret) {x y : Int32} (d : decode cc pc = .ok (.irem, 1)) (hne : ¬ y = 0) (k : GG p l e R s m args below meth c Q A dC dI nL w (pc + 1) lv (.int (rem x y) :: rest)) : GG p l e R s m args below meth c Q A dC dI nL w (pc) lv (.int y :: .int x :: rest) :=
  fun ls H locs h1 h2 h3 h4 => lv_irem E.1 E.2.1 d hne (k ls H locs h1 h2 h3 h4)
/-- the shift of a word that has no sign -/
abbrev ush (x y : Int32) : Int32 := (x.toUInt32 >>> (y.toUInt32 &&& Int32.toUInt32 31)).toInt32
abbrev ushL (x : Int64) (y : Int32) : Int64 := (x.toUInt64 >>> (y.toInt64.toUInt64 &&& Int64.toUInt64 63)).toInt64
theorem s_iushr (E : EV p s m args meth c dC dI cI cZ cc nL own ret) {x y : Int32} (d : decode cc pc = .ok (.iushr, 1))  (k : GG p l e R s m args below meth c Q A dC dI nL w (pc + 1) lv (.int (ush x y) :: rest)) : GG p l e R s m args below meth c Q A dC dI nL w (pc) lv (.int y :: .int x :: rest) :=
  fun ls H locs h1 h2 h3 h4 => lv_iushr E.1 E.2.1 d rfl (k ls H locs h1 h2 h3 h4)
theorem s_ineg (E : EV p s m args meth c dC dI cI cZ cc nL own ret) {x : Int32} (d : decode cc pc = .ok (.ineg, 1))  (k : GG p l e R s m args below meth c Q A dC dI nL w (pc + 1) lv (.int (-x) :: rest)) : GG p l e R s m args below meth c Q A dC dI nL w (pc) lv (.int x :: rest) :=
  fun ls H locs h1 h2 h3 h4 => lv_ineg E.1 E.2.1 d (k ls H locs h1 h2 h3 h4)
theorem s_lushr (E : EV p s m args meth c dC dI cI cZ cc nL own ret) {x : Int64} {y : Int32} (d : decode cc pc = .ok (.lushr, 1))  (k : GG p l e R s m args below meth c Q A dC dI nL w (pc + 1) lv (.long (ushL x y) :: rest)) : GG p l e R s m args below meth c Q A dC dI nL w (pc) lv (.int y :: .long x :: rest) :=
  fun ls H locs h1 h2 h3 h4 => lv_lushr E.1 E.2.1 d rfl (k ls H locs h1 h2 h3 h4)
theorem s_lshr (E : EV p s m args meth c dC dI cI cZ cc nL own ret) {x : Int64} {y : Int32} (d : decode cc pc = .ok (.lshr, 1))  (k : GG p l e R s m args below meth c Q A dC dI nL w (pc + 1) lv (.long (x >>> (y.toInt64 &&& 63)) :: rest)) : GG p l e R s m args below meth c Q A dC dI nL w (pc) lv (.int y :: .long x :: rest) :=
  fun ls H locs h1 h2 h3 h4 => lv_lshr E.1 E.2.1 d rfl (k ls H locs h1 h2 h3 h4)
theorem s_land (E : EV p s m args meth c dC dI cI cZ cc nL own ret) {x y : Int64} (d : decode cc pc = .ok (.land, 1))  (k : GG p l e R s m args below meth c Q A dC dI nL w (pc + 1) lv (.long (x &&& y) :: rest)) : GG p l e R s m args below meth c Q A dC dI nL w (pc) lv (.long y :: .long x :: rest) :=
  fun ls H locs h1 h2 h3 h4 => lv_land E.1 E.2.1 d (k ls H locs h1 h2 h3 h4)
theorem s_i2l (E : EV p s m args meth c dC dI cI cZ cc nL own ret) {x : Int32} (d : decode cc pc = .ok (.i2l, 1))  (k : GG p l e R s m args below meth c Q A dC dI nL w (pc + 1) lv (.long x.toInt64 :: rest)) : GG p l e R s m args below meth c Q A dC dI nL w (pc) lv (.int x :: rest) :=
  fun ls H locs h1 h2 h3 h4 => lv_i2l E.1 E.2.1 d rfl (k ls H locs h1 h2 h3 h4)
theorem s_l2i (E : EV p s m args meth c dC dI cI cZ cc nL own ret) {x : Int64} (d : decode cc pc = .ok (.l2i, 1))  (k : GG p l e R s m args below meth c Q A dC dI nL w (pc + 1) lv (.int x.toInt32 :: rest)) : GG p l e R s m args below meth c Q A dC dI nL w (pc) lv (.long x :: rest) :=
  fun ls H locs h1 h2 h3 h4 => lv_l2i E.1 E.2.1 d rfl (k ls H locs h1 h2 h3 h4)
theorem s_lcmp (E : EV p s m args meth c dC dI cI cZ cc nL own ret) {x y : Int64} (d : decode cc pc = .ok (.lcmp, 1))  (k : GG p l e R s m args below meth c Q A dC dI nL w (pc + 1) lv (.int (lg_cmp x y) :: rest)) : GG p l e R s m args below meth c Q A dC dI nL w (pc) lv (.long y :: .long x :: rest) :=
  fun ls H locs h1 h2 h3 h4 => W.lcmp E.1 E.2.1 d (k ls H locs h1 h2 h3 h4)
theorem s_dup (E : EV p s m args meth c dC dI cI cZ cc nL own ret) {v : Value} (d : decode cc pc = .ok (.dup, 1)) (hc : v.category = 1) (k : GG p l e R s m args below meth c Q A dC dI nL w (pc + 1) lv (v :: v :: rest)) : GG p l e R s m args below meth c Q A dC dI nL w (pc) lv (v :: rest) :=
  fun ls H locs h1 h2 h3 h4 => lv_dup E.1 E.2.1 d hc (k ls H locs h1 h2 h3 h4)
theorem s_dup2 (E : EV p s m args meth c dC dI cI cZ cc nL own ret) {va vb : Value} (d : decode cc pc = .ok (.dup2, 1)) (ha : va.category = 1) (hb : vb.category = 1) (k : GG p l e R s m args below meth c Q A dC dI nL w (pc + 1) lv (va :: vb :: va :: vb :: rest)) : GG p l e R s m args below meth c Q A dC dI nL w (pc) lv (va :: vb :: rest) :=
  fun ls H locs h1 h2 h3 h4 => lv_dup2_11 E.1 E.2.1 d ha hb (k ls H locs h1 h2 h3 h4)
theorem s_if_eq (E : EV p s m args meth c dC dI cI cZ cc nL own ret) {x : Int32} {off : Int} (tgt : Nat) (d : decode cc pc = .ok (.ifCond .eq off, 3)) (ht : (pc : Int) + off = (tgt : Int)) (kt : x = 0 → GG p l e R s m args below meth c Q A dC dI nL w (tgt) lv (rest)) (kf : ¬ (x = 0) → GG p l e R s m args below meth c Q A dC dI nL w (pc + 3) lv (rest)) : GG p l e R s m args below meth c Q A dC dI nL w (pc) lv (.int x :: rest) :=
  fun ls H locs h1 h2 h3 h4 => lv_if_eq E.1 E.2.1 d ht (fun q => kt q ls H locs h1 h2 h3 h4) (fun q => kf q ls H locs h1 h2 h3 h4)
theorem s_if_lt (E : EV p s m args meth c dC dI cI cZ cc nL own ret) {x : Int32} {off : Int} (tgt : Nat) (d : decode cc pc = .ok (.ifCond .lt off, 3)) (ht : (pc : Int) + off = (tgt : Int)) (kt : x < 0 → GG p l e R s m args below meth c Q A dC dI nL w (tgt) lv (rest)) (kf : ¬ (x < 0) → GG p l e R s m args below meth c Q A dC dI nL w (pc + 3) lv (rest)) : GG p l e R s m args below meth c Q A dC dI nL w (pc) lv (.int x :: rest) :=
  fun ls H locs h1 h2 h3 h4 => lv_if_lt E.1 E.2.1 d ht (fun q => kt q ls H locs h1 h2 h3 h4) (fun q => kf q ls H locs h1 h2 h3 h4)
theorem s_if_ge (E : EV p s m args meth c dC dI cI cZ cc nL own ret) {x : Int32} {off : Int} (tgt : Nat) (d : decode cc pc = .ok (.ifCond .ge off, 3)) (ht : (pc : Int) + off = (tgt : Int)) (kt : 0 ≤ x → GG p l e R s m args below meth c Q A dC dI nL w (tgt) lv (rest)) (kf : ¬ (0 ≤ x) → GG p l e R s m args below meth c Q A dC dI nL w (pc + 3) lv (rest)) : GG p l e R s m args below meth c Q A dC dI nL w (pc) lv (.int x :: rest) :=
  fun ls H locs h1 h2 h3 h4 => lv_if_ge E.1 E.2.1 d ht (fun q => kt q ls H locs h1 h2 h3 h4) (fun q => kf q ls H locs h1 h2 h3 h4)
theorem s_if_gt (E : EV p s m args meth c dC dI cI cZ cc nL own ret) {x : Int32} {off : Int} (tgt : Nat) (d : decode cc pc = .ok (.ifCond .gt off, 3)) (ht : (pc : Int) + off = (tgt : Int)) (kt : 0 < x → GG p l e R s m args below meth c Q A dC dI nL w (tgt) lv (rest)) (kf : ¬ (0 < x) → GG p l e R s m args below meth c Q A dC dI nL w (pc + 3) lv (rest)) : GG p l e R s m args below meth c Q A dC dI nL w (pc) lv (.int x :: rest) :=
  fun ls H locs h1 h2 h3 h4 => lv_if_gt E.1 E.2.1 d ht (fun q => kt q ls H locs h1 h2 h3 h4) (fun q => kf q ls H locs h1 h2 h3 h4)
theorem s_if_le (E : EV p s m args meth c dC dI cI cZ cc nL own ret) {x : Int32} {off : Int} (tgt : Nat) (d : decode cc pc = .ok (.ifCond .le off, 3)) (ht : (pc : Int) + off = (tgt : Int)) (kt : x ≤ 0 → GG p l e R s m args below meth c Q A dC dI nL w (tgt) lv (rest)) (kf : ¬ (x ≤ 0) → GG p l e R s m args below meth c Q A dC dI nL w (pc + 3) lv (rest)) : GG p l e R s m args below meth c Q A dC dI nL w (pc) lv (.int x :: rest) :=
  fun ls H locs h1 h2 h3 h4 => lv_if_le E.1 E.2.1 d ht (fun q => kt q ls H locs h1 h2 h3 h4) (fun q => kf q ls H locs h1 h2 h3 h4)
theorem s_icmp_eq (E : EV p s m args meth c dC dI cI cZ cc nL own ret) {x y : Int32} {off : Int} (tgt : Nat) (d : decode cc pc = .ok (.if_icmp .eq off, 3)) (ht : (pc : Int) + off = (tgt : Int)) (kt : x = y → GG p l e R s m args below meth c Q A dC dI nL w (tgt) lv (rest)) (kf : ¬ (x = y) → GG p l e R s m args below meth c Q A dC dI nL w (pc + 3) lv (rest)) : GG p l e R s m args below meth c Q A dC dI nL w (pc) lv (.int y :: .int x :: rest) :=
  fun ls H locs h1 h2 h3 h4 => lv_icmp_eq E.1 E.2.1 d ht (fun q => kt q ls H locs h1 h2 h3 h4) (fun q => kf q ls H locs h1 h2 h3 h4)
theorem s_icmp_lt (E : EV p s m args meth c dC dI cI cZ cc nL own ret) {x y : Int32} {off : Int} (tgt : Nat) (d : decode cc pc = .ok (.if_icmp .lt off, 3)) (ht : (pc : Int) + off = (tgt : Int)) (kt : x < y → GG p l e R s m args below meth c Q A dC dI nL w (tgt) lv (rest)) (kf : ¬ (x < y) → GG p l e R s m args below meth c Q A dC dI nL w (pc + 3) lv (rest)) : GG p l e R s m args below meth c Q A dC dI nL w (pc) lv (.int y :: .int x :: rest) :=
  fun ls H locs h1 h2 h3 h4 => lv_icmp_lt E.1 E.2.1 d ht (fun q => kt q ls H locs h1 h2 h3 h4) (fun q => kf q ls H locs h1 h2 h3 h4)
theorem s_icmp_ge (E : EV p s m args meth c dC dI cI cZ cc nL own ret) {x y : Int32} {off : Int} (tgt : Nat) (d : decode cc pc = .ok (.if_icmp .ge off, 3)) (ht : (pc : Int) + off = (tgt : Int)) (kt : y ≤ x → GG p l e R s m args below meth c Q A dC dI nL w (tgt) lv (rest)) (kf : ¬ (y ≤ x) → GG p l e R s m args below meth c Q A dC dI nL w (pc + 3) lv (rest)) : GG p l e R s m args below meth c Q A dC dI nL w (pc) lv (.int y :: .int x :: rest) :=
  fun ls H locs h1 h2 h3 h4 => lv_icmp_ge E.1 E.2.1 d ht (fun q => kt q ls H locs h1 h2 h3 h4) (fun q => kf q ls H locs h1 h2 h3 h4)
theorem s_icmp_gt (E : EV p s m args meth c dC dI cI cZ cc nL own ret) {x y : Int32} {off : Int} (tgt : Nat) (d : decode cc pc = .ok (.if_icmp .gt off, 3)) (ht : (pc : Int) + off = (tgt : Int)) (kt : y < x → GG p l e R s m args below meth c Q A dC dI nL w (tgt) lv (rest)) (kf : ¬ (y < x) → GG p l e R s m args below meth c Q A dC dI nL w (pc + 3) lv (rest)) : GG p l e R s m args below meth c Q A dC dI nL w (pc) lv (.int y :: .int x :: rest) :=
  fun ls H locs h1 h2 h3 h4 => lv_icmp_gt E.1 E.2.1 d ht (fun q => kt q ls H locs h1 h2 h3 h4) (fun q => kf q ls H locs h1 h2 h3 h4)
theorem s_icmp_le (E : EV p s m args meth c dC dI cI cZ cc nL own ret) {x y : Int32} {off : Int} (tgt : Nat) (d : decode cc pc = .ok (.if_icmp .le off, 3)) (ht : (pc : Int) + off = (tgt : Int)) (kt : x ≤ y → GG p l e R s m args below meth c Q A dC dI nL w (tgt) lv (rest)) (kf : ¬ (x ≤ y) → GG p l e R s m args below meth c Q A dC dI nL w (pc + 3) lv (rest)) : GG p l e R s m args below meth c Q A dC dI nL w (pc) lv (.int y :: .int x :: rest) :=
  fun ls H locs h1 h2 h3 h4 => lv_icmp_le E.1 E.2.1 d ht (fun q => kt q ls H locs h1 h2 h3 h4) (fun q => kf q ls H locs h1 h2 h3 h4)
theorem s_if_ne (E : EV p s m args meth c dC dI cI cZ cc nL own ret) {x : Int32} {off : Int} (tgt : Nat) (d : decode cc pc = .ok (.ifCond .ne off, 3)) (ht : (pc : Int) + off = (tgt : Int)) (kf : x = 0 → GG p l e R s m args below meth c Q A dC dI nL w (pc + 3) lv (rest)) (kt : ¬ (x = 0) → GG p l e R s m args below meth c Q A dC dI nL w (tgt) lv (rest)) : GG p l e R s m args below meth c Q A dC dI nL w (pc) lv (.int x :: rest) :=
  fun ls H locs h1 h2 h3 h4 => lv_if_ne E.1 E.2.1 d ht (fun q => kt q ls H locs h1 h2 h3 h4) (fun q => kf q ls H locs h1 h2 h3 h4)
theorem s_icmp_ne (E : EV p s m args meth c dC dI cI cZ cc nL own ret) {x y : Int32} {off : Int} (tgt : Nat) (d : decode cc pc = .ok (.if_icmp .ne off, 3)) (ht : (pc : Int) + off = (tgt : Int)) (kf : x = y → GG p l e R s m args below meth c Q A dC dI nL w (pc + 3) lv (rest)) (kt : ¬ (x = y) → GG p l e R s m args below meth c Q A dC dI nL w (tgt) lv (rest)) : GG p l e R s m args below meth c Q A dC dI nL w (pc) lv (.int y :: .int x :: rest) :=
  fun ls H locs h1 h2 h3 h4 => lv_icmp_ne E.1 E.2.1 d ht (fun q => kt q ls H locs h1 h2 h3 h4) (fun q => kf q ls H locs h1 h2 h3 h4)
theorem s_goto (E : EV p s m args meth c dC dI cI cZ cc nL own ret) {off : Int} (tgt : Nat) (d : decode cc pc = .ok (.goto off, 3)) (ht : (pc : Int) + off = (tgt : Int)) (k : GG p l e R s m args below meth c Q A dC dI nL w (tgt) lv (rest)) : GG p l e R s m args below meth c Q A dC dI nL w (pc) lv (rest) :=
  fun ls H locs h1 h2 h3 h4 => lv_goto E.1 E.2.1 d ht (k ls H locs h1 h2 h3 h4)
theorem s_ldc (E : EV p s m args meth c dC dI cI cZ cc nL own ret) {index : Nat} {v : Int32} (hm : Cond.constant own index v ∈ wG) (d : decode cc pc = .ok (.ldc index, 2)) (k : GG p l e R s m args below meth c Q A dC dI nL w (pc + 2) lv (.int v :: rest)) : GG p l e R s m args below meth c Q A dC dI nL w (pc) lv (rest) :=
  fun ls H locs h1 h2 h3 h4 => lv_ldc E.1 E.2.1 E.2.2.2.1 (E.2.2.2.2.1 _ hm) d (k ls H locs h1 h2 h3 h4)
theorem s_ldcw (E : EV p s m args meth c dC dI cI cZ cc nL own ret) {index : Nat} {v : Int32} (hm : Cond.constant own index v ∈ wG) (d : decode cc pc = .ok (.ldc_w index, 3)) (k : GG p l e R s m args below meth c Q A dC dI nL w (pc + 3) lv (.int v :: rest)) : GG p l e R s m args below meth c Q A dC dI nL w (pc) lv (rest) :=
  fun ls H locs h1 h2 h3 h4 => lv_ldcw E.1 E.2.1 E.2.2.2.1 (E.2.2.2.2.1 _ hm) d (k ls H locs h1 h2 h3 h4)
theorem s_ldc2 (E : EV p s m args meth c dC dI cI cZ cc nL own ret) {index : Nat} {v : Int64} (hm : Cond.constantLong own index v ∈ wG) (d : decode cc pc = .ok (.ldc2_w index, 3)) (k : GG p l e R s m args below meth c Q A dC dI nL w (pc + 3) lv (.long v :: rest)) : GG p l e R s m args below meth c Q A dC dI nL w (pc) lv (rest) :=
  fun ls H locs h1 h2 h3 h4 => lv_ldc2 E.1 E.2.1 E.2.2.2.1 (E.2.2.2.2.1 _ hm) d (k ls H locs h1 h2 h3 h4)
theorem s_swOut (E : EV p s m args meth c dC dI cI cZ cc nL own ret) {x : Int32} {dflt lo hi : Int} {offs : Array Int} {len : Nat} (tgt : Nat) (d : decode cc pc = .ok (.tableswitch dflt lo hi offs, len)) (h : x.toInt < lo ∨ hi < x.toInt) (ht : (pc : Int) + dflt = (tgt : Int)) (k : GG p l e R s m args below meth c Q A dC dI nL w (tgt) lv (rest)) : GG p l e R s m args below meth c Q A dC dI nL w (pc) lv (.int x :: rest) :=
  fun ls H locs h1 h2 h3 h4 => lv_tableOut E.1 E.2.1 d h ht (k ls H locs h1 h2 h3 h4)
theorem s_swIn (E : EV p s m args meth c dC dI cI cZ cc nL own ret) {x : Int32} {dflt lo hi off : Int} {offs : Array Int} {len : Nat} (tgt : Nat) (d : decode cc pc = .ok (.tableswitch dflt lo hi offs, len)) (ha : ¬ x.toInt < lo) (hb : ¬ hi < x.toInt) (ho : offs[(x.toInt - lo).toNat]? = some off) (ht : (pc : Int) + off = (tgt : Int)) (k : GG p l e R s m args below meth c Q A dC dI nL w (tgt) lv (rest)) : GG p l e R s m args below meth c Q A dC dI nL w (pc) lv (.int x :: rest) :=
  fun ls H locs h1 h2 h3 h4 => lv_tableIn E.1 E.2.1 d ha hb ho ht (k ls H locs h1 h2 h3 h4)
theorem s_sub (E : EV p s m args meth c dC dI cI cZ cc nL own ret) (ks : List Nat) (hl : lv_pick lv ks = lv') (k : GG p l e R s m args below meth c Q A dC dI nL w (pc) lv' (rest)) : GG p l e R s m args below meth c Q A dC dI nL w (pc) lv (rest) :=
  fun ls H locs h1 h2 h3 h4 => k ls H locs (lv_sub h1 ks hl) h2 h3 h4
theorem s_get (E : EV p s m args meth c dC dI cI cZ cc nL own ret) {C : String} {T : u_T} {N ci a index : Nat} {fs : List Value} {v : Value} (q0 kk : Nat) (hin : ∀ w ∈ u_ws C T N, w ∈ wG) (hc : vwCl[ci]? = some (C, T, N)) (he : w[q0]? = some (a, .inr (ci, fs))) (hkk : kk < N) (hm : Cond.fieldLink own index (T kk).1 (T kk).2.1 (T kk).2.2.1 ∈ wG) (hv : fs[kk]? = some v) (d : decode cc pc = .ok (.getfield index, 3)) (k : GG p l e R s m args below meth c Q A dC dI nL w (pc + 3) lv (v :: rest)) : GG p l e R s m args below meth c Q A dC dI nL w (pc) lv (.ref a :: rest) :=
  fun ls H locs h1 h2 h3 h4 => va_get E.1 E.2.1 E.2.2.2.2.1 hin E.2.2.2.1 E.2.2.2.2.2.1.1 h2 q0 he hc kk hkk (E.2.2.2.2.1 _ hm) (fun _ h => h) hv d (k ls H locs h1 h2 h3 h4)
theorem s_put (E : EV p s m args meth c dC dI cI cZ cc nL own ret) {C : String} {T : u_T} {N ci a index : Nat} {fs : List Value} {v : Value} {ty : FieldType} (q0 kk : Nat) (ty0 : Nat → FieldType) (hty : ∀ k, k < N → parseFieldDescriptor (T k).2.2.1 = some (ty0 k)) (hnm : ∀ a, a < N → ∀ b, b < N → a ≠ b → (T a).2.1 ≠ (T b).2.1) (hin : ∀ w ∈ u_ws C T N, w ∈ wG) (hc : vwCl[ci]? = some (C, T, N)) (he : w[q0]? = some (a, .inr (ci, fs))) (hkk : kk < N) (hm : Cond.fieldLink own index (T kk).1 (T kk).2.1 (T kk).2.2.1 ∈ wG) (hfin : (T kk).2.2.2 = false) (hd : parseFieldDescriptor (T kk).2.2.1 = some ty) (hn : narrow ty v = v) (hfit : fits ty v = true) (hl : kk < fs.length) (hw : w.set q0 (a, .inr (ci, fs.set kk v)) = w') (d : decode cc pc = .ok (.putfield index, 3)) (k : GG p l e R s m args below meth c Q A dC dI nL w' (pc + 3) lv (rest)) : GG p l e R s m args below meth c Q A dC dI nL w (pc) lv (v :: .ref a :: rest) :=
  fun ls H locs h1 h2 h3 h4 => va_put E.1 E.2.1 E.2.2.2.2.1 hin ty0 hty hnm E.2.2.2.1 E.2.2.2.2.2.1.1 h2 h3 h4 q0 he hc kk hkk (E.2.2.2.2.1 _ hm) (fun _ h => h) hfin hd hn hfit hl d (fun H1 locs1 a1 a2 a3 => k ls H1 locs1 h1 (hw ▸ a1) (hw ▸ a2) a3)
theorem s_iald (E : EV p s m args meth c dC dI cI cZ cc nL own ret) {n a : Nat} {i : Int32} {f : Nat → Int32} (q0 : Nat) (he : w[q0]? = some (a, .inl (cI, n, .inl f))) (hb : vp_in i n) {v : Int32} (hv : f i.toNatClampNeg = v) (d : decode cc pc = .ok (.iaload, 1)) (k : GG p l e R s m args below meth c Q A dC dI nL w (pc + 1) lv (.int v :: rest)) : GG p l e R s m args below meth c Q A dC dI nL w (pc) lv (.int i :: .ref a :: rest) :=
  fun ls H locs h1 h2 h3 h4 => va_iald E.1 E.2.1 E.2.2.2.2.2.1.1 h2 q0 0 he rfl hb d (hv ▸ (k ls H locs h1 h2 h3 h4))
theorem s_zald (E : EV p s m args meth c dC dI cI cZ cc nL own ret) {n a : Nat} {i : Int32} {f : Nat → Int32} (q0 : Nat) (he : w[q0]? = some (a, .inl (cZ, n, .inl f))) (hb : vp_in i n) {v : Int32} (hv : f i.toNatClampNeg = v) (d : decode cc pc = .ok (.baload, 1)) (k : GG p l e R s m args below meth c Q A dC dI nL w (pc + 1) lv (.int v :: rest)) : GG p l e R s m args below meth c Q A dC dI nL w (pc) lv (.int i :: .ref a :: rest) :=
  fun ls H locs h1 h2 h3 h4 => va_zald E.1 E.2.1 E.2.2.2.2.2.1.1 h2 q0 1 he rfl hb d (hv ▸ (k ls H locs h1 h2 h3 h4))
theorem s_iast (E : EV p s m args meth c dC dI cI cZ cc nL own ret) {n a : Nat} {i x : Int32} {f : Nat → Int32} (q0 : Nat) (he : w[q0]? = some (a, .inl (cI, n, .inl f))) (hb : vp_in i n) (hw : w.set q0 (a, .inl (cI, n, .inl (upd f i.toNatClampNeg (x)))) = w') (d : decode cc pc = .ok (.iastore, 1)) (k : GG p l e R s m args below meth c Q A dC dI nL w' (pc + 1) lv (rest)) : GG p l e R s m args below meth c Q A dC dI nL w (pc) lv (.int x :: .int i :: .ref a :: rest) :=
  fun ls H locs h1 h2 h3 h4 => va_iast E.1 E.2.1 E.2.2.2.2.2.1.1 h2 h3 h4 q0 0 he rfl hb d (fun H1 locs1 a1 a2 a3 => k ls H1 locs1 h1 (hw ▸ a1) (hw ▸ a2) a3)
theorem s_zast (E : EV p s m args meth c dC dI cI cZ cc nL own ret) {n a : Nat} {i x : Int32} {f : Nat → Int32} (q0 : Nat) (he : w[q0]? = some (a, .inl (cZ, n, .inl f))) (hb : vp_in i n) (hw : w.set q0 (a, .inl (cZ, n, .inl (upd f i.toNatClampNeg (vp_nar .boolean x)))) = w') (d : decode cc pc = .ok (.bastore, 1)) (k : GG p l e R s m args below meth c Q A dC dI nL w' (pc + 1) lv (rest)) : GG p l e R s m args below meth c Q A dC dI nL w (pc) lv (.int x :: .int i :: .ref a :: rest) :=
  fun ls H locs h1 h2 h3 h4 => va_zast E.1 E.2.1 E.2.2.2.2.2.1.1 h2 h3 h4 q0 1 he rfl hb d (fun H1 locs1 a1 a2 a3 => k ls H1 locs1 h1 (hw ▸ a1) (hw ▸ a2) a3)
theorem s_mmax (E : EV p s m args meth c dC dI cI cZ cc nL own ret) {index : Nat} {x y : Int32} (hm : Cond.methodLink own index Lib.Math.max.name ∈ wG) (hf : 1 ≤ R.frames) (hlo : (rest.map fun v => v.category).sum + 13 ≤ R.locals) (d : decode cc pc = .ok (.invokestatic index, 3)) (k : GG p l e R s m args below meth c Q A dC dI nL w (pc + 3) lv (.int (if x < y then y else x) :: rest)) : GG p l e R s m args below meth c Q A dC dI nL w (pc) lv (.int y :: .int x :: rest) :=
  fun ls H locs h1 h2 h3 h4 => va_mmax E.1 E.2.1 (E.2.2.1.trans h1.1.symm) E.2.2.2.1 (E.2.2.2.2.1 _ hm) (E.2.2.2.2.1 (.static Lib.Math.max.name) m_stat_J9_max_7cf53) (E.2.2.2.2.1 (.initialized "java/lang/Math") m_ini_J9) (E.2.2.2.2.1 (.code Lib.Math.max.name Lib.Math.max.code 2 (some .int)) m_code_J9_max_7cf53) hf hlo (Nat.zero_le _) (Nat.zero_le _) d (k ls H locs h1 h2 h3 h4)
theorem s_mmin (E : EV p s m args meth c dC dI cI cZ cc nL own ret) {index : Nat} {x y : Int32} (hm : Cond.methodLink own index Lib.Math.min.name ∈ wG) (hf : 1 ≤ R.frames) (hlo : (rest.map fun v => v.category).sum + 13 ≤ R.locals) (d : decode cc pc = .ok (.invokestatic index, 3)) (k : GG p l e R s m args below meth c Q A dC dI nL w (pc + 3) lv (.int (if y < x then y else x) :: rest)) : GG p l e R s m args below meth c Q A dC dI nL w (pc) lv (.int y :: .int x :: rest) :=
  fun ls H locs h1 h2 h3 h4 => va_mmin E.1 E.2.1 (E.2.2.1.trans h1.1.symm) E.2.2.2.1 (E.2.2.2.2.1 _ hm) (E.2.2.2.2.1 (.static Lib.Math.min.name) m_stat_J9_min_7cf53) (E.2.2.2.2.1 (.initialized "java/lang/Math") m_ini_J9) (E.2.2.2.2.1 (.code Lib.Math.min.name Lib.Math.min.code 2 (some .int)) m_code_J9_min_7cf53) hf hlo (Nat.zero_le _) (Nat.zero_le _) d (k ls H locs h1 h2 h3 h4)
end
/-- what a callee's words say of it: an instance method -/
def CV (y : MethodName) (C : String) (bytes : ByteArray) (maxL : Nat) (ret : Option FieldType) (n : Nat) : Prop := Cond.code y bytes maxL ret ∈ wG ∧ Cond.instanceMethod y ∈ wG ∧ Cond.selects C y y ∈ wG ∧ Cond.initialized C ∈ wG ∧ (y.cls = C ∧ y.cls ≠ "java/lang/invoke/MethodHandle" ∧ y.cls ≠ "java/lang/invoke/VarHandle" ∧ (parseMethodDescriptor y.desc).map (fun d => d.parameters.length) = some n)
/-- .. a static one -/
def CS (y : MethodName) (C : String) (bytes : ByteArray) (maxL : Nat) (ret : Option FieldType) (n : Nat) : Prop := Cond.code y bytes maxL ret ∈ wG ∧ Cond.static y ∈ wG ∧ Cond.initialized C ∈ wG ∧ (y.cls = C ∧ y.cls ≠ "java/lang/invoke/MethodHandle" ∧ y.cls ≠ "java/lang/invoke/VarHandle" ∧ (parseMethodDescriptor y.desc).map (fun d => d.parameters.length) = some n)
theorem b_goodIn {y : MethodName} {bytes : ByteArray} {maxL : Nat} {ret : Option FieldType} (h : Cond.code y bytes maxL ret ∈ wG) : GoodIn wG (Cond.code y bytes maxL ret :: wG) := by
  intro w hw
  rcases List.mem_cons.mp hw with rfl | hw
  · exact ⟨h, good_of_word (List.mem_filter.mp h).2⟩
  · exact ⟨hw, good_of_word (List.mem_filter.mp hw).2⟩
section
variable {p : Program} {l : Launch} {e : Env} {R : Room} {s : State} {m : MethodId} {args : Array Value} {below : List Frame} {meth : Method} {c : Code} {Q : State → Prop} {A : Nat → Prop} {dC : Nat → ClassId} {dI : Nat → Nat → Nat} {cI cZ : ClassId} {cc : ByteArray} {nL : Nat} {own : String} {ret : Option FieldType} {w w' : va_W} {pc : Nat} {lv lv' : List (Nat × Value)} {rest st : List Value}
/-- behind a call -/
theorem b_after {y : MethodName} {rm : Room} {ov : Option Value} {a : Array Value} {ls : Array Slot} {H : Heap} {locs : List Loc} {st0 : List Value} (hr : va_Run p l e R s m args below meth c H locs 0 0 0 0 (F0 m pc ls st0) rest (CQ dC dI ov w' A a) A) (h1 : lv_has ls nL lv) (h4 : va_S A s.heap H locs) (k : GG p l e R s m args below meth c Q A dC dI nL w' (pc + 3) lv (ov.toList ++ rest)) : W p l e R s m args below meth c H locs 0 0 Q (F0 m pc ls st0) := by
  intro T hT X
  obtain ⟨v, st₀, t, T', L, h0, X', hL, e1, e2, ⟨⟨hv, hP, hD⟩, hz, hk⟩, stp⟩ := hr T hT X
  cases hv
  rw [h0] at hz hk
  have hS : va_S A s.heap T'.heap (locs ++ L) := ⟨Nat.le_trans h4.1 (by rw [e1]; exact hz), fun q g1 g2 => by rw [e1, hk q (Nat.lt_of_lt_of_le g1 h4.1) g2]; exact h4.2.1 q g1 g2, fun q hq => by
      rcases List.mem_append.mp hq with h | h
      · exact h4.2.2 q h
      · exact hL q h⟩
  obtain ⟨t2, a1, b1⟩ := k ls T'.heap (locs ++ L) h1 (by rw [e1]; exact hP) hD hS T' rfl X'
  exact ⟨t2, stp t2 a1, b1⟩

theorem s_callV (E : EV p s m args meth c dC dI cI cZ cc nL own ret) {y : MethodName} {C : String} {bytes : ByteArray} {maxL n idx b ci q0 : Nat} {ret2 : Option FieldType} {rm : Room} {As fs : List Value} {ov : Option Value} {r : vw_C} (hF : CV y C bytes maxL ret2 n) (hm : Cond.methodLink own idx y ∈ wG) (hM : CT l dC dI cI cZ A y bytes maxL ret2 rm (.ref b :: As) w w' ov) (hrm : rm.cells = 0 ∧ rm.slots = 0 ∧ rm.frames + 1 ≤ R.frames ∧ 8 + (maxL + 11) + rm.locals ≤ R.locals) (hq : w[q0]? = some (b, .inr (ci, fs))) (hcl : vwCl[ci]? = some r) (hrC : r.1 = C) (hn : As.length = n) (hst : st = As.reverse ++ .ref b :: rest) (hsum : (rest.map fun v => v.category).sum ≤ 8) (d : decode cc pc = .ok (.invokevirtual idx, 3)) (k : GG p l e R s m args below meth c Q A dC dI nL w' (pc + 3) lv (ov.toList ++ rest)) : GG p l e R s m args below meth c Q A dC dI nL w pc lv st := by
  intro ls H locs h1 h2 h3 h4
  obtain ⟨f1, f2, f3, f4, f5⟩ := hF
  have hts := E.2.2.2.2.1
  subst hst
  refine b_after (y := y) (rm := rm) (va_runV (Ts := wG) (bytes := bytes) (maxL := maxL) (ret := ret2) (C := C) (n := n) (index := idx) ⟨E.1, E.2.1, E.2.2.1, E.2.2.2.1, hts⟩ hM ?_ ⟨?_, ?_, ?_⟩ rfl hn h1.1 rfl (lv_room hsum) d ⟨Nat.zero_le _, Nat.zero_le _⟩) h1 h4 k
  · obtain ⟨fC, fd⟩ := f5
    exact ⟨callB_of n hts (b_goodIn f1) rfl hrm.1 hrm.2.1 (by rw [fC]; exact hts _ f4) (hts _ hm) fd ⟨hrm.2.2.1, hrm.2.2.2⟩, hts _ f2, hts _ f3⟩
  · exact fun a U g mk q => ⟨q.1, q.2.1, q.2.2.1.calling g mk a, q.2.2.2⟩
  · rw [← hrC]
    exact va_recv E.2.2.2.2.2.1.1 h2 hcl hq
  · exact fun U hU hW => ⟨rfl, by rw [hU]; exact h2, KK.warm hW E.2.2.2.2.2.1, h3⟩
theorem s_callS (E : EV p s m args meth c dC dI cI cZ cc nL own ret) {y : MethodName} {C : String} {bytes : ByteArray} {maxL n idx : Nat} {ret2 : Option FieldType} {rm : Room} {As : List Value} {ov : Option Value} (hF : CS y C bytes maxL ret2 n) (hm : Cond.methodLink own idx y ∈ wG) (hM : CT l dC dI cI cZ A y bytes maxL ret2 rm As w w' ov) (hrm : rm.cells = 0 ∧ rm.slots = 0 ∧ rm.frames + 1 ≤ R.frames ∧ 8 + (maxL + 11) + rm.locals ≤ R.locals) (hn : As.length = n) (hst : st = As.reverse ++ rest) (hsum : (rest.map fun v => v.category).sum ≤ 8) (d : decode cc pc = .ok (.invokestatic idx, 3)) (k : GG p l e R s m args below meth c Q A dC dI nL w' (pc + 3) lv (ov.toList ++ rest)) : GG p l e R s m args below meth c Q A dC dI nL w pc lv st := by
  intro ls H locs h1 h2 h3 h4
  obtain ⟨f1, f2, f4, f5⟩ := hF
  have hts := E.2.2.2.2.1
  subst hst
  refine b_after (y := y) (rm := rm) (va_runS (Ts := wG) (bytes := bytes) (maxL := maxL) (ret := ret2) (n := n) (index := idx) ⟨E.1, E.2.1, E.2.2.1, E.2.2.2.1, hts⟩ hM ?_ ⟨?_, ?_⟩ rfl hn h1.1 rfl (lv_room hsum) d ⟨Nat.zero_le _, Nat.zero_le _⟩) h1 h4 k
  · obtain ⟨fC, fd⟩ := f5
    exact ⟨callB_of n hts (b_goodIn f1) rfl hrm.1 hrm.2.1 (by rw [fC]; exact hts _ f4) (hts _ hm) fd ⟨hrm.2.2.1, hrm.2.2.2⟩, hts _ f2⟩
  · exact fun a U g mk q => ⟨q.1, q.2.1, q.2.2.1.calling g mk a, q.2.2.2⟩
  · exact fun U hU hW => ⟨rfl, by rw [hU]; exact h2, KK.warm hW E.2.2.2.2.2.1, h3⟩
theorem s_callSN (E : EV p s m args meth c dC dI cI cZ cc nL own ret) {y : MethodName} {C : String} {bytes : ByteArray} {maxL n idx : Nat} {ret2 : Option FieldType} {rm : Room} {As : List Value} {ov : Option Value} (hF : CS y C bytes maxL ret2 n) (hm : (own, idx, y) ∈ nestT) (hM : CT l dC dI cI cZ A y bytes maxL ret2 rm As w w' ov) (hrm : rm.cells = 0 ∧ rm.slots = 0 ∧ rm.frames + 1 ≤ R.frames ∧ 8 + (maxL + 11) + rm.locals ≤ R.locals) (hn : As.length = n) (hst : st = As.reverse ++ rest) (hsum : (rest.map fun v => v.category).sum ≤ 8) (d : decode cc pc = .ok (.invokestatic idx, 3)) (k : GG p l e R s m args below meth c Q A dC dI nL w' (pc + 3) lv (ov.toList ++ rest)) : GG p l e R s m args below meth c Q A dC dI nL w pc lv st := by
  intro ls H locs h1 h2 h3 h4
  obtain ⟨f1, f2, f4, f5⟩ := hF
  have hts := E.2.2.2.2.1
  subst hst
  obtain ⟨fC, fd⟩ := f5
  refine b_after (y := y) (rm := rm) (va_runSN (Ts := wG) (bytes := bytes) (maxL := maxL) (ret := ret2) (n := n) (index := idx) (host := RX4) ⟨E.1, E.2.1, E.2.2.1, E.2.2.2.1, hts⟩ hM ⟨va_cnB n hts (b_goodIn f1) rfl hrm.1 hrm.2.1 (E.2.2.2.2.2.1.2 _ hm) (by rw [fC]; exact hts _ f4) fd ⟨hrm.2.2.1, hrm.2.2.2⟩, hts _ f2, trivial⟩ ⟨?_, ?_⟩ rfl hn h1.1 rfl (lv_room hsum) d ⟨Nat.zero_le _, Nat.zero_le _⟩) h1 h4 k
  · exact fun a U g mk q => ⟨q.1, q.2.1, q.2.2.1.calling g mk a, q.2.2.2⟩
  · exact fun U hU hW => ⟨rfl, by rw [hU]; exact h2, KK.warm hW E.2.2.2.2.2.1, h3⟩
theorem s_callVi (E : EV p s m args meth c dC dI cI cZ cc nL own ret) {y : MethodName} {C : String} {bytes : ByteArray} {maxL n idx b ci q0 : Nat} {ret2 : Option FieldType} {rm : Room} {As fs : List Value} {r : Int32} {r0 : vw_C} (hF : CV y C bytes maxL ret2 n) (hm : Cond.methodLink own idx y ∈ wG) (hM : CT l dC dI cI cZ A y bytes maxL ret2 rm (.ref b :: As) w w' (some (.int r))) (hrm : rm.cells = 0 ∧ rm.slots = 0 ∧ rm.frames + 1 ≤ R.frames ∧ 8 + (maxL + 11) + rm.locals ≤ R.locals) (hq : w[q0]? = some (b, .inr (ci, fs))) (hcl : vwCl[ci]? = some r0) (hrC : r0.1 = C) (hn : As.length = n) (hst : st = As.reverse ++ .ref b :: rest) (hsum : (rest.map fun v => v.category).sum ≤ 8) (d : decode cc pc = .ok (.invokevirtual idx, 3)) (k : GG p l e R s m args below meth c Q A dC dI nL w' (pc + 3) lv (.int r :: rest)) : GG p l e R s m args below meth c Q A dC dI nL w pc lv st := s_callV E hF hm hM hrm hq hcl hrC hn hst hsum d k
theorem s_callVv (E : EV p s m args meth c dC dI cI cZ cc nL own ret) {y : MethodName} {C : String} {bytes : ByteArray} {maxL n idx b ci q0 : Nat} {ret2 : Option FieldType} {rm : Room} {As fs : List Value}  {r0 : vw_C} (hF : CV y C bytes maxL ret2 n) (hm : Cond.methodLink own idx y ∈ wG) (hM : CT l dC dI cI cZ A y bytes maxL ret2 rm (.ref b :: As) w w' none) (hrm : rm.cells = 0 ∧ rm.slots = 0 ∧ rm.frames + 1 ≤ R.frames ∧ 8 + (maxL + 11) + rm.locals ≤ R.locals) (hq : w[q0]? = some (b, .inr (ci, fs))) (hcl : vwCl[ci]? = some r0) (hrC : r0.1 = C) (hn : As.length = n) (hst : st = As.reverse ++ .ref b :: rest) (hsum : (rest.map fun v => v.category).sum ≤ 8) (d : decode cc pc = .ok (.invokevirtual idx, 3)) (k : GG p l e R s m args below meth c Q A dC dI nL w' (pc + 3) lv (rest)) : GG p l e R s m args below meth c Q A dC dI nL w pc lv st := s_callV E hF hm hM hrm hq hcl hrC hn hst hsum d k
theorem s_callVr (E : EV p s m args meth c dC dI cI cZ cc nL own ret) {y : MethodName} {C : String} {bytes : ByteArray} {maxL n idx b ci q0 : Nat} {ret2 : Option FieldType} {rm : Room} {As fs : List Value} {r : Nat} {r0 : vw_C} (hF : CV y C bytes maxL ret2 n) (hm : Cond.methodLink own idx y ∈ wG) (hM : CT l dC dI cI cZ A y bytes maxL ret2 rm (.ref b :: As) w w' (some (.ref r))) (hrm : rm.cells = 0 ∧ rm.slots = 0 ∧ rm.frames + 1 ≤ R.frames ∧ 8 + (maxL + 11) + rm.locals ≤ R.locals) (hq : w[q0]? = some (b, .inr (ci, fs))) (hcl : vwCl[ci]? = some r0) (hrC : r0.1 = C) (hn : As.length = n) (hst : st = As.reverse ++ .ref b :: rest) (hsum : (rest.map fun v => v.category).sum ≤ 8) (d : decode cc pc = .ok (.invokevirtual idx, 3)) (k : GG p l e R s m args below meth c Q A dC dI nL w' (pc + 3) lv (.ref r :: rest)) : GG p l e R s m args below meth c Q A dC dI nL w pc lv st := s_callV E hF hm hM hrm hq hcl hrC hn hst hsum d k
theorem s_callSi (E : EV p s m args meth c dC dI cI cZ cc nL own ret) {y : MethodName} {C : String} {bytes : ByteArray} {maxL n idx : Nat} {ret2 : Option FieldType} {rm : Room} {As : List Value} {r : Int32} (hF : CS y C bytes maxL ret2 n) (hm : Cond.methodLink own idx y ∈ wG) (hM : CT l dC dI cI cZ A y bytes maxL ret2 rm As w w' (some (.int r))) (hrm : rm.cells = 0 ∧ rm.slots = 0 ∧ rm.frames + 1 ≤ R.frames ∧ 8 + (maxL + 11) + rm.locals ≤ R.locals) (hn : As.length = n) (hst : st = As.reverse ++ rest) (hsum : (rest.map fun v => v.category).sum ≤ 8) (d : decode cc pc = .ok (.invokestatic idx, 3)) (k : GG p l e R s m args below meth c Q A dC dI nL w' (pc + 3) lv (.int r :: rest)) : GG p l e R s m args below meth c Q A dC dI nL w pc lv st := s_callS E hF hm hM hrm hn hst hsum d k
theorem s_callSv (E : EV p s m args meth c dC dI cI cZ cc nL own ret) {y : MethodName} {C : String} {bytes : ByteArray} {maxL n idx : Nat} {ret2 : Option FieldType} {rm : Room} {As : List Value}  (hF : CS y C bytes maxL ret2 n) (hm : Cond.methodLink own idx y ∈ wG) (hM : CT l dC dI cI cZ A y bytes maxL ret2 rm As w w' none) (hrm : rm.cells = 0 ∧ rm.slots = 0 ∧ rm.frames + 1 ≤ R.frames ∧ 8 + (maxL + 11) + rm.locals ≤ R.locals) (hn : As.length = n) (hst : st = As.reverse ++ rest) (hsum : (rest.map fun v => v.category).sum ≤ 8) (d : decode cc pc = .ok (.invokestatic idx, 3)) (k : GG p l e R s m args below meth c Q A dC dI nL w' (pc + 3) lv (rest)) : GG p l e R s m args below meth c Q A dC dI nL w pc lv st := s_callS E hF hm hM hrm hn hst hsum d k
theorem s_callSr (E : EV p s m args meth c dC dI cI cZ cc nL own ret) {y : MethodName} {C : String} {bytes : ByteArray} {maxL n idx : Nat} {ret2 : Option FieldType} {rm : Room} {As : List Value} {r : Nat} (hF : CS y C bytes maxL ret2 n) (hm : Cond.methodLink own idx y ∈ wG) (hM : CT l dC dI cI cZ A y bytes maxL ret2 rm As w w' (some (.ref r))) (hrm : rm.cells = 0 ∧ rm.slots = 0 ∧ rm.frames + 1 ≤ R.frames ∧ 8 + (maxL + 11) + rm.locals ≤ R.locals) (hn : As.length = n) (hst : st = As.reverse ++ rest) (hsum : (rest.map fun v => v.category).sum ≤ 8) (d : decode cc pc = .ok (.invokestatic idx, 3)) (k : GG p l e R s m args below meth c Q A dC dI nL w' (pc + 3) lv (.ref r :: rest)) : GG p l e R s m args below meth c Q A dC dI nL w pc lv st := s_callS E hF hm hM hrm hn hst hsum d k
theorem s_callSNi (E : EV p s m args meth c dC dI cI cZ cc nL own ret) {y : MethodName} {C : String} {bytes : ByteArray} {maxL n idx : Nat} {ret2 : Option FieldType} {rm : Room} {As : List Value} {r : Int32} (hF : CS y C bytes maxL ret2 n) (hm : (own, idx, y) ∈ nestT) (hM : CT l dC dI cI cZ A y bytes maxL ret2 rm As w w' (some (.int r))) (hrm : rm.cells = 0 ∧ rm.slots = 0 ∧ rm.frames + 1 ≤ R.frames ∧ 8 + (maxL + 11) + rm.locals ≤ R.locals) (hn : As.length = n) (hst : st = As.reverse ++ rest) (hsum : (rest.map fun v => v.category).sum ≤ 8) (d : decode cc pc = .ok (.invokestatic idx, 3)) (k : GG p l e R s m args below meth c Q A dC dI nL w' (pc + 3) lv (.int r :: rest)) : GG p l e R s m args below meth c Q A dC dI nL w pc lv st := s_callSN E hF hm hM hrm hn hst hsum d k
theorem s_callSNv (E : EV p s m args meth c dC dI cI cZ cc nL own ret) {y : MethodName} {C : String} {bytes : ByteArray} {maxL n idx : Nat} {ret2 : Option FieldType} {rm : Room} {As : List Value}  (hF : CS y C bytes maxL ret2 n) (hm : (own, idx, y) ∈ nestT) (hM : CT l dC dI cI cZ A y bytes maxL ret2 rm As w w' none) (hrm : rm.cells = 0 ∧ rm.slots = 0 ∧ rm.frames + 1 ≤ R.frames ∧ 8 + (maxL + 11) + rm.locals ≤ R.locals) (hn : As.length = n) (hst : st = As.reverse ++ rest) (hsum : (rest.map fun v => v.category).sum ≤ 8) (d : decode cc pc = .ok (.invokestatic idx, 3)) (k : GG p l e R s m args below meth c Q A dC dI nL w' (pc + 3) lv (rest)) : GG p l e R s m args below meth c Q A dC dI nL w pc lv st := s_callSN E hF hm hM hrm hn hst hsum d k
theorem s_callSNr (E : EV p s m args meth c dC dI cI cZ cc nL own ret) {y : MethodName} {C : String} {bytes : ByteArray} {maxL n idx : Nat} {ret2 : Option FieldType} {rm : Room} {As : List Value} {r : Nat} (hF : CS y C bytes maxL ret2 n) (hm : (own, idx, y) ∈ nestT) (hM : CT l dC dI cI cZ A y bytes maxL ret2 rm As w w' (some (.ref r))) (hrm : rm.cells = 0 ∧ rm.slots = 0 ∧ rm.frames + 1 ≤ R.frames ∧ 8 + (maxL + 11) + rm.locals ≤ R.locals) (hn : As.length = n) (hst : st = As.reverse ++ rest) (hsum : (rest.map fun v => v.category).sum ≤ 8) (d : decode cc pc = .ok (.invokestatic idx, 3)) (k : GG p l e R s m args below meth c Q A dC dI nL w' (pc + 3) lv (.ref r :: rest)) : GG p l e R s m args below meth c Q A dC dI nL w pc lv st := s_callSN E hF hm hM hrm hn hst hsum d k
end
section
variable {p : Program} {l : Launch} {e : Env} {R : Room} {s : State} {m : MethodId} {args : Array Value} {below : List Frame} {meth : Method} {c : Code} {A : Nat → Prop} {dC : Nat → ClassId} {dI : Nat → Nat → Nat} {cI cZ : ClassId} {cc : ByteArray} {nL : Nat} {own : String} {ret : Option FieldType} {w w' : va_W} {pc : Nat} {lv lv' : List (Nat × Value)} {rest st : List Value}
/-- the ends -/
theorem s_iret (E : EV p s m args meth c dC dI cI cZ cc nL own (some .int)) {v r : Int32} (hv : v = r) (hw : w = w') (d : decode cc pc = .ok (.ireturn, 1)) : GG p l e R s m args below meth c (MQ below (CQ dC dI (some (.int r)) w' A) args s 0 0 A) A dC dI nL w pc lv [.int v] := by
  subst hv
  subst hw
  exact fun ls H locs h1 h2 h3 h4 => W.iret E.1 E.2.1 E.2.2.2.2.2.2.1 (fun t ht hW => ⟨⟨rfl, by rw [ht]; exact h2, h3⟩, h4.F ht⟩) h4.2.2 d E.2.2.2.2.2.2.2
theorem s_zret (E : EV p s m args meth c dC dI cI cZ cc nL own (some .boolean)) {v r : Int32} (hn : narrow .boolean (.int v) = .int v) (hv : v = r) (hw : w = w') (d : decode cc pc = .ok (.ireturn, 1)) : GG p l e R s m args below meth c (MQ below (CQ dC dI (some (.int r)) w' A) args s 0 0 A) A dC dI nL w pc lv [.int v] := by
  subst hv
  subst hw
  exact fun ls H locs h1 h2 h3 h4 => W.zret E.1 E.2.1 E.2.2.2.2.2.2.1 hn (fun t ht hW => ⟨⟨rfl, by rw [ht]; exact h2, h3⟩, h4.F ht⟩) h4.2.2 d E.2.2.2.2.2.2.2
theorem s_vret (E : EV p s m args meth c dC dI cI cZ cc nL own none) (hw : w = w') (d : decode cc pc = .ok (.return_, 1)) : GG p l e R s m args below meth c (MQ below (CQ dC dI none w' A) args s 0 0 A) A dC dI nL w pc lv [] := by
  subst hw
  exact fun ls H locs h1 h2 h3 h4 => W.vret E.1 E.2.1 E.2.2.2.2.2.2.1 (fun t ht hW => ⟨⟨rfl, by rw [ht]; exact h2, h3⟩, h4.F ht⟩) h4.2.2 d E.2.2.2.2.2.2.2
theorem s_aret {C : String} (E : EV p s m args meth c dC dI cI cZ cc nL own (some (.object C))) {v r : Nat} (hv : v = r) (hw : w = w') (d : decode cc pc = .ok (.areturn, 1)) : GG p l e R s m args below meth c (MQ below (CQ dC dI (some (.ref r)) w' A) args s 0 0 A) A dC dI nL w pc lv [.ref v] := by
  subst hv
  subst hw
  exact fun ls H locs h1 h2 h3 h4 => W.aret E.1 E.2.1 E.2.2.2.2.2.2.1 (Or.inl ⟨_, rfl⟩) (Or.inr ⟨_, rfl⟩) (fun t ht hW => ⟨⟨rfl, by rw [ht]; exact h2, h3⟩, h4.F ht⟩) h4.2.2 d E.2.2.2.2.2.2.2
end
/-- a contract out of its walk -/
theorem b_met {l : Launch} {dC : Nat → ClassId} {dI : Nat → Nat → Nat} {cI cZ : ClassId} {A : Nat → Prop} {y : MethodName} {bytes : ByteArray} {maxL : Nat} {ret : Option FieldType} {rm : Room} {av : List Value} {w w' : va_W} {ov : Option Value} (hy : plainName y.cls = true) (hlen : (lg_sl av).length ≤ maxL)
    (k : ∀ (p : Program) (e : Env) (s : State) (m : MethodId) (below : List Frame) (meth : Method) (c : Code), EV p s m av.toArray meth c dC dI cI cZ bytes maxL y.cls ret → GG p l e rm s m av.toArray below meth c (MQ below (CQ dC dI ov w' A) av.toArray s 0 0 A) A dC dI maxL w 0 (lv_args 0 av) []) :
    CT l dC dI cI cZ A y bytes maxL ret rm av w w' ov := by
  refine Met.ofW (cc := bytes) (maxL := maxL) (ret := ret) hy rfl ?_
  intro p e s m args below meth c s₁ B hml hv
  obtain ⟨rfl, hP, hK, hD⟩ := hv
  have hts := atoms_spec (ws := Cond.code y bytes maxL ret :: wG) B.pre
  have E : EV p s m av.toArray meth c dC dI cI cZ bytes maxL y.cls ret := ⟨B.exec, B.bytes, hml, findClass_of_methodNamed B.named, fun w h => hts w (List.mem_cons_of_mem _ h), hK, B.returns, B.notSynchronized⟩
  have hl := lv_entry av (n := maxL) hlen
  rw [lg_entry_eq]
  exact k p e s m below meth c E _ s.heap [] hl hP hD va_S.rf
end
section
theorem ki_1 : Int32.ofInt (1) = (1) := by decide
theorem kb_m2 : (Int8.ofInt (-2)).toInt32 = (-2) := by decide
theorem kb_8 : (Int8.ofInt (8)).toInt32 = (8) := by decide
theorem kb_48 : (Int8.ofInt (48)).toInt32 = (48) := by decide
theorem ks_255 : (Int16.ofInt (255)).toInt32 = (255) := by decide
theorem ki_m1 : Int32.ofInt (-1) = (-1) := by decide
theorem kb_m4 : (Int8.ofInt (-4)).toInt32 = (-4) := by decide
theorem ki_0 : Int32.ofInt (0) = (0) := by decide
theorem kb_6 : (Int8.ofInt (6)).toInt32 = (6) := by decide
theorem kb_m9 : (Int8.ofInt (-9)).toInt32 = (-9) := by decide
theorem ki_5 : Int32.ofInt (5) = (5) := by decide
theorem nez_5 : ¬ (5 : Int32) = 0 := by decide
theorem kb_66 : (Int8.ofInt (66)).toInt32 = (66) := by decide
theorem ki_2 : Int32.ofInt (2) = (2) := by decide
theorem ki_3 : Int32.ofInt (3) = (3) := by decide
theorem kb_9 : (Int8.ofInt (9)).toInt32 = (9) := by decide
theorem kb_46 : (Int8.ofInt (46)).toInt32 = (46) := by decide
theorem kb_80 : (Int8.ofInt (80)).toInt32 = (80) := by decide
theorem ki_4 : Int32.ofInt (4) = (4) := by decide
theorem kb_10 : (Int8.ofInt (10)).toInt32 = (10) := by decide
theorem kb_m3 : (Int8.ofInt (-3)).toInt32 = (-3) := by decide
theorem kb_20 : (Int8.ofInt (20)).toInt32 = (20) := by decide
theorem kb_16 : (Int8.ofInt (16)).toInt32 = (16) := by decide
theorem kb_63 : (Int8.ofInt (63)).toInt32 = (63) := by decide
theorem ks_10000 : (Int16.ofInt (10000)).toInt32 = (10000) := by decide
theorem ks_256 : (Int16.ofInt (256)).toInt32 = (256) := by decide
theorem kb_99 : (Int8.ofInt (99)).toInt32 = (99) := by decide
theorem vin_0_256 : vp_in (0) 256 := by unfold vp_in; decide
theorem vin_0_100 : vp_in (0) 100 := by unfold vp_in; decide
theorem nez_16 : ¬ (16 : Int32) = 0 := by decide
theorem vin_0_48 : vp_in (0) 48 := by unfold vp_in; decide
theorem kb_12 : (Int8.ofInt (12)).toInt32 = (12) := by decide
theorem vin_0_5 : vp_in (0) 5 := by unfold vp_in; decide
theorem kb_14 : (Int8.ofInt (14)).toInt32 = (14) := by decide
theorem vin_1_5 : vp_in (1) 5 := by unfold vp_in; decide
theorem vin_2_5 : vp_in (2) 5 := by unfold vp_in; decide
theorem ks_510 : (Int16.ofInt (510)).toInt32 = (510) := by decide
theorem vin_3_5 : vp_in (3) 5 := by unfold vp_in; decide
theorem ks_1023 : (Int16.ofInt (1023)).toInt32 = (1023) := by decide
theorem vin_4_5 : vp_in (4) 5 := by unfold vp_in; decide
theorem ks_1022 : (Int16.ofInt (1022)).toInt32 = (1022) := by decide
theorem kb_11 : (Int8.ofInt (11)).toInt32 = (11) := by decide
theorem kb_15 : (Int8.ofInt (15)).toInt32 = (15) := by decide
theorem vin_0_2 : vp_in (0) 2 := by unfold vp_in; decide
theorem vin_1_2 : vp_in (1) 2 := by unfold vp_in; decide
theorem kb_100 : (Int8.ofInt (100)).toInt32 = (100) := by decide
theorem vin_0_3 : vp_in (0) 3 := by unfold vp_in; decide
theorem vin_1_3 : vp_in (1) 3 := by unfold vp_in; decide
theorem vin_2_3 : vp_in (2) 3 := by unfold vp_in; decide
theorem kb_24 : (Int8.ofInt (24)).toInt32 = (24) := by decide
theorem kf_X3_append : CV yX3_append RX3 cX3_append 5 none 2 := ⟨m_code_X3_append, m_inst_X3_append, m_sel_X3_append, m_ini_X3, by decide +kernel⟩
theorem kf_X4_write : CV yX4_write RX4 cX4_write 4 (some .int) 2 := ⟨m_code_X4_write, m_inst_X4_write, m_sel_X4_write, m_ini_X4, by decide +kernel⟩
theorem kf_X4_wipe : CV yX4_wipe RX4 cX4_wipe 2 (some .int) 0 := ⟨m_code_X4_wipe, m_inst_X4_wipe, m_sel_X4_wipe, m_ini_X4, by decide +kernel⟩
theorem kf_X3_byteAt : CV yX3_byteAt RX3 cX3_byteAt 2 (some .int) 1 := ⟨m_code_X3_byteAt, m_inst_X3_byteAt, m_sel_X3_byteAt, m_ini_X3, by decide +kernel⟩
theorem kf_X3_figure : CV yX3_figure RX3 cX3_figure 2 (some .int) 1 := ⟨m_code_X3_figure, m_inst_X3_figure, m_sel_X3_figure, m_ini_X3, by decide +kernel⟩
theorem kf_X3_isFigure : CV yX3_isFigure RX3 cX3_isFigure 4 (some .boolean) 3 := ⟨m_code_X3_isFigure, m_inst_X3_isFigure, m_sel_X3_isFigure, m_ini_X3, by decide +kernel⟩
theorem kf_X3_mayStandInPerson : CV yX3_mayStandInPerson RX3 cX3_mayStandInPerson 2 (some .boolean) 1 := ⟨m_code_X3_mayStandInPerson, m_inst_X3_mayStandInPerson, m_sel_X3_mayStandInPerson, m_ini_X3, by decide +kernel⟩
theorem kf_X3_mayStand : CV yX3_mayStand RX3 cX3_mayStand 2 (some .boolean) 1 := ⟨m_code_X3_mayStand, m_inst_X3_mayStand, m_sel_X3_mayStand, m_ini_X3, by decide +kernel⟩
theorem kf_X3_firstFault : CV yX3_firstFault RX3 cX3_firstFault 2 (some .int) 0 := ⟨m_code_X3_firstFault, m_inst_X3_firstFault, m_sel_X3_firstFault, m_ini_X3, by decide +kernel⟩
theorem kf_X4_fault : CV yX4_fault RX4 cX4_fault 1 (some .int) 0 := ⟨m_code_X4_fault, m_inst_X4_fault, m_sel_X4_fault, m_ini_X4, by decide +kernel⟩
theorem kf_X0_readFrom : CV yX0_readFrom RX0 cX0_readFrom 4 none 1 := ⟨m_code_X0_readFrom, m_inst_X0_readFrom, m_sel_X0_readFrom, m_ini_X0, by decide +kernel⟩
theorem kf_X1_startAnew : CV yX1_startAnew RX1 cX1_startAnew 3 none 1 := ⟨m_code_X1_startAnew, m_inst_X1_startAnew, m_sel_X1_startAnew, m_ini_X1, by decide +kernel⟩
theorem kf_X2_forget : CV yX2_forget RX2 cX2_forget 1 none 0 := ⟨m_code_X2_forget, m_inst_X2_forget, m_sel_X2_forget, m_ini_X2, by decide +kernel⟩
theorem kf_X4_ferry : CV yX4_ferry RX4 cX4_ferry 1 (some .int) 0 := ⟨m_code_X4_ferry, m_inst_X4_ferry, m_sel_X4_ferry, m_ini_X4, by decide +kernel⟩
theorem kf_X4_boat : CV yX4_boat RX4 cX4_boat 2 (some .int) 1 := ⟨m_code_X4_boat, m_inst_X4_boat, m_sel_X4_boat, m_ini_X4, by decide +kernel⟩
theorem kf_X0_hasPerson : CV yX0_hasPerson RX0 cX0_hasPerson 2 (some .boolean) 1 := ⟨m_code_X0_hasPerson, m_inst_X0_hasPerson, m_sel_X0_hasPerson, m_ini_X0, by decide +kernel⟩
theorem kf_X1_crewOf : CV yX1_crewOf RX1 cX1_crewOf 2 (some .int) 1 := ⟨m_code_X1_crewOf, m_inst_X1_crewOf, m_sel_X1_crewOf, m_ini_X1, by decide +kernel⟩
theorem kf_X4_sitters : CS yX4_sitters RX4 cX4_sitters 2 (some .int) 2 := ⟨m_code_X4_sitters, m_stat_X4_sitters, m_ini_X4, by decide +kernel⟩
theorem kf_X4_endOf : CS yX4_endOf RX4 cX4_endOf 3 (some .int) 2 := ⟨m_code_X4_endOf, m_stat_X4_endOf, m_ini_X4, by decide +kernel⟩
theorem kf_X1_boatOf : CV yX1_boatOf RX1 cX1_boatOf 3 (some .int) 1 := ⟨m_code_X1_boatOf, m_inst_X1_boatOf, m_sel_X1_boatOf, m_ini_X1, by decide +kernel⟩
theorem kf_X1_laid : CV yX1_laid RX1 cX1_laid 1 (some .int) 0 := ⟨m_code_X1_laid, m_inst_X1_laid, m_sel_X1_laid, m_ini_X1, by decide +kernel⟩
theorem kf_X1_placeOf : CV yX1_placeOf RX1 cX1_placeOf 3 (some .int) 1 := ⟨m_code_X1_placeOf, m_inst_X1_placeOf, m_sel_X1_placeOf, m_ini_X1, by decide +kernel⟩
theorem kf_X4_person : CV yX4_person RX4 cX4_person 3 (some .int) 2 := ⟨m_code_X4_person, m_inst_X4_person, m_sel_X4_person, m_ini_X4, by decide +kernel⟩
theorem kf_X4_gain : CV yX4_gain RX4 cX4_gain 4 (some .int) 2 := ⟨m_code_X4_gain, m_inst_X4_gain, m_sel_X4_gain, m_ini_X4, by decide +kernel⟩
theorem kf_X4_isMinute : CS yX4_isMinute RX4 cX4_isMinute 1 (some .boolean) 1 := ⟨m_code_X4_isMinute, m_stat_X4_isMinute, m_ini_X4, by decide +kernel⟩
theorem kf_X4_minutes : CV yX4_minutes RX4 cX4_minutes 3 (some .int) 1 := ⟨m_code_X4_minutes, m_inst_X4_minutes, m_sel_X4_minutes, m_ini_X4, by decide +kernel⟩
theorem kf_X0_hasEnd : CV yX0_hasEnd RX0 cX0_hasEnd 2 (some .boolean) 1 := ⟨m_code_X0_hasEnd, m_inst_X0_hasEnd, m_sel_X0_hasEnd, m_ini_X0, by decide +kernel⟩
theorem kf_X0_willSit : CV yX0_willSit RX0 cX0_willSit 3 (some .boolean) 2 := ⟨m_code_X0_willSit, m_inst_X0_willSit, m_sel_X0_willSit, m_ini_X0, by decide +kernel⟩
theorem kf_J6_bitCount_0f7a4 : CS yJ6_bitCount_0f7a4 RJ6 cJ6_bitCount_0f7a4 1 (some .int) 1 := ⟨m_code_J6_bitCount_0f7a4, m_stat_J6_bitCount_0f7a4, m_ini_J6, by decide +kernel⟩
theorem kf_X4_seat : CS yX4_seat RX4 cX4_seat 3 (some .int) 3 := ⟨m_code_X4_seat, m_stat_X4_seat, m_ini_X4, by decide +kernel⟩
theorem kf_X1_setLaid : CV yX1_setLaid RX1 cX1_setLaid 2 none 1 := ⟨m_code_X1_setLaid, m_inst_X1_setLaid, m_sel_X1_setLaid, m_ini_X1, by decide +kernel⟩
theorem kf_X4_lay : CV yX4_lay RX4 cX4_lay 4 (some .int) 2 := ⟨m_code_X4_lay, m_inst_X4_lay, m_sel_X4_lay, m_ini_X4, by decide +kernel⟩
theorem kf_X4_unseat : CS yX4_unseat RX4 cX4_unseat 3 (some .int) 3 := ⟨m_code_X4_unseat, m_stat_X4_unseat, m_ini_X4, by decide +kernel⟩
theorem kf_X4_unlay : CV yX4_unlay RX4 cX4_unlay 3 (some .int) 1 := ⟨m_code_X4_unlay, m_inst_X4_unlay, m_sel_X4_unlay, m_ini_X4, by decide +kernel⟩
theorem kf_X4_poundsAfter : CS yX4_poundsAfter RX4 cX4_poundsAfter 4 (some .int) 3 := ⟨m_code_X4_poundsAfter, m_stat_X4_poundsAfter, m_ini_X4, by decide +kernel⟩
theorem kf_X0_loadOf : CV yX0_loadOf RX0 cX0_loadOf 9 (some .int) 5 := ⟨m_code_X0_loadOf, m_inst_X0_loadOf, m_sel_X0_loadOf, m_ini_X0, by decide +kernel⟩
theorem kf_X4_weighs : CV yX4_weighs RX4 cX4_weighs 3 (some .int) 2 := ⟨m_code_X4_weighs, m_inst_X4_weighs, m_sel_X4_weighs, m_ini_X4, by decide +kernel⟩
theorem kf_X0_tiltOf : CV yX0_tiltOf RX0 cX0_tiltOf 10 (some .int) 4 := ⟨m_code_X0_tiltOf, m_inst_X0_tiltOf, m_sel_X0_tiltOf, m_ini_X0, by decide +kernel⟩
theorem kf_X4_off : CV yX4_off RX4 cX4_off 2 (some .int) 1 := ⟨m_code_X4_off, m_inst_X4_off, m_sel_X4_off, m_ini_X4, by decide +kernel⟩
theorem kf_X0_isLevel : CV yX0_isLevel RX0 cX0_isLevel 4 (some .boolean) 3 := ⟨m_code_X0_isLevel, m_inst_X0_isLevel, m_sel_X0_isLevel, m_ini_X0, by decide +kernel⟩
theorem kf_X1_depart : CV yX1_depart RX1 cX1_depart 1 none 0 := ⟨m_code_X1_depart, m_inst_X1_depart, m_sel_X1_depart, m_ini_X1, by decide +kernel⟩
theorem kf_X4_members : CS yX4_members RX4 cX4_members 1 (some .int) 1 := ⟨m_code_X4_members, m_stat_X4_members, m_ini_X4, by decide +kernel⟩
theorem kf_X0_faresOf : CV yX0_faresOf RX0 cX0_faresOf 4 (some .int) 1 := ⟨m_code_X0_faresOf, m_inst_X0_faresOf, m_sel_X0_faresOf, m_ini_X0, by decide +kernel⟩
theorem kf_X4_leave : CV yX4_leave RX4 cX4_leave 2 (some .int) 0 := ⟨m_code_X4_leave, m_inst_X4_leave, m_sel_X4_leave, m_ini_X4, by decide +kernel⟩
theorem kf_X1_takeBack : CV yX1_takeBack RX1 cX1_takeBack 1 none 0 := ⟨m_code_X1_takeBack, m_inst_X1_takeBack, m_sel_X1_takeBack, m_ini_X1, by decide +kernel⟩
theorem kf_X4_back : CV yX4_back RX4 cX4_back 1 (some .int) 0 := ⟨m_code_X4_back, m_inst_X4_back, m_sel_X4_back, m_ini_X4, by decide +kernel⟩
theorem kf_X4_left : CV yX4_left RX4 cX4_left 3 (some .int) 2 := ⟨m_code_X4_left, m_inst_X4_left, m_sel_X4_left, m_ini_X4, by decide +kernel⟩
theorem kf_X1_gone : CV yX1_gone RX1 cX1_gone 3 (some .int) 0 := ⟨m_code_X1_gone, m_inst_X1_gone, m_sel_X1_gone, m_ini_X1, by decide +kernel⟩
theorem kf_X0_armOf : CV yX0_armOf RX0 cX0_armOf 2 (some .int) 1 := ⟨m_code_X0_armOf, m_inst_X0_armOf, m_sel_X0_armOf, m_ini_X0, by decide +kernel⟩
theorem kf_X2_prepare : CV yX2_prepare RX2 cX2_prepare 5 none 2 := ⟨m_code_X2_prepare, m_inst_X2_prepare, m_sel_X2_prepare, m_ini_X2, by decide +kernel⟩
theorem kf_X2_weighSets : CV yX2_weighSets RX2 cX2_weighSets 8 none 2 := ⟨m_code_X2_weighSets, m_inst_X2_weighSets, m_sel_X2_weighSets, m_ini_X2, by decide +kernel⟩
theorem kf_X2_pullOf : CV yX2_pullOf RX2 cX2_pullOf 3 (some .int) 2 := ⟨m_code_X2_pullOf, m_inst_X2_pullOf, m_sel_X2_pullOf, m_ini_X2, by decide +kernel⟩
theorem kf_X2_isAhead : CS yX2_isAhead RX2 cX2_isAhead 5 (some .boolean) 2 := ⟨m_code_X2_isAhead, m_stat_X2_isAhead, m_ini_X2, by decide +kernel⟩
theorem kf_X2_noteChoice : CV yX2_noteChoice RX2 cX2_noteChoice 4 none 2 := ⟨m_code_X2_noteChoice, m_inst_X2_noteChoice, m_sel_X2_noteChoice, m_ini_X2, by decide +kernel⟩
theorem kf_X2_noteMakeWeight : CV yX2_noteMakeWeight RX2 cX2_noteMakeWeight 6 none 3 := ⟨m_code_X2_noteMakeWeight, m_inst_X2_noteMakeWeight, m_sel_X2_noteMakeWeight, m_ini_X2, by decide +kernel⟩
theorem kf_X2_tryLast : CV yX2_tryLast RX2 cX2_tryLast 9 none 4 := ⟨m_code_X2_tryLast, m_inst_X2_tryLast, m_sel_X2_tryLast, m_ini_X2, by decide +kernel⟩
theorem kf_X2_trySecond : CV yX2_trySecond RX2 cX2_trySecond 8 none 4 := ⟨m_code_X2_trySecond, m_inst_X2_trySecond, m_sel_X2_trySecond, m_ini_X2, by decide +kernel⟩
theorem kf_X2_searchWithLast : CV yX2_searchWithLast RX2 cX2_searchWithLast 7 none 2 := ⟨m_code_X2_searchWithLast, m_inst_X2_searchWithLast, m_sel_X2_searchWithLast, m_ini_X2, by decide +kernel⟩
theorem kf_X2_findChoices : CV yX2_findChoices RX2 cX2_findChoices 3 none 2 := ⟨m_code_X2_findChoices, m_inst_X2_findChoices, m_sel_X2_findChoices, m_ini_X2, by decide +kernel⟩
theorem kf_X2_hasChoice : CV yX2_hasChoice RX2 cX2_hasChoice 1 (some .boolean) 0 := ⟨m_code_X2_hasChoice, m_inst_X2_hasChoice, m_sel_X2_hasChoice, m_ini_X2, by decide +kernel⟩
theorem kf_X2_bestFares : CV yX2_bestFares RX2 cX2_bestFares 1 (some .int) 0 := ⟨m_code_X2_bestFares, m_inst_X2_bestFares, m_sel_X2_bestFares, m_ini_X2, by decide +kernel⟩
theorem kf_X4_best : CV yX4_best RX4 cX4_best 1 (some .int) 0 := ⟨m_code_X4_best, m_inst_X4_best, m_sel_X4_best, m_ini_X4, by decide +kernel⟩
theorem kf_X4_bestAt : CV yX4_bestAt RX4 cX4_bestAt 2 (some .int) 1 := ⟨m_code_X4_bestAt, m_inst_X4_bestAt, m_sel_X4_bestAt, m_ini_X4, by decide +kernel⟩
theorem kf_X2_faresWithout : CV yX2_faresWithout RX2 cX2_faresWithout 4 (some .int) 1 := ⟨m_code_X2_faresWithout, m_inst_X2_faresWithout, m_sel_X2_faresWithout, m_ini_X2, by decide +kernel⟩
theorem kf_X4_worth : CV yX4_worth RX4 cX4_worth 2 (some .int) 1 := ⟨m_code_X4_worth, m_inst_X4_worth, m_sel_X4_worth, m_ini_X4, by decide +kernel⟩
theorem kf_X2_findMakeWeights : CV yX2_findMakeWeights RX2 cX2_findMakeWeights 2 none 0 := ⟨m_code_X2_findMakeWeights, m_inst_X2_findMakeWeights, m_sel_X2_findMakeWeights, m_ini_X2, by decide +kernel⟩
theorem kf_X2_madeBy : CV yX2_madeBy RX2 cX2_madeBy 2 (some .int) 1 := ⟨m_code_X2_madeBy, m_inst_X2_madeBy, m_sel_X2_madeBy, m_ini_X2, by decide +kernel⟩
theorem kf_X4_makes : CV yX4_makes RX4 cX4_makes 2 (some .int) 1 := ⟨m_code_X4_makes, m_inst_X4_makes, m_sel_X4_makes, m_ini_X4, by decide +kernel⟩
theorem kf_X2_bestMakeWeight : CV yX2_bestMakeWeight RX2 cX2_bestMakeWeight 4 (some .int) 0 := ⟨m_code_X2_bestMakeWeight, m_inst_X2_bestMakeWeight, m_sel_X2_bestMakeWeight, m_ini_X2, by decide +kernel⟩
theorem kf_X4_bestMakes : CV yX4_bestMakes RX4 cX4_bestMakes 1 (some .int) 0 := ⟨m_code_X4_bestMakes, m_inst_X4_bestMakes, m_sel_X4_bestMakes, m_ini_X4, by decide +kernel⟩
theorem kf_X2_countSets : CV yX2_countSets RX2 cX2_countSets 3 (some .int) 0 := ⟨m_code_X2_countSets, m_inst_X2_countSets, m_sel_X2_countSets, m_ini_X2, by decide +kernel⟩
theorem kf_X4_sets : CV yX4_sets RX4 cX4_sets 1 (some .int) 0 := ⟨m_code_X4_sets, m_inst_X4_sets, m_sel_X4_sets, m_ini_X4, by decide +kernel⟩
theorem kf_X2_fewestOf : CV yX2_fewestOf RX2 cX2_fewestOf 6 (some .int) 1 := ⟨m_code_X2_fewestOf, m_inst_X2_fewestOf, m_sel_X2_fewestOf, m_ini_X2, by decide +kernel⟩
theorem kf_X2_findChains : CV yX2_findChains RX2 cX2_findChains 2 none 0 := ⟨m_code_X2_findChains, m_inst_X2_findChains, m_sel_X2_findChains, m_ini_X2, by decide +kernel⟩
theorem kf_X2_faresWithin : CV yX2_faresWithin RX2 cX2_faresWithin 4 (some .int) 1 := ⟨m_code_X2_faresWithin, m_inst_X2_faresWithin, m_sel_X2_faresWithin, m_ini_X2, by decide +kernel⟩
theorem kf_X4_crossings : CV yX4_crossings RX4 cX4_crossings 2 (some .int) 1 := ⟨m_code_X4_crossings, m_inst_X4_crossings, m_sel_X4_crossings, m_ini_X4, by decide +kernel⟩
theorem kf_X2_fewestForAll : CV yX2_fewestForAll RX2 cX2_fewestForAll 2 (some .int) 0 := ⟨m_code_X2_fewestForAll, m_inst_X2_fewestForAll, m_sel_X2_fewestForAll, m_ini_X2, by decide +kernel⟩
theorem kf_X4_all : CV yX4_all RX4 cX4_all 1 (some .int) 0 := ⟨m_code_X4_all, m_inst_X4_all, m_sel_X4_all, m_ini_X4, by decide +kernel⟩
theorem kf_X4_lightestEnd : CV yX4_lightestEnd RX4 cX4_lightestEnd 8 (some .int) 2 := ⟨m_code_X4_lightestEnd, m_inst_X4_lightestEnd, m_sel_X4_lightestEnd, m_ini_X4, by decide +kernel⟩
theorem kf_X4_crewByRule : CV yX4_crewByRule RX4 cX4_crewByRule 5 (some .int) 0 := ⟨m_code_X4_crewByRule, m_inst_X4_crewByRule, m_sel_X4_crewByRule, m_ini_X4, by decide +kernel⟩
theorem kf_X4_rule : CV yX4_rule RX4 cX4_rule 2 (some .int) 0 := ⟨m_code_X4_rule, m_inst_X4_rule, m_sel_X4_rule, m_ini_X4, by decide +kernel⟩
theorem kf_X4_ruleAt : CV yX4_ruleAt RX4 cX4_ruleAt 2 (some .int) 1 := ⟨m_code_X4_ruleAt, m_inst_X4_ruleAt, m_sel_X4_ruleAt, m_ini_X4, by decide +kernel⟩
theorem kf_X4_claim : CV yX4_claim RX4 cX4_claim 4 (some .int) 2 := ⟨m_code_X4_claim, m_inst_X4_claim, m_sel_X4_claim, m_ini_X4, by decide +kernel⟩
theorem kf_X4_boatsFitBut : CV yX4_boatsFitBut RX4 cX4_boatsFitBut 3 (some .boolean) 1 := ⟨m_code_X4_boatsFitBut, m_inst_X4_boatsFitBut, m_sel_X4_boatsFitBut, m_ini_X4, by decide +kernel⟩
theorem kf_X4_fits : CV yX4_fits RX4 cX4_fits 1 (some .int) 0 := ⟨m_code_X4_fits, m_inst_X4_fits, m_sel_X4_fits, m_ini_X4, by decide +kernel⟩
theorem kf_X4_claimsThatFit : CV yX4_claimsThatFit RX4 cX4_claimsThatFit 6 (some .int) 1 := ⟨m_code_X4_claimsThatFit, m_inst_X4_claimsThatFit, m_sel_X4_claimsThatFit, m_ini_X4, by decide +kernel⟩
theorem kf_X4_liars : CV yX4_liars RX4 cX4_liars 3 (some .int) 0 := ⟨m_code_X4_liars, m_inst_X4_liars, m_sel_X4_liars, m_ini_X4, by decide +kernel⟩
theorem kf_X4_mayWeigh : CV yX4_mayWeigh RX4 cX4_mayWeigh 2 (some .int) 1 := ⟨m_code_X4_mayWeigh, m_inst_X4_mayWeigh, m_sel_X4_mayWeigh, m_ini_X4, by decide +kernel⟩
theorem kf_X4_isSlot : CS yX4_isSlot RX4 cX4_isSlot 1 (some .boolean) 1 := ⟨m_code_X4_isSlot, m_stat_X4_isSlot, m_ini_X4, by decide +kernel⟩
theorem kf_X4_slotOf : CV yX4_slotOf RX4 cX4_slotOf 2 (some (.object "FerriesLevel$Log")) 1 := ⟨m_code_X4_slotOf, m_inst_X4_slotOf, m_sel_X4_slotOf, m_ini_X4, by decide +kernel⟩
theorem kf_X1_copyFrom : CV yX1_copyFrom RX1 cX1_copyFrom 3 none 1 := ⟨m_code_X1_copyFrom, m_inst_X1_copyFrom, m_sel_X1_copyFrom, m_ini_X1, by decide +kernel⟩
theorem kf_X4_keep : CV yX4_keep RX4 cX4_keep 3 (some .int) 1 := ⟨m_code_X4_keep, m_inst_X4_keep, m_sel_X4_keep, m_ini_X4, by decide +kernel⟩
theorem kf_X4_again : CV yX4_again RX4 cX4_again 3 (some .int) 1 := ⟨m_code_X4_again, m_inst_X4_again, m_sel_X4_again, m_ini_X4, by decide +kernel⟩
theorem kf_X4_count : CV yX4_count RX4 cX4_count 2 (some .int) 1 := ⟨m_code_X4_count, m_inst_X4_count, m_sel_X4_count, m_ini_X4, by decide +kernel⟩
theorem kf_X5_in : CS yX5_in RX5 cX5_in 6 (some .boolean) 3 := ⟨m_code_X5_in, m_stat_X5_in, m_ini_X5, by decide +kernel⟩
theorem kf_X5_write : CV yX5_write RX5 cX5_write 5 (some .int) 2 := ⟨m_code_X5_write, m_inst_X5_write, m_sel_X5_write, m_ini_X5, by decide +kernel⟩
theorem kf_X5_wipe : CV yX5_wipe RX5 cX5_wipe 2 (some .int) 0 := ⟨m_code_X5_wipe, m_inst_X5_wipe, m_sel_X5_wipe, m_ini_X5, by decide +kernel⟩
theorem kf_X5_figure : CV yX5_figure RX5 cX5_figure 3 (some .int) 1 := ⟨m_code_X5_figure, m_inst_X5_figure, m_sel_X5_figure, m_ini_X5, by decide +kernel⟩
theorem kf_X5_readText : CV yX5_readText RX5 cX5_readText 3 (some .int) 0 := ⟨m_code_X5_readText, m_inst_X5_readText, m_sel_X5_readText, m_ini_X5, by decide +kernel⟩
theorem kf_X5_fault : CV yX5_fault RX5 cX5_fault 1 (some .int) 0 := ⟨m_code_X5_fault, m_inst_X5_fault, m_sel_X5_fault, m_ini_X5, by decide +kernel⟩
theorem kf_X5_ferry : CV yX5_ferry RX5 cX5_ferry 2 (some .int) 0 := ⟨m_code_X5_ferry, m_inst_X5_ferry, m_sel_X5_ferry, m_ini_X5, by decide +kernel⟩
theorem kf_X5_boat : CV yX5_boat RX5 cX5_boat 2 (some .int) 1 := ⟨m_code_X5_boat, m_inst_X5_boat, m_sel_X5_boat, m_ini_X5, by decide +kernel⟩
theorem kf_X5_isPerson : CV yX5_isPerson RX5 cX5_isPerson 2 (some .boolean) 1 := ⟨m_code_X5_isPerson, m_inst_X5_isPerson, m_sel_X5_isPerson, m_ini_X5, by decide +kernel⟩
theorem kf_X5_person : CV yX5_person RX5 cX5_person 3 (some .int) 2 := ⟨m_code_X5_person, m_inst_X5_person, m_sel_X5_person, m_ini_X5, by decide +kernel⟩
theorem kf_X5_gain : CV yX5_gain RX5 cX5_gain 4 (some .int) 2 := ⟨m_code_X5_gain, m_inst_X5_gain, m_sel_X5_gain, m_ini_X5, by decide +kernel⟩
theorem kf_X5_minutes : CV yX5_minutes RX5 cX5_minutes 3 (some .int) 1 := ⟨m_code_X5_minutes, m_inst_X5_minutes, m_sel_X5_minutes, m_ini_X5, by decide +kernel⟩
theorem kf_X5_isEnd : CV yX5_isEnd RX5 cX5_isEnd 2 (some .boolean) 1 := ⟨m_code_X5_isEnd, m_inst_X5_isEnd, m_sel_X5_isEnd, m_ini_X5, by decide +kernel⟩
theorem kf_X5_willSit : CV yX5_willSit RX5 cX5_willSit 3 (some .boolean) 2 := ⟨m_code_X5_willSit, m_inst_X5_willSit, m_sel_X5_willSit, m_ini_X5, by decide +kernel⟩
theorem kf_X5_whoAt : CV yX5_whoAt RX5 cX5_whoAt 4 (some .int) 1 := ⟨m_code_X5_whoAt, m_inst_X5_whoAt, m_sel_X5_whoAt, m_ini_X5, by decide +kernel⟩
theorem kf_X5_ones : CS yX5_ones RX5 cX5_ones 3 (some .int) 1 := ⟨m_code_X5_ones, m_stat_X5_ones, m_ini_X5, by decide +kernel⟩
theorem kf_X5_lay : CV yX5_lay RX5 cX5_lay 4 (some .int) 2 := ⟨m_code_X5_lay, m_inst_X5_lay, m_sel_X5_lay, m_ini_X5, by decide +kernel⟩
theorem kf_X5_laid : CV yX5_laid RX5 cX5_laid 1 (some .int) 0 := ⟨m_code_X5_laid, m_inst_X5_laid, m_sel_X5_laid, m_ini_X5, by decide +kernel⟩
theorem kf_X5_unlay : CV yX5_unlay RX5 cX5_unlay 2 (some .int) 1 := ⟨m_code_X5_unlay, m_inst_X5_unlay, m_sel_X5_unlay, m_ini_X5, by decide +kernel⟩
theorem kf_X5_weightOf : CV yX5_weightOf RX5 cX5_weightOf 5 (some .int) 3 := ⟨m_code_X5_weightOf, m_inst_X5_weightOf, m_sel_X5_weightOf, m_ini_X5, by decide +kernel⟩
theorem kf_X5_heavy : CV yX5_heavy RX5 cX5_heavy 7 (some .int) 4 := ⟨m_code_X5_heavy, m_inst_X5_heavy, m_sel_X5_heavy, m_ini_X5, by decide +kernel⟩
theorem kf_X5_weighs : CV yX5_weighs RX5 cX5_weighs 3 (some .int) 2 := ⟨m_code_X5_weighs, m_inst_X5_weighs, m_sel_X5_weighs, m_ini_X5, by decide +kernel⟩
theorem kf_X5_offOf : CV yX5_offOf RX5 cX5_offOf 6 (some .int) 3 := ⟨m_code_X5_offOf, m_inst_X5_offOf, m_sel_X5_offOf, m_ini_X5, by decide +kernel⟩
theorem kf_X5_off : CV yX5_off RX5 cX5_off 2 (some .int) 1 := ⟨m_code_X5_off, m_inst_X5_off, m_sel_X5_off, m_ini_X5, by decide +kernel⟩
theorem kf_X5_isEven : CV yX5_isEven RX5 cX5_isEven 6 (some .boolean) 5 := ⟨m_code_X5_isEven, m_inst_X5_isEven, m_sel_X5_isEven, m_ini_X5, by decide +kernel⟩
theorem kf_X5_isLevel : CV yX5_isLevel RX5 cX5_isLevel 5 (some .boolean) 4 := ⟨m_code_X5_isLevel, m_inst_X5_isLevel, m_sel_X5_isLevel, m_ini_X5, by decide +kernel⟩
theorem kf_X5_fares : CV yX5_fares RX5 cX5_fares 4 (some .int) 1 := ⟨m_code_X5_fares, m_inst_X5_fares, m_sel_X5_fares, m_ini_X5, by decide +kernel⟩
theorem kf_X5_leave : CV yX5_leave RX5 cX5_leave 5 (some .int) 0 := ⟨m_code_X5_leave, m_inst_X5_leave, m_sel_X5_leave, m_ini_X5, by decide +kernel⟩
theorem kf_X5_back : CV yX5_back RX5 cX5_back 3 (some .int) 0 := ⟨m_code_X5_back, m_inst_X5_back, m_sel_X5_back, m_ini_X5, by decide +kernel⟩
theorem kf_X5_left : CV yX5_left RX5 cX5_left 3 (some .int) 2 := ⟨m_code_X5_left, m_inst_X5_left, m_sel_X5_left, m_ini_X5, by decide +kernel⟩
theorem kf_X5_waiting : CV yX5_waiting RX5 cX5_waiting 1 (some .int) 0 := ⟨m_code_X5_waiting, m_inst_X5_waiting, m_sel_X5_waiting, m_ini_X5, by decide +kernel⟩
theorem kf_X5_laySets : CV yX5_laySets RX5 cX5_laySets 5 (some .boolean) 2 := ⟨m_code_X5_laySets, m_inst_X5_laySets, m_sel_X5_laySets, m_ini_X5, by decide +kernel⟩
theorem kf_X5_lacks : CV yX5_lacks RX5 cX5_lacks 9 (some .int) 2 := ⟨m_code_X5_lacks, m_inst_X5_lacks, m_sel_X5_lacks, m_ini_X5, by decide +kernel⟩
theorem kf_X5_layMakes : CV yX5_layMakes RX5 cX5_layMakes 4 none 1 := ⟨m_code_X5_layMakes, m_inst_X5_layMakes, m_sel_X5_layMakes, m_ini_X5, by decide +kernel⟩
theorem kf_X5_better : CV yX5_better RX5 cX5_better 5 none 2 := ⟨m_code_X5_better, m_inst_X5_better, m_sel_X5_better, m_ini_X5, by decide +kernel⟩
theorem kf_X5_layChoices : CV yX5_layChoices RX5 cX5_layChoices 4 none 1 := ⟨m_code_X5_layChoices, m_inst_X5_layChoices, m_sel_X5_layChoices, m_ini_X5, by decide +kernel⟩
theorem kf_X5_best : CV yX5_best RX5 cX5_best 1 (some .int) 0 := ⟨m_code_X5_best, m_inst_X5_best, m_sel_X5_best, m_ini_X5, by decide +kernel⟩
theorem kf_X5_bestAt : CV yX5_bestAt RX5 cX5_bestAt 3 (some .int) 1 := ⟨m_code_X5_bestAt, m_inst_X5_bestAt, m_sel_X5_bestAt, m_ini_X5, by decide +kernel⟩
theorem kf_X5_mostOf : CV yX5_mostOf RX5 cX5_mostOf 2 (some .int) 1 := ⟨m_code_X5_mostOf, m_inst_X5_mostOf, m_sel_X5_mostOf, m_ini_X5, by decide +kernel⟩
theorem kf_X5_worth : CV yX5_worth RX5 cX5_worth 2 (some .int) 1 := ⟨m_code_X5_worth, m_inst_X5_worth, m_sel_X5_worth, m_ini_X5, by decide +kernel⟩
theorem kf_X5_makes : CV yX5_makes RX5 cX5_makes 3 (some .int) 1 := ⟨m_code_X5_makes, m_inst_X5_makes, m_sel_X5_makes, m_ini_X5, by decide +kernel⟩
theorem kf_X5_bestMakes : CV yX5_bestMakes RX5 cX5_bestMakes 4 (some .int) 0 := ⟨m_code_X5_bestMakes, m_inst_X5_bestMakes, m_sel_X5_bestMakes, m_ini_X5, by decide +kernel⟩
theorem kf_X5_sets : CV yX5_sets RX5 cX5_sets 3 (some .int) 0 := ⟨m_code_X5_sets, m_inst_X5_sets, m_sel_X5_sets, m_ini_X5, by decide +kernel⟩
theorem kf_X5_layFewest : CV yX5_layFewest RX5 cX5_layFewest 4 none 0 := ⟨m_code_X5_layFewest, m_inst_X5_layFewest, m_sel_X5_layFewest, m_ini_X5, by decide +kernel⟩
theorem kf_X5_crossings : CV yX5_crossings RX5 cX5_crossings 4 (some .int) 1 := ⟨m_code_X5_crossings, m_inst_X5_crossings, m_sel_X5_crossings, m_ini_X5, by decide +kernel⟩
theorem kf_X5_all : CV yX5_all RX5 cX5_all 1 (some .int) 0 := ⟨m_code_X5_all, m_inst_X5_all, m_sel_X5_all, m_ini_X5, by decide +kernel⟩
theorem kf_X5_layRule : CV yX5_layRule RX5 cX5_layRule 7 none 0 := ⟨m_code_X5_layRule, m_inst_X5_layRule, m_sel_X5_layRule, m_ini_X5, by decide +kernel⟩
theorem kf_X5_rule : CV yX5_rule RX5 cX5_rule 1 (some .int) 0 := ⟨m_code_X5_rule, m_inst_X5_rule, m_sel_X5_rule, m_ini_X5, by decide +kernel⟩
theorem kf_X5_ruleAt : CV yX5_ruleAt RX5 cX5_ruleAt 3 (some .int) 1 := ⟨m_code_X5_ruleAt, m_inst_X5_ruleAt, m_sel_X5_ruleAt, m_ini_X5, by decide +kernel⟩
theorem kf_X5_claim : CV yX5_claim RX5 cX5_claim 4 (some .int) 2 := ⟨m_code_X5_claim, m_inst_X5_claim, m_sel_X5_claim, m_ini_X5, by decide +kernel⟩
theorem kf_X5_allFit : CV yX5_allFit RX5 cX5_allFit 3 (some .boolean) 0 := ⟨m_code_X5_allFit, m_inst_X5_allFit, m_sel_X5_allFit, m_ini_X5, by decide +kernel⟩
theorem kf_X5_fits : CV yX5_fits RX5 cX5_fits 1 (some .int) 0 := ⟨m_code_X5_fits, m_inst_X5_fits, m_sel_X5_fits, m_ini_X5, by decide +kernel⟩
theorem kf_X5_mayOf : CV yX5_mayOf RX5 cX5_mayOf 5 (some .int) 1 := ⟨m_code_X5_mayOf, m_inst_X5_mayOf, m_sel_X5_mayOf, m_ini_X5, by decide +kernel⟩
theorem kf_X5_liars : CV yX5_liars RX5 cX5_liars 3 (some .int) 0 := ⟨m_code_X5_liars, m_inst_X5_liars, m_sel_X5_liars, m_ini_X5, by decide +kernel⟩
theorem kf_X5_mayWeigh : CV yX5_mayWeigh RX5 cX5_mayWeigh 2 (some .int) 1 := ⟨m_code_X5_mayWeigh, m_inst_X5_mayWeigh, m_sel_X5_mayWeigh, m_ini_X5, by decide +kernel⟩
theorem kf_X5_keep : CV yX5_keep RX5 cX5_keep 3 (some .int) 1 := ⟨m_code_X5_keep, m_inst_X5_keep, m_sel_X5_keep, m_ini_X5, by decide +kernel⟩
theorem kf_X5_again : CV yX5_again RX5 cX5_again 3 (some .int) 1 := ⟨m_code_X5_again, m_inst_X5_again, m_sel_X5_again, m_ini_X5, by decide +kernel⟩
theorem kf_X5_count : CV yX5_count RX5 cX5_count 4 (some .int) 1 := ⟨m_code_X5_count, m_inst_X5_count, m_sel_X5_count, m_ini_X5, by decide +kernel⟩
theorem nst_X4_9 : (RX4, 9, yX3_init) ∈ nestT := by decide +kernel
theorem nst_X4_18 : (RX4, 18, yX0_init) ∈ nestT := by decide +kernel
theorem nst_X4_25 : (RX4, 25, yX1_init) ∈ nestT := by decide +kernel
theorem nst_X4_38 : (RX4, 38, yX2_init) ∈ nestT := by decide +kernel
theorem nst_X1_48 : (RX1, 48, yX4_endOf) ∈ nestT := by decide +kernel
theorem nst_X0_62 : (RX0, 62, yX4_sitters) ∈ nestT := by decide +kernel
theorem nst_X0_65 : (RX0, 65, yX4_poundsAfter) ∈ nestT := by decide +kernel
theorem nst_X1_45 : (RX1, 45, yX4_members) ∈ nestT := by decide +kernel
theorem nst_X2_132 : (RX2, 132, yX4_poundsAfter) ∈ nestT := by decide +kernel
theorem nst_X2_150 : (RX2, 150, yX4_members) ∈ nestT := by decide +kernel
end
section
section
variable {p : Program} {l : Launch} {e : Env} {s : State} {m : MethodId} {args : Array Value} {below : List Frame} {meth : Method} {c : Code} {Q : State → Prop} {A : Nat → Prop} {dC : Nat → ClassId} {dI : Nat → Nat → Nat} {cI cZ : ClassId}
abbrev rm_X3_append : Room := { frames := 0, cells := 0, slots := 0, locals := 0 }
section
def f_X3_append_L5 (x2 : Int64) : Nat → (Nat → Nat → Int32) → Int32 → Option (Nat → Nat → Int32)
  | 0, _, _ => none
  | n + 1, σ, y4 =>
    (if y4 < 0 then (some σ) else (if 48 ≤ (σ 1 1) then (some σ) else (chk (σ 1 1) 48 (f_X3_append_L5 x2 n (up2 (up2 σ 2 ((σ 1 1).toNatClampNeg) ((ushL x2 (8 * y4)).toInt32 &&& 255)) 1 1 ((σ 1 1) + 1)) (y4 + (-1))))))
set_option maxRecDepth 100000 in
set_option maxHeartbeats 4000000 in
theorem w_X3_append_L5 (E : EV p s m args meth c dC dI cI cZ cX3_append 5 RX3 none) (q : Nat → Nat) (x2 : Int64) : ∀ (n : Nat) (σ : Nat → Nat → Int32) (y4 : Int32) (z : (Nat → Nat → Int32)), f_X3_append_L5 x2 n σ y4 = some z → GG p l e rm_X3_append s m args below meth c Q A dC dI 5 (wX cI q z) 56 [(0, .ref (q 1)), (2, .long x2)] [] → GG p l e rm_X3_append s m args below meth c Q A dC dI 5 (wX cI q σ) 5 [(0, .ref (q 1)), (2, .long x2), (4, .int y4)] [] := by
  intro n
  induction n with
  | zero =>
    intro σ y4 z h
    rw [f_X3_append_L5] at h
    cases h
  | succ n ih =>
    intro σ y4 z h hK
    rw [f_X3_append_L5] at h
    refine s_iload E 2 rfl dX3_append_5 ?_
    refine s_if_lt E 56 dX3_append_7 (by decide) (fun c1 => ?_) (fun c1 => ?_)
    · have h := (if_pos c1).symm.trans h
      refine s_sub E (lv' := [(0, .ref (q 1)), (2, .long x2)]) [0, 1] rfl ?_
      obtain rfl := Option.some.inj h
      exact hK
    · have h := (if_neg c1).symm.trans h
      refine s_aload_n E 0 rfl dX3_append_10 rfl ?_
      refine s_get E (v := .int (σ 1 1)) 1 1 in_X3 rfl rfl (by decide) m_f_X3_15 rfl dX3_append_11 ?_
      refine s_bipush E (v := 48) dX3_append_14 kb_48 ?_
      refine s_icmp_ge E 56 dX3_append_16 (by decide) (fun c2 => ?_) (fun c2 => ?_)
      · have h := (if_pos c2).symm.trans h
        refine s_sub E (lv' := [(0, .ref (q 1)), (2, .long x2)]) [0, 1] rfl ?_
        obtain rfl := Option.some.inj h
        exact hK
      · have h := (if_neg c2).symm.trans h
        refine s_aload_n E 0 rfl dX3_append_19 rfl ?_
        refine s_get E (v := .ref (q 2)) 1 0 in_X3 rfl rfl (by decide) m_f_X3_9 rfl dX3_append_20 ?_
        refine s_aload_n E 0 rfl dX3_append_23 rfl ?_
        refine s_get E (v := .int (σ 1 1)) 1 1 in_X3 rfl rfl (by decide) m_f_X3_15 rfl dX3_append_24 ?_
        refine s_lload_n E 1 rfl dX3_append_27 rfl ?_
        refine s_bipush E (v := 8) dX3_append_28 kb_8 ?_
        refine s_iload E 2 rfl dX3_append_30 ?_
        refine s_imul E dX3_append_32 ?_
        refine s_lushr E dX3_append_33 ?_
        refine s_l2i E dX3_append_34 ?_
        refine s_sipush E (v := 255) dX3_append_35 ks_255 ?_
        refine s_iand E dX3_append_38 ?_
        obtain ⟨b3, h⟩ := chk_some h
        refine s_iast E (w' := (wX cI q (up2 σ 2 ((σ 1 1).toNatClampNeg) ((ushL x2 (8 * y4)).toInt32 &&& 255)))) 2 rfl b3 rfl dX3_append_39 ?_
        refine s_aload_n E 0 rfl dX3_append_40 rfl ?_
        refine s_dup E dX3_append_41 rfl ?_
        refine s_get E (v := .int (σ 1 1)) 1 1 in_X3 rfl rfl (by decide) m_f_X3_15 rfl dX3_append_42 ?_
        refine s_iconst E (v := 1) dX3_append_45 ki_1 ?_
        refine s_iadd E dX3_append_46 ?_
        refine s_put E (w' := (wX cI q (up2 (up2 σ 2 ((σ 1 1).toNatClampNeg) ((ushL x2 (8 * y4)).toInt32 &&& 255)) 1 1 ((σ 1 1) + 1)))) (v := .int ((σ 1 1) + 1)) 1 1 tyX3 tyX3_ok nmX3 in_X3 rfl rfl (by decide) m_f_X3_15 rfl (tyX3_ok 1 (by decide)) rfl rfl (Nat.le_of_ble_eq_true rfl) rfl dX3_append_47 ?_
        refine s_iinc E (v := (y4 + (-1))) (lv' := [(0, .ref (q 1)), (2, .long x2), (4, .int (y4 + (-1)))]) 2 rfl dX3_append_50 ki_m1 rfl rfl rfl rfl (by decide) ?_
        refine s_goto E 5 dX3_append_53 (by decide) ?_
        exact ih (up2 (up2 σ 2 ((σ 1 1).toNatClampNeg) ((ushL x2 (8 * y4)).toInt32 &&& 255)) 1 1 ((σ 1 1) + 1)) (y4 + (-1)) z h hK
def f_X3_append (σ : Nat → Nat → Int32) (x1 : Int32) (x2 : Int64) : Option (Nat → Nat → Int32) :=
  ((f_X3_append_L5 x2 fuel σ (x1 - 1)).bind fun u4 => (some u4))
set_option maxRecDepth 100000 in
set_option maxHeartbeats 4000000 in
theorem c_X3_append (q : Nat → Nat) (σ : Nat → Nat → Int32) (x1 : Int32) (x2 : Int64) (z : (Nat → Nat → Int32)) (h : f_X3_append σ x1 x2 = some z) : CT l dC dI cI cZ A yX3_append cX3_append 5 none rm_X3_append [.ref (q 1), .int x1, .long x2] (wX cI q σ) (wX cI q z) none := by
  refine b_met (by decide) (Nat.le_of_ble_eq_true rfl) ?_
  intro p e s m below meth c E
  have E : EV p s m _ meth c dC dI cI cZ cX3_append 5 RX3 none := E
  show GG p l e rm_X3_append s m _ below meth c _ A dC dI 5 (wX cI q σ) 0 [(0, .ref (q 1)), (1, .int x1), (2, .long x2)] []
  unfold f_X3_append at h
  refine s_iload_n E 1 rfl dX3_append_0 rfl ?_
  refine s_iconst E (v := 1) dX3_append_1 ki_1 ?_
  refine s_isub E dX3_append_2 ?_
  refine s_istore E (lv' := [(0, .ref (q 1)), (1, .int x1), (2, .long x2), (4, .int (x1 - 1))]) dX3_append_3 rfl rfl rfl (by decide) ?_
  refine s_sub E (lv' := [(0, .ref (q 1)), (2, .long x2), (4, .int (x1 - 1))]) [0, 2, 3] rfl ?_
  obtain ⟨u4, e4, h⟩ := bnd_some h
  refine w_X3_append_L5 E q x2 fuel σ (x1 - 1) u4 e4 ?_
  exact s_vret E (congrArg (fun t : Nat → Nat → Int32 => wX cI q t) (Option.some.inj h)) dX3_append_56
end
abbrev rm_X3_byteAt : Room := { frames := 0, cells := 0, slots := 0, locals := 0 }
section
def f_X3_byteAt (σ : Nat → Nat → Int32) (x1 : Int32) : Option Int32 :=
  (if x1 < 0 then (some 0) else (if (σ 1 1) ≤ x1 then (some 0) else (if 48 ≤ x1 then (some 0) else (chk x1 48 (some (σ 2 x1.toNatClampNeg))))))
set_option maxRecDepth 100000 in
set_option maxHeartbeats 4000000 in
theorem c_X3_byteAt (q : Nat → Nat) (σ : Nat → Nat → Int32) (x1 : Int32) (z : Int32) (h : f_X3_byteAt σ x1 = some z) : CT l dC dI cI cZ A yX3_byteAt cX3_byteAt 2 (some .int) rm_X3_byteAt [.ref (q 1), .int x1] (wX cI q σ) (wX cI q σ) (some (.int z)) := by
  refine b_met (by decide) (Nat.le_of_ble_eq_true rfl) ?_
  intro p e s m below meth c E
  have E : EV p s m _ meth c dC dI cI cZ cX3_byteAt 2 RX3 (some .int) := E
  show GG p l e rm_X3_byteAt s m _ below meth c _ A dC dI 2 (wX cI q σ) 0 [(0, .ref (q 1)), (1, .int x1)] []
  unfold f_X3_byteAt at h
  refine s_iload_n E 1 rfl dX3_byteAt_0 rfl ?_
  refine s_if_lt E 27 dX3_byteAt_1 (by decide) (fun c1 => ?_) (fun c1 => ?_)
  · have h := (if_pos c1).symm.trans h
    refine s_iconst E (v := 0) dX3_byteAt_27 ki_0 ?_
    exact s_iret E (Option.some.inj h) rfl dX3_byteAt_28
  · have h := (if_neg c1).symm.trans h
    refine s_iload_n E 1 rfl dX3_byteAt_4 rfl ?_
    refine s_aload_n E 0 rfl dX3_byteAt_5 rfl ?_
    refine s_get E (v := .int (σ 1 1)) 1 1 in_X3 rfl rfl (by decide) m_f_X3_15 rfl dX3_byteAt_6 ?_
    refine s_icmp_ge E 27 dX3_byteAt_9 (by decide) (fun c2 => ?_) (fun c2 => ?_)
    · have h := (if_pos c2).symm.trans h
      refine s_iconst E (v := 0) dX3_byteAt_27 ki_0 ?_
      exact s_iret E (Option.some.inj h) rfl dX3_byteAt_28
    · have h := (if_neg c2).symm.trans h
      refine s_iload_n E 1 rfl dX3_byteAt_12 rfl ?_
      refine s_bipush E (v := 48) dX3_byteAt_13 kb_48 ?_
      refine s_icmp_ge E 27 dX3_byteAt_15 (by decide) (fun c3 => ?_) (fun c3 => ?_)
      · have h := (if_pos c3).symm.trans h
        refine s_iconst E (v := 0) dX3_byteAt_27 ki_0 ?_
        exact s_iret E (Option.some.inj h) rfl dX3_byteAt_28
      · have h := (if_neg c3).symm.trans h
        refine s_aload_n E 0 rfl dX3_byteAt_18 rfl ?_
        refine s_get E (v := .ref (q 2)) 1 0 in_X3 rfl rfl (by decide) m_f_X3_9 rfl dX3_byteAt_19 ?_
        refine s_iload_n E 1 rfl dX3_byteAt_22 rfl ?_
        obtain ⟨b4, h⟩ := chk_some h
        refine s_iald E (f := σ 2) (v := (σ 2 x1.toNatClampNeg)) 2 rfl b4 rfl dX3_byteAt_23 ?_
        refine s_goto E 28 dX3_byteAt_24 (by decide) ?_
        exact s_iret E (Option.some.inj h) rfl dX3_byteAt_28
end
abbrev rm_X3_figure : Room := { frames := 1, cells := 0, slots := 0, locals := 21 }
section
def f_X3_figure (σ : Nat → Nat → Int32) (x1 : Int32) : Option Int32 :=
  ((f_X3_byteAt σ x1).bind fun u1 => (some (u1 - 48)))
set_option maxRecDepth 100000 in
set_option maxHeartbeats 4000000 in
theorem c_X3_figure (q : Nat → Nat) (σ : Nat → Nat → Int32) (x1 : Int32) (z : Int32) (h : f_X3_figure σ x1 = some z) : CT l dC dI cI cZ A yX3_figure cX3_figure 2 (some .int) rm_X3_figure [.ref (q 1), .int x1] (wX cI q σ) (wX cI q σ) (some (.int z)) := by
  refine b_met (by decide) (Nat.le_of_ble_eq_true rfl) ?_
  intro p e s m below meth c E
  have E : EV p s m _ meth c dC dI cI cZ cX3_figure 2 RX3 (some .int) := E
  show GG p l e rm_X3_figure s m _ below meth c _ A dC dI 2 (wX cI q σ) 0 [(0, .ref (q 1)), (1, .int x1)] []
  unfold f_X3_figure at h
  refine s_aload_n E 0 rfl dX3_figure_0 rfl ?_
  refine s_iload_n E 1 rfl dX3_figure_1 rfl ?_
  obtain ⟨u1, e1, h⟩ := bnd_some h
  refine s_callVi E kf_X3_byteAt m_l_X3_26 (c_X3_byteAt q σ x1 u1 e1) ⟨rfl, rfl, by decide, by decide⟩ (q0 := 1) rfl rfl rfl rfl rfl (Nat.le_of_ble_eq_true rfl) dX3_figure_2 ?_
  refine s_bipush E (v := 48) dX3_figure_5 kb_48 ?_
  refine s_isub E dX3_figure_7 ?_
  exact s_iret E (Option.some.inj h) rfl dX3_figure_8
end
abbrev rm_X3_isFigure : Room := { frames := 2, cells := 0, slots := 0, locals := 42 }
section
def f_X3_isFigure (σ : Nat → Nat → Int32) (x1 : Int32) (x2 : Int32) (x3 : Int32) : Option Int32 :=
  ((f_X3_figure σ x1).bind fun u1 => (if u1 < x2 then (some 0) else ((f_X3_figure σ x1).bind fun u3 => (if x3 < u3 then (some 0) else (some 1)))))
set_option maxRecDepth 100000 in
set_option maxHeartbeats 4000000 in
theorem c_X3_isFigure (q : Nat → Nat) (σ : Nat → Nat → Int32) (x1 : Int32) (x2 : Int32) (x3 : Int32) (z : Int32) (h : f_X3_isFigure σ x1 x2 x3 = some z) : CT l dC dI cI cZ A yX3_isFigure cX3_isFigure 4 (some .boolean) rm_X3_isFigure [.ref (q 1), .int x1, .int x2, .int x3] (wX cI q σ) (wX cI q σ) (some (.int z)) := by
  refine b_met (by decide) (Nat.le_of_ble_eq_true rfl) ?_
  intro p e s m below meth c E
  have E : EV p s m _ meth c dC dI cI cZ cX3_isFigure 4 RX3 (some .boolean) := E
  show GG p l e rm_X3_isFigure s m _ below meth c _ A dC dI 4 (wX cI q σ) 0 [(0, .ref (q 1)), (1, .int x1), (2, .int x2), (3, .int x3)] []
  unfold f_X3_isFigure at h
  refine s_aload_n E 0 rfl dX3_isFigure_0 rfl ?_
  refine s_iload_n E 1 rfl dX3_isFigure_1 rfl ?_
  obtain ⟨u1, e1, h⟩ := bnd_some h
  refine s_callVi E kf_X3_figure m_l_X3_34 (c_X3_figure q σ x1 u1 e1) ⟨rfl, rfl, by decide, by decide⟩ (q0 := 1) rfl rfl rfl rfl rfl (Nat.le_of_ble_eq_true rfl) dX3_isFigure_2 ?_
  refine s_iload_n E 2 rfl dX3_isFigure_5 rfl ?_
  refine s_icmp_lt E 22 dX3_isFigure_6 (by decide) (fun c2 => ?_) (fun c2 => ?_)
  · have h := (if_pos c2).symm.trans h
    refine s_iconst E (v := 0) dX3_isFigure_22 ki_0 ?_
    exact s_zret E rfl (Option.some.inj h) rfl dX3_isFigure_23
  · have h := (if_neg c2).symm.trans h
    refine s_aload_n E 0 rfl dX3_isFigure_9 rfl ?_
    refine s_iload_n E 1 rfl dX3_isFigure_10 rfl ?_
    obtain ⟨u3, e3, h⟩ := bnd_some h
    refine s_callVi E kf_X3_figure m_l_X3_34 (c_X3_figure q σ x1 u3 e3) ⟨rfl, rfl, by decide, by decide⟩ (q0 := 1) rfl rfl rfl rfl rfl (Nat.le_of_ble_eq_true rfl) dX3_isFigure_11 ?_
    refine s_iload_n E 3 rfl dX3_isFigure_14 rfl ?_
    refine s_icmp_gt E 22 dX3_isFigure_15 (by decide) (fun c4 => ?_) (fun c4 => ?_)
    · have h := (if_pos c4).symm.trans h
      refine s_iconst E (v := 0) dX3_isFigure_22 ki_0 ?_
      exact s_zret E rfl (Option.some.inj h) rfl dX3_isFigure_23
    · have h := (if_neg c4).symm.trans h
      refine s_iconst E (v := 1) dX3_isFigure_18 ki_1 ?_
      refine s_goto E 23 dX3_isFigure_19 (by decide) ?_
      exact s_zret E rfl (Option.some.inj h) rfl dX3_isFigure_23
end
abbrev rm_X3_mayStandInPerson : Room := { frames := 3, cells := 0, slots := 0, locals := 65 }
section
def f_X3_mayStandInPerson (σ : Nat → Nat → Int32) (x1 : Int32) : Option Int32 :=
  (if (rem (x1 - 6) 5) = 0 then ((f_X3_byteAt σ x1).bind fun u2 => (if u2 = 80 then (some 1) else (some 0))) else (if (rem (x1 - 6) 5) = 2 then ((f_X3_figure σ (x1 - 1)).bind fun u5 => (if u5 = 0 then ((f_X3_isFigure σ x1 1 9).bind fun u7 => (chb u7 (some u7))) else ((f_X3_isFigure σ x1 0 9).bind fun u9 => (chb u9 (some u9))))) else (if (rem (x1 - 6) 5) = 4 then ((f_X3_figure σ x1).bind fun u12 => (if u12 = 3 then (some 1) else ((f_X3_figure σ 1).bind fun u14 => ((f_X3_isFigure σ x1 0 (u14 - 1)).bind fun u15 => (if u15 = 0 then (some 0) else (some 1)))))) else ((f_X3_isFigure σ x1 0 9).bind fun u17 => (chb u17 (some u17))))))
set_option maxRecDepth 100000 in
set_option maxHeartbeats 4000000 in
theorem c_X3_mayStandInPerson (q : Nat → Nat) (σ : Nat → Nat → Int32) (x1 : Int32) (z : Int32) (h : f_X3_mayStandInPerson σ x1 = some z) : CT l dC dI cI cZ A yX3_mayStandInPerson cX3_mayStandInPerson 2 (some .boolean) rm_X3_mayStandInPerson [.ref (q 1), .int x1] (wX cI q σ) (wX cI q σ) (some (.int z)) := by
  refine b_met (by decide) (Nat.le_of_ble_eq_true rfl) ?_
  intro p e s m below meth c E
  have E : EV p s m _ meth c dC dI cI cZ cX3_mayStandInPerson 2 RX3 (some .boolean) := E
  show GG p l e rm_X3_mayStandInPerson s m _ below meth c _ A dC dI 2 (wX cI q σ) 0 [(0, .ref (q 1)), (1, .int x1)] []
  unfold f_X3_mayStandInPerson at h
  refine s_iload_n E 1 rfl dX3_mayStandInPerson_0 rfl ?_
  refine s_bipush E (v := 6) dX3_mayStandInPerson_1 kb_6 ?_
  refine s_isub E dX3_mayStandInPerson_3 ?_
  refine s_iconst E (v := 5) dX3_mayStandInPerson_4 ki_5 ?_
  refine s_irem E dX3_mayStandInPerson_5 nez_5 ?_
  by_cases c1 : (rem (x1 - 6) 5) = 0
  · have h := (if_pos c1).symm.trans h
    refine s_swIn E 40 dX3_mayStandInPerson_6 (by rw [c1]; decide) (by rw [c1]; decide) (off := 34) (by rw [c1]; decide) (by decide) ?_
    refine s_aload_n E 0 rfl dX3_mayStandInPerson_40 rfl ?_
    refine s_iload_n E 1 rfl dX3_mayStandInPerson_41 rfl ?_
    obtain ⟨u2, e2, h⟩ := bnd_some h
    refine s_callVi E kf_X3_byteAt m_l_X3_26 (c_X3_byteAt q σ x1 u2 e2) ⟨rfl, rfl, by decide, by decide⟩ (q0 := 1) rfl rfl rfl rfl rfl (Nat.le_of_ble_eq_true rfl) dX3_mayStandInPerson_42 ?_
    refine s_bipush E (v := 80) dX3_mayStandInPerson_45 kb_80 ?_
    refine s_icmp_ne E 54 dX3_mayStandInPerson_47 (by decide) (fun c3 => ?_) (fun c3 => ?_)
    · have h := (if_pos c3).symm.trans h
      refine s_iconst E (v := 1) dX3_mayStandInPerson_50 ki_1 ?_
      refine s_goto E 55 dX3_mayStandInPerson_51 (by decide) ?_
      exact s_zret E rfl (Option.some.inj h) rfl dX3_mayStandInPerson_55
    · have h := (if_neg c3).symm.trans h
      refine s_iconst E (v := 0) dX3_mayStandInPerson_54 ki_0 ?_
      exact s_zret E rfl (Option.some.inj h) rfl dX3_mayStandInPerson_55
  · have h := (if_neg c1).symm.trans h
    by_cases c4 : (rem (x1 - 6) 5) = 2
    · have h := (if_pos c4).symm.trans h
      refine s_swIn E 56 dX3_mayStandInPerson_6 (by rw [c4]; decide) (by rw [c4]; decide) (off := 50) (by rw [c4]; decide) (by decide) ?_
      refine s_aload_n E 0 rfl dX3_mayStandInPerson_56 rfl ?_
      refine s_iload_n E 1 rfl dX3_mayStandInPerson_57 rfl ?_
      refine s_aload_n E 0 rfl dX3_mayStandInPerson_58 rfl ?_
      refine s_iload_n E 1 rfl dX3_mayStandInPerson_59 rfl ?_
      refine s_iconst E (v := 1) dX3_mayStandInPerson_60 ki_1 ?_
      refine s_isub E dX3_mayStandInPerson_61 ?_
      obtain ⟨u5, e5, h⟩ := bnd_some h
      refine s_callVi E kf_X3_figure m_l_X3_34 (c_X3_figure q σ (x1 - 1) u5 e5) ⟨rfl, rfl, by decide, by decide⟩ (q0 := 1) rfl rfl rfl rfl rfl (Nat.le_of_ble_eq_true rfl) dX3_mayStandInPerson_62 ?_
      refine s_if_ne E 72 dX3_mayStandInPerson_65 (by decide) (fun c6 => ?_) (fun c6 => ?_)
      · have h := (if_pos c6).symm.trans h
        refine s_iconst E (v := 1) dX3_mayStandInPerson_68 ki_1 ?_
        refine s_goto E 73 dX3_mayStandInPerson_69 (by decide) ?_
        refine s_bipush E (v := 9) dX3_mayStandInPerson_73 kb_9 ?_
        obtain ⟨u7, e7, h⟩ := bnd_some h
        refine s_callVi E kf_X3_isFigure m_l_X3_30 (c_X3_isFigure q σ x1 1 9 u7 e7) ⟨rfl, rfl, by decide, by decide⟩ (q0 := 1) rfl rfl rfl rfl rfl (Nat.le_of_ble_eq_true rfl) dX3_mayStandInPerson_75 ?_
        obtain ⟨b8, h⟩ := chb_some h
        exact s_zret E b8 (Option.some.inj h) rfl dX3_mayStandInPerson_78
      · have h := (if_neg c6).symm.trans h
        refine s_iconst E (v := 0) dX3_mayStandInPerson_72 ki_0 ?_
        refine s_bipush E (v := 9) dX3_mayStandInPerson_73 kb_9 ?_
        obtain ⟨u9, e9, h⟩ := bnd_some h
        refine s_callVi E kf_X3_isFigure m_l_X3_30 (c_X3_isFigure q σ x1 0 9 u9 e9) ⟨rfl, rfl, by decide, by decide⟩ (q0 := 1) rfl rfl rfl rfl rfl (Nat.le_of_ble_eq_true rfl) dX3_mayStandInPerson_75 ?_
        obtain ⟨b10, h⟩ := chb_some h
        exact s_zret E b10 (Option.some.inj h) rfl dX3_mayStandInPerson_78
    · have h := (if_neg c4).symm.trans h
      by_cases c11 : (rem (x1 - 6) 5) = 4
      · have h := (if_pos c11).symm.trans h
        refine s_swIn E 79 dX3_mayStandInPerson_6 (by rw [c11]; decide) (by rw [c11]; decide) (off := 73) (by rw [c11]; decide) (by decide) ?_
        refine s_aload_n E 0 rfl dX3_mayStandInPerson_79 rfl ?_
        refine s_iload_n E 1 rfl dX3_mayStandInPerson_80 rfl ?_
        obtain ⟨u12, e12, h⟩ := bnd_some h
        refine s_callVi E kf_X3_figure m_l_X3_34 (c_X3_figure q σ x1 u12 e12) ⟨rfl, rfl, by decide, by decide⟩ (q0 := 1) rfl rfl rfl rfl rfl (Nat.le_of_ble_eq_true rfl) dX3_mayStandInPerson_81 ?_
        refine s_iconst E (v := 3) dX3_mayStandInPerson_84 ki_3 ?_
        refine s_icmp_eq E 104 dX3_mayStandInPerson_85 (by decide) (fun c13 => ?_) (fun c13 => ?_)
        · have h := (if_pos c13).symm.trans h
          refine s_iconst E (v := 1) dX3_mayStandInPerson_104 ki_1 ?_
          refine s_goto E 109 dX3_mayStandInPerson_105 (by decide) ?_
          exact s_zret E rfl (Option.some.inj h) rfl dX3_mayStandInPerson_109
        · have h := (if_neg c13).symm.trans h
          refine s_aload_n E 0 rfl dX3_mayStandInPerson_88 rfl ?_
          refine s_iload_n E 1 rfl dX3_mayStandInPerson_89 rfl ?_
          refine s_iconst E (v := 0) dX3_mayStandInPerson_90 ki_0 ?_
          refine s_aload_n E 0 rfl dX3_mayStandInPerson_91 rfl ?_
          refine s_iconst E (v := 1) dX3_mayStandInPerson_92 ki_1 ?_
          obtain ⟨u14, e14, h⟩ := bnd_some h
          refine s_callVi E kf_X3_figure m_l_X3_34 (c_X3_figure q σ 1 u14 e14) ⟨rfl, rfl, by decide, by decide⟩ (q0 := 1) rfl rfl rfl rfl rfl (Nat.le_of_ble_eq_true rfl) dX3_mayStandInPerson_93 ?_
          refine s_iconst E (v := 1) dX3_mayStandInPerson_96 ki_1 ?_
          refine s_isub E dX3_mayStandInPerson_97 ?_
          obtain ⟨u15, e15, h⟩ := bnd_some h
          refine s_callVi E kf_X3_isFigure m_l_X3_30 (c_X3_isFigure q σ x1 0 (u14 - 1) u15 e15) ⟨rfl, rfl, by decide, by decide⟩ (q0 := 1) rfl rfl rfl rfl rfl (Nat.le_of_ble_eq_true rfl) dX3_mayStandInPerson_98 ?_
          refine s_if_eq E 108 dX3_mayStandInPerson_101 (by decide) (fun c16 => ?_) (fun c16 => ?_)
          · have h := (if_pos c16).symm.trans h
            refine s_iconst E (v := 0) dX3_mayStandInPerson_108 ki_0 ?_
            exact s_zret E rfl (Option.some.inj h) rfl dX3_mayStandInPerson_109
          · have h := (if_neg c16).symm.trans h
            refine s_iconst E (v := 1) dX3_mayStandInPerson_104 ki_1 ?_
            refine s_goto E 109 dX3_mayStandInPerson_105 (by decide) ?_
            exact s_zret E rfl (Option.some.inj h) rfl dX3_mayStandInPerson_109
      · have h := (if_neg c11).symm.trans h
        have tc1 := lv_neT (a := 0) c1 (by decide)
        have tc4 := lv_neT (a := 2) c4 (by decide)
        have tc11 := lv_neT (a := 4) c11 (by decide)
        suffices hd : GG p l e rm_X3_mayStandInPerson s m _ below meth c _ A dC dI 2 (wX cI q σ) 110 [(0, .ref (q 1)), (1, .int x1)] [] by
          by_cases c19 : (rem (x1 - 6) 5) = 1
          · exact s_swIn E 110 dX3_mayStandInPerson_6 (by rw [c19]; decide) (by rw [c19]; decide) (off := 104) (by rw [c19]; decide) (by decide) hd
          have tc19 := lv_neT (a := 1) c19 (by decide)
          by_cases c20 : (rem (x1 - 6) 5) = 3
          · exact s_swIn E 110 dX3_mayStandInPerson_6 (by rw [c20]; decide) (by rw [c20]; decide) (off := 104) (by rw [c20]; decide) (by decide) hd
          have tc20 := lv_neT (a := 3) c20 (by decide)
          exact s_swOut E 110 dX3_mayStandInPerson_6 (by omega) (by decide) hd
        refine s_aload_n E 0 rfl dX3_mayStandInPerson_110 rfl ?_
        refine s_iload_n E 1 rfl dX3_mayStandInPerson_111 rfl ?_
        refine s_iconst E (v := 0) dX3_mayStandInPerson_112 ki_0 ?_
        refine s_bipush E (v := 9) dX3_mayStandInPerson_113 kb_9 ?_
        obtain ⟨u17, e17, h⟩ := bnd_some h
        refine s_callVi E kf_X3_isFigure m_l_X3_30 (c_X3_isFigure q σ x1 0 9 u17 e17) ⟨rfl, rfl, by decide, by decide⟩ (q0 := 1) rfl rfl rfl rfl rfl (Nat.le_of_ble_eq_true rfl) dX3_mayStandInPerson_115 ?_
        obtain ⟨b18, h⟩ := chb_some h
        exact s_zret E b18 (Option.some.inj h) rfl dX3_mayStandInPerson_118
end
abbrev rm_X3_mayStand : Room := { frames := 4, cells := 0, slots := 0, locals := 86 }
section
def f_X3_mayStand (σ : Nat → Nat → Int32) (x1 : Int32) : Option Int32 :=
  (if x1 < 6 then (if x1 = 0 then ((f_X3_byteAt σ 0).bind fun u3 => (if u3 = 66 then (some 1) else (some 0))) else (if x1 = 1 then ((f_X3_isFigure σ x1 2 3).bind fun u6 => (chb u6 (some u6))) else (if x1 = 2 then ((f_X3_isFigure σ x1 1 3).bind fun u9 => (chb u9 (some u9))) else (if x1 = 3 then ((f_X3_isFigure σ x1 1 3).bind fun u12 => (chb u12 (some u12))) else (if x1 = 4 then ((f_X3_isFigure σ x1 1 8).bind fun u15 => (chb u15 (some u15))) else ((f_X3_isFigure σ x1 0 9).bind fun u17 => (chb u17 (some u17)))))))) else (if 46 ≤ x1 then (some 0) else ((f_X3_mayStandInPerson σ x1).bind fun u20 => (if u20 = 0 then (some 0) else (some 1)))))
set_option maxRecDepth 100000 in
set_option maxHeartbeats 4000000 in
theorem c_X3_mayStand (q : Nat → Nat) (σ : Nat → Nat → Int32) (x1 : Int32) (z : Int32) (h : f_X3_mayStand σ x1 = some z) : CT l dC dI cI cZ A yX3_mayStand cX3_mayStand 2 (some .boolean) rm_X3_mayStand [.ref (q 1), .int x1] (wX cI q σ) (wX cI q σ) (some (.int z)) := by
  refine b_met (by decide) (Nat.le_of_ble_eq_true rfl) ?_
  intro p e s m below meth c E
  have E : EV p s m _ meth c dC dI cI cZ cX3_mayStand 2 RX3 (some .boolean) := E
  show GG p l e rm_X3_mayStand s m _ below meth c _ A dC dI 2 (wX cI q σ) 0 [(0, .ref (q 1)), (1, .int x1)] []
  unfold f_X3_mayStand at h
  refine s_iload_n E 1 rfl dX3_mayStand_0 rfl ?_
  refine s_bipush E (v := 6) dX3_mayStand_1 kb_6 ?_
  refine s_icmp_lt E 26 dX3_mayStand_3 (by decide) (fun c1 => ?_) (fun c1 => ?_)
  · have h := (if_pos c1).symm.trans h
    refine s_iload_n E 1 rfl dX3_mayStand_26 rfl ?_
    by_cases c2 : x1 = 0
    · have h := (if_pos c2).symm.trans h
      refine s_swIn E 60 dX3_mayStand_27 (by rw [c2]; decide) (by rw [c2]; decide) (off := 33) (by rw [c2]; decide) (by decide) ?_
      refine s_aload_n E 0 rfl dX3_mayStand_60 rfl ?_
      refine s_iconst E (v := 0) dX3_mayStand_61 ki_0 ?_
      obtain ⟨u3, e3, h⟩ := bnd_some h
      refine s_callVi E kf_X3_byteAt m_l_X3_26 (c_X3_byteAt q σ 0 u3 e3) ⟨rfl, rfl, by decide, by decide⟩ (q0 := 1) rfl rfl rfl rfl rfl (Nat.le_of_ble_eq_true rfl) dX3_mayStand_62 ?_
      refine s_bipush E (v := 66) dX3_mayStand_65 kb_66 ?_
      refine s_icmp_ne E 74 dX3_mayStand_67 (by decide) (fun c4 => ?_) (fun c4 => ?_)
      · have h := (if_pos c4).symm.trans h
        refine s_iconst E (v := 1) dX3_mayStand_70 ki_1 ?_
        refine s_goto E 75 dX3_mayStand_71 (by decide) ?_
        exact s_zret E rfl (Option.some.inj h) rfl dX3_mayStand_75
      · have h := (if_neg c4).symm.trans h
        refine s_iconst E (v := 0) dX3_mayStand_74 ki_0 ?_
        exact s_zret E rfl (Option.some.inj h) rfl dX3_mayStand_75
    · have h := (if_neg c2).symm.trans h
      by_cases c5 : x1 = 1
      · have h := (if_pos c5).symm.trans h
        refine s_swIn E 76 dX3_mayStand_27 (by rw [c5]; decide) (by rw [c5]; decide) (off := 49) (by rw [c5]; decide) (by decide) ?_
        refine s_aload_n E 0 rfl dX3_mayStand_76 rfl ?_
        refine s_iload_n E 1 rfl dX3_mayStand_77 rfl ?_
        refine s_iconst E (v := 2) dX3_mayStand_78 ki_2 ?_
        refine s_iconst E (v := 3) dX3_mayStand_79 ki_3 ?_
        obtain ⟨u6, e6, h⟩ := bnd_some h
        refine s_callVi E kf_X3_isFigure m_l_X3_30 (c_X3_isFigure q σ x1 2 3 u6 e6) ⟨rfl, rfl, by decide, by decide⟩ (q0 := 1) rfl rfl rfl rfl rfl (Nat.le_of_ble_eq_true rfl) dX3_mayStand_80 ?_
        obtain ⟨b7, h⟩ := chb_some h
        exact s_zret E b7 (Option.some.inj h) rfl dX3_mayStand_83
      · have h := (if_neg c5).symm.trans h
        by_cases c8 : x1 = 2
        · have h := (if_pos c8).symm.trans h
          refine s_swIn E 84 dX3_mayStand_27 (by rw [c8]; decide) (by rw [c8]; decide) (off := 57) (by rw [c8]; decide) (by decide) ?_
          refine s_aload_n E 0 rfl dX3_mayStand_84 rfl ?_
          refine s_iload_n E 1 rfl dX3_mayStand_85 rfl ?_
          refine s_iconst E (v := 1) dX3_mayStand_86 ki_1 ?_
          refine s_iconst E (v := 3) dX3_mayStand_87 ki_3 ?_
          obtain ⟨u9, e9, h⟩ := bnd_some h
          refine s_callVi E kf_X3_isFigure m_l_X3_30 (c_X3_isFigure q σ x1 1 3 u9 e9) ⟨rfl, rfl, by decide, by decide⟩ (q0 := 1) rfl rfl rfl rfl rfl (Nat.le_of_ble_eq_true rfl) dX3_mayStand_88 ?_
          obtain ⟨b10, h⟩ := chb_some h
          exact s_zret E b10 (Option.some.inj h) rfl dX3_mayStand_91
        · have h := (if_neg c8).symm.trans h
          by_cases c11 : x1 = 3
          · have h := (if_pos c11).symm.trans h
            refine s_swIn E 92 dX3_mayStand_27 (by rw [c11]; decide) (by rw [c11]; decide) (off := 65) (by rw [c11]; decide) (by decide) ?_
            refine s_aload_n E 0 rfl dX3_mayStand_92 rfl ?_
            refine s_iload_n E 1 rfl dX3_mayStand_93 rfl ?_
            refine s_iconst E (v := 1) dX3_mayStand_94 ki_1 ?_
            refine s_iconst E (v := 3) dX3_mayStand_95 ki_3 ?_
            obtain ⟨u12, e12, h⟩ := bnd_some h
            refine s_callVi E kf_X3_isFigure m_l_X3_30 (c_X3_isFigure q σ x1 1 3 u12 e12) ⟨rfl, rfl, by decide, by decide⟩ (q0 := 1) rfl rfl rfl rfl rfl (Nat.le_of_ble_eq_true rfl) dX3_mayStand_96 ?_
            obtain ⟨b13, h⟩ := chb_some h
            exact s_zret E b13 (Option.some.inj h) rfl dX3_mayStand_99
          · have h := (if_neg c11).symm.trans h
            by_cases c14 : x1 = 4
            · have h := (if_pos c14).symm.trans h
              refine s_swIn E 100 dX3_mayStand_27 (by rw [c14]; decide) (by rw [c14]; decide) (off := 73) (by rw [c14]; decide) (by decide) ?_
              refine s_aload_n E 0 rfl dX3_mayStand_100 rfl ?_
              refine s_iload_n E 1 rfl dX3_mayStand_101 rfl ?_
              refine s_iconst E (v := 1) dX3_mayStand_102 ki_1 ?_
              refine s_bipush E (v := 8) dX3_mayStand_103 kb_8 ?_
              obtain ⟨u15, e15, h⟩ := bnd_some h
              refine s_callVi E kf_X3_isFigure m_l_X3_30 (c_X3_isFigure q σ x1 1 8 u15 e15) ⟨rfl, rfl, by decide, by decide⟩ (q0 := 1) rfl rfl rfl rfl rfl (Nat.le_of_ble_eq_true rfl) dX3_mayStand_105 ?_
              obtain ⟨b16, h⟩ := chb_some h
              exact s_zret E b16 (Option.some.inj h) rfl dX3_mayStand_108
            · have h := (if_neg c14).symm.trans h
              have tc2 := lv_neT (a := 0) c2 (by decide)
              have tc5 := lv_neT (a := 1) c5 (by decide)
              have tc8 := lv_neT (a := 2) c8 (by decide)
              have tc11 := lv_neT (a := 3) c11 (by decide)
              have tc14 := lv_neT (a := 4) c14 (by decide)
              refine s_swOut E 109 dX3_mayStand_27 (by omega) (by decide) ?_
              refine s_aload_n E 0 rfl dX3_mayStand_109 rfl ?_
              refine s_iload_n E 1 rfl dX3_mayStand_110 rfl ?_
              refine s_iconst E (v := 0) dX3_mayStand_111 ki_0 ?_
              refine s_bipush E (v := 9) dX3_mayStand_112 kb_9 ?_
              obtain ⟨u17, e17, h⟩ := bnd_some h
              refine s_callVi E kf_X3_isFigure m_l_X3_30 (c_X3_isFigure q σ x1 0 9 u17 e17) ⟨rfl, rfl, by decide, by decide⟩ (q0 := 1) rfl rfl rfl rfl rfl (Nat.le_of_ble_eq_true rfl) dX3_mayStand_114 ?_
              obtain ⟨b18, h⟩ := chb_some h
              exact s_zret E b18 (Option.some.inj h) rfl dX3_mayStand_117
  · have h := (if_neg c1).symm.trans h
    refine s_iload_n E 1 rfl dX3_mayStand_6 rfl ?_
    refine s_bipush E (v := 46) dX3_mayStand_7 kb_46 ?_
    refine s_icmp_ge E 24 dX3_mayStand_9 (by decide) (fun c19 => ?_) (fun c19 => ?_)
    · have h := (if_pos c19).symm.trans h
      refine s_iconst E (v := 0) dX3_mayStand_24 ki_0 ?_
      exact s_zret E rfl (Option.some.inj h) rfl dX3_mayStand_25
    · have h := (if_neg c19).symm.trans h
      refine s_aload_n E 0 rfl dX3_mayStand_12 rfl ?_
      refine s_iload_n E 1 rfl dX3_mayStand_13 rfl ?_
      obtain ⟨u20, e20, h⟩ := bnd_some h
      refine s_callVi E kf_X3_mayStandInPerson m_l_X3_23 (c_X3_mayStandInPerson q σ x1 u20 e20) ⟨rfl, rfl, by decide, by decide⟩ (q0 := 1) rfl rfl rfl rfl rfl (Nat.le_of_ble_eq_true rfl) dX3_mayStand_14 ?_
      refine s_if_eq E 24 dX3_mayStand_17 (by decide) (fun c21 => ?_) (fun c21 => ?_)
      · have h := (if_pos c21).symm.trans h
        refine s_iconst E (v := 0) dX3_mayStand_24 ki_0 ?_
        exact s_zret E rfl (Option.some.inj h) rfl dX3_mayStand_25
      · have h := (if_neg c21).symm.trans h
        refine s_iconst E (v := 1) dX3_mayStand_20 ki_1 ?_
        refine s_goto E 25 dX3_mayStand_21 (by decide) ?_
        exact s_zret E rfl (Option.some.inj h) rfl dX3_mayStand_25
end
abbrev rm_X3_firstFault : Room := { frames := 5, cells := 0, slots := 0, locals := 107 }
section
def f_X3_firstFault_L2 (σ : Nat → Nat → Int32) : Nat → Int32 → Option Int32
  | 0, _ => none
  | n + 1, y1 =>
    (if (σ 1 1) ≤ y1 then (if (σ 1 1) < 6 then (if (0 : Int32) = 0 then (some (σ 1 1)) else (some (-9))) else (if (rem ((σ 1 1) - 6) 5) = 0 then (if (1 : Int32) = 0 then (some (σ 1 1)) else (some (-9))) else (if (0 : Int32) = 0 then (some (σ 1 1)) else (some (-9))))) else ((f_X3_mayStand σ y1).bind fun u7 => (if u7 = 0 then (some y1) else (f_X3_firstFault_L2 σ n (y1 + 1)))))
set_option maxRecDepth 100000 in
set_option maxHeartbeats 4000000 in
theorem w_X3_firstFault_L2 (E : EV p s m args meth c dC dI cI cZ cX3_firstFault 2 RX3 (some .int)) (q : Nat → Nat) (σ : Nat → Nat → Int32) : ∀ (n : Nat) (y1 : Int32) (z : Int32), f_X3_firstFault_L2 σ n y1 = some z → GG p l e rm_X3_firstFault s m args below meth c (MQ below (CQ dC dI (some (.int z)) (wX cI q σ) A) args s 0 0 A) A dC dI 2 (wX cI q σ) 2 [(0, .ref (q 1)), (1, .int y1)] [] := by
  intro n
  induction n with
  | zero =>
    intro y1 z h
    rw [f_X3_firstFault_L2] at h
    cases h
  | succ n ih =>
    intro y1 z h
    rw [f_X3_firstFault_L2] at h
    refine s_iload_n E 1 rfl dX3_firstFault_2 rfl ?_
    refine s_aload_n E 0 rfl dX3_firstFault_3 rfl ?_
    refine s_get E (v := .int (σ 1 1)) 1 1 in_X3 rfl rfl (by decide) m_f_X3_15 rfl dX3_firstFault_4 ?_
    refine s_icmp_ge E 26 dX3_firstFault_7 (by decide) (fun c1 => ?_) (fun c1 => ?_)
    · have h := (if_pos c1).symm.trans h
      refine s_aload_n E 0 rfl dX3_firstFault_26 rfl ?_
      refine s_get E (v := .int (σ 1 1)) 1 1 in_X3 rfl rfl (by decide) m_f_X3_15 rfl dX3_firstFault_27 ?_
      refine s_bipush E (v := 6) dX3_firstFault_30 kb_6 ?_
      refine s_icmp_lt E 51 dX3_firstFault_32 (by decide) (fun c2 => ?_) (fun c2 => ?_)
      · have h := (if_pos c2).symm.trans h
        refine s_iconst E (v := 0) dX3_firstFault_51 ki_0 ?_
        refine s_istore_n E (lv' := [(0, .ref (q 1)), (1, .int 0)]) dX3_firstFault_52 rfl rfl rfl rfl (by decide) ?_
        refine s_iload_n E 1 rfl dX3_firstFault_53 rfl ?_
        refine s_if_eq E 62 dX3_firstFault_54 (by decide) (fun c3 => ?_) (fun c3 => ?_)
        · have h := (if_pos c3).symm.trans h
          refine s_aload_n E 0 rfl dX3_firstFault_62 rfl ?_
          refine s_get E (v := .int (σ 1 1)) 1 1 in_X3 rfl rfl (by decide) m_f_X3_15 rfl dX3_firstFault_63 ?_
          exact s_iret E (Option.some.inj h) rfl dX3_firstFault_66
        · have h := (if_neg c3).symm.trans h
          refine s_bipush E (v := (-9)) dX3_firstFault_57 kb_m9 ?_
          refine s_goto E 66 dX3_firstFault_59 (by decide) ?_
          exact s_iret E (Option.some.inj h) rfl dX3_firstFault_66
      · have h := (if_neg c2).symm.trans h
        refine s_aload_n E 0 rfl dX3_firstFault_35 rfl ?_
        refine s_get E (v := .int (σ 1 1)) 1 1 in_X3 rfl rfl (by decide) m_f_X3_15 rfl dX3_firstFault_36 ?_
        refine s_bipush E (v := 6) dX3_firstFault_39 kb_6 ?_
        refine s_isub E dX3_firstFault_41 ?_
        refine s_iconst E (v := 5) dX3_firstFault_42 ki_5 ?_
        refine s_irem E dX3_firstFault_43 nez_5 ?_
        refine s_if_ne E 51 dX3_firstFault_44 (by decide) (fun c4 => ?_) (fun c4 => ?_)
        · have h := (if_pos c4).symm.trans h
          refine s_iconst E (v := 1) dX3_firstFault_47 ki_1 ?_
          refine s_goto E 52 dX3_firstFault_48 (by decide) ?_
          refine s_istore_n E (lv' := [(0, .ref (q 1)), (1, .int 1)]) dX3_firstFault_52 rfl rfl rfl rfl (by decide) ?_
          refine s_iload_n E 1 rfl dX3_firstFault_53 rfl ?_
          refine s_if_eq E 62 dX3_firstFault_54 (by decide) (fun c5 => ?_) (fun c5 => ?_)
          · have h := (if_pos c5).symm.trans h
            refine s_aload_n E 0 rfl dX3_firstFault_62 rfl ?_
            refine s_get E (v := .int (σ 1 1)) 1 1 in_X3 rfl rfl (by decide) m_f_X3_15 rfl dX3_firstFault_63 ?_
            exact s_iret E (Option.some.inj h) rfl dX3_firstFault_66
          · have h := (if_neg c5).symm.trans h
            refine s_bipush E (v := (-9)) dX3_firstFault_57 kb_m9 ?_
            refine s_goto E 66 dX3_firstFault_59 (by decide) ?_
            exact s_iret E (Option.some.inj h) rfl dX3_firstFault_66
        · have h := (if_neg c4).symm.trans h
          refine s_iconst E (v := 0) dX3_firstFault_51 ki_0 ?_
          refine s_istore_n E (lv' := [(0, .ref (q 1)), (1, .int 0)]) dX3_firstFault_52 rfl rfl rfl rfl (by decide) ?_
          refine s_iload_n E 1 rfl dX3_firstFault_53 rfl ?_
          refine s_if_eq E 62 dX3_firstFault_54 (by decide) (fun c6 => ?_) (fun c6 => ?_)
          · have h := (if_pos c6).symm.trans h
            refine s_aload_n E 0 rfl dX3_firstFault_62 rfl ?_
            refine s_get E (v := .int (σ 1 1)) 1 1 in_X3 rfl rfl (by decide) m_f_X3_15 rfl dX3_firstFault_63 ?_
            exact s_iret E (Option.some.inj h) rfl dX3_firstFault_66
          · have h := (if_neg c6).symm.trans h
            refine s_bipush E (v := (-9)) dX3_firstFault_57 kb_m9 ?_
            refine s_goto E 66 dX3_firstFault_59 (by decide) ?_
            exact s_iret E (Option.some.inj h) rfl dX3_firstFault_66
    · have h := (if_neg c1).symm.trans h
      refine s_aload_n E 0 rfl dX3_firstFault_10 rfl ?_
      refine s_iload_n E 1 rfl dX3_firstFault_11 rfl ?_
      obtain ⟨u7, e7, h⟩ := bnd_some h
      refine s_callVi E kf_X3_mayStand m_l_X3_19 (c_X3_mayStand q σ y1 u7 e7) ⟨rfl, rfl, by decide, by decide⟩ (q0 := 1) rfl rfl rfl rfl rfl (Nat.le_of_ble_eq_true rfl) dX3_firstFault_12 ?_
      refine s_if_ne E 20 dX3_firstFault_15 (by decide) (fun c8 => ?_) (fun c8 => ?_)
      · have h := (if_pos c8).symm.trans h
        refine s_iload_n E 1 rfl dX3_firstFault_18 rfl ?_
        exact s_iret E (Option.some.inj h) rfl dX3_firstFault_19
      · have h := (if_neg c8).symm.trans h
        refine s_iinc E (v := (y1 + 1)) (lv' := [(0, .ref (q 1)), (1, .int (y1 + 1))]) 1 rfl dX3_firstFault_20 ki_1 rfl rfl rfl rfl (by decide) ?_
        refine s_goto E 2 dX3_firstFault_23 (by decide) ?_
        exact ih (y1 + 1) z h
def f_X3_firstFault (σ : Nat → Nat → Int32) : Option Int32 :=
  (f_X3_firstFault_L2 σ fuel 0)
set_option maxRecDepth 100000 in
set_option maxHeartbeats 4000000 in
theorem c_X3_firstFault (q : Nat → Nat) (σ : Nat → Nat → Int32) (z : Int32) (h : f_X3_firstFault σ = some z) : CT l dC dI cI cZ A yX3_firstFault cX3_firstFault 2 (some .int) rm_X3_firstFault [.ref (q 1)] (wX cI q σ) (wX cI q σ) (some (.int z)) := by
  refine b_met (by decide) (Nat.le_of_ble_eq_true rfl) ?_
  intro p e s m below meth c E
  have E : EV p s m _ meth c dC dI cI cZ cX3_firstFault 2 RX3 (some .int) := E
  show GG p l e rm_X3_firstFault s m _ below meth c _ A dC dI 2 (wX cI q σ) 0 [(0, .ref (q 1))] []
  unfold f_X3_firstFault at h
  refine s_iconst E (v := 0) dX3_firstFault_0 ki_0 ?_
  refine s_istore_n E (lv' := [(0, .ref (q 1)), (1, .int 0)]) dX3_firstFault_1 rfl rfl rfl rfl (by decide) ?_
  exact w_X3_firstFault_L2 E q σ fuel 0 z h
end
abbrev rm_X0_readFrom : Room := { frames := 2, cells := 0, slots := 0, locals := 42 }
section
def f_X0_readFrom_L65 : Nat → (Nat → Nat → Int32) → Int32 → Option (Nat → Nat → Int32)
  | 0, _, _ => none
  | n + 1, σ, y2 =>
    (if (σ 3 5) ≤ y2 then (some σ) else ((f_X3_figure σ ((6 + (y2 * 5)) + 1)).bind fun u7 => ((f_X3_figure σ ((6 + (y2 * 5)) + 2)).bind fun u8 => (chk y2 8 ((f_X3_figure (up2 σ 4 (y2.toNatClampNeg) ((10 * u7) + u8)) ((6 + (y2 * 5)) + 3)).bind fun u10 => (chk y2 8 ((f_X3_figure (up2 (up2 σ 4 (y2.toNatClampNeg) ((10 * u7) + u8)) 5 (y2.toNatClampNeg) u10) ((6 + (y2 * 5)) + 4)).bind fun u12 => (chk y2 8 (f_X0_readFrom_L65 n (up2 (up2 (up2 σ 4 (y2.toNatClampNeg) ((10 * u7) + u8)) 5 (y2.toNatClampNeg) u10) 6 (y2.toNatClampNeg) u12) (y2 + 1))))))))))
set_option maxRecDepth 100000 in
set_option maxHeartbeats 4000000 in
theorem w_X0_readFrom_L65 (E : EV p s m args meth c dC dI cI cZ cX0_readFrom 4 RX0 none) (q : Nat → Nat) : ∀ (n : Nat) (σ : Nat → Nat → Int32) (y2 : Int32) (z : (Nat → Nat → Int32)), f_X0_readFrom_L65 n σ y2 = some z → GG p l e rm_X0_readFrom s m args below meth c Q A dC dI 4 (wX cI q z) 136 [(0, .ref (q 3)), (1, .ref (q 1))] [] → GG p l e rm_X0_readFrom s m args below meth c Q A dC dI 4 (wX cI q σ) 65 [(0, .ref (q 3)), (1, .ref (q 1)), (2, .int y2)] [] := by
  intro n
  induction n with
  | zero =>
    intro σ y2 z h
    rw [f_X0_readFrom_L65] at h
    cases h
  | succ n ih =>
    intro σ y2 z h hK
    rw [f_X0_readFrom_L65] at h
    refine s_iload_n E 2 rfl dX0_readFrom_65 rfl ?_
    refine s_aload_n E 0 rfl dX0_readFrom_66 rfl ?_
    refine s_get E (v := .int (σ 3 5)) 3 5 in_X0 rfl rfl (by decide) m_f_X0_27 rfl dX0_readFrom_67 ?_
    refine s_icmp_ge E 136 dX0_readFrom_70 (by decide) (fun c6 => ?_) (fun c6 => ?_)
    · have h := (if_pos c6).symm.trans h
      refine s_sub E (lv' := [(0, .ref (q 3)), (1, .ref (q 1))]) [0, 1] rfl ?_
      obtain rfl := Option.some.inj h
      exact hK
    · have h := (if_neg c6).symm.trans h
      refine s_bipush E (v := 6) dX0_readFrom_73 kb_6 ?_
      refine s_iload_n E 2 rfl dX0_readFrom_75 rfl ?_
      refine s_iconst E (v := 5) dX0_readFrom_76 ki_5 ?_
      refine s_imul E dX0_readFrom_77 ?_
      refine s_iadd E dX0_readFrom_78 ?_
      refine s_istore_n E (lv' := [(0, .ref (q 3)), (1, .ref (q 1)), (2, .int y2), (3, .int (6 + (y2 * 5)))]) dX0_readFrom_79 rfl rfl rfl rfl (by decide) ?_
      refine s_aload_n E 0 rfl dX0_readFrom_80 rfl ?_
      refine s_get E (v := .ref (q 4)) 3 6 in_X0 rfl rfl (by decide) m_f_X0_30 rfl dX0_readFrom_81 ?_
      refine s_iload_n E 2 rfl dX0_readFrom_84 rfl ?_
      refine s_bipush E (v := 10) dX0_readFrom_85 kb_10 ?_
      refine s_aload_n E 1 rfl dX0_readFrom_87 rfl ?_
      refine s_iload_n E 3 rfl dX0_readFrom_88 rfl ?_
      refine s_iconst E (v := 1) dX0_readFrom_89 ki_1 ?_
      refine s_iadd E dX0_readFrom_90 ?_
      obtain ⟨u7, e7, h⟩ := bnd_some h
      refine s_callVi E kf_X3_figure m_l_X0_40 (c_X3_figure q σ ((6 + (y2 * 5)) + 1) u7 e7) ⟨rfl, rfl, by decide, by decide⟩ (q0 := 1) rfl rfl rfl rfl rfl (Nat.le_of_ble_eq_true rfl) dX0_readFrom_91 ?_
      refine s_imul E dX0_readFrom_94 ?_
      refine s_aload_n E 1 rfl dX0_readFrom_95 rfl ?_
      refine s_iload_n E 3 rfl dX0_readFrom_96 rfl ?_
      refine s_iconst E (v := 2) dX0_readFrom_97 ki_2 ?_
      refine s_iadd E dX0_readFrom_98 ?_
      obtain ⟨u8, e8, h⟩ := bnd_some h
      refine s_callVi E kf_X3_figure m_l_X0_40 (c_X3_figure q σ ((6 + (y2 * 5)) + 2) u8 e8) ⟨rfl, rfl, by decide, by decide⟩ (q0 := 1) rfl rfl rfl rfl rfl (Nat.le_of_ble_eq_true rfl) dX0_readFrom_99 ?_
      refine s_iadd E dX0_readFrom_102 ?_
      obtain ⟨b9, h⟩ := chk_some h
      refine s_iast E (w' := (wX cI q (up2 σ 4 (y2.toNatClampNeg) ((10 * u7) + u8)))) 4 rfl b9 rfl dX0_readFrom_103 ?_
      refine s_aload_n E 0 rfl dX0_readFrom_104 rfl ?_
      refine s_get E (v := .ref (q 5)) 3 7 in_X0 rfl rfl (by decide) m_f_X0_34 rfl dX0_readFrom_105 ?_
      refine s_iload_n E 2 rfl dX0_readFrom_108 rfl ?_
      refine s_aload_n E 1 rfl dX0_readFrom_109 rfl ?_
      refine s_iload_n E 3 rfl dX0_readFrom_110 rfl ?_
      refine s_iconst E (v := 3) dX0_readFrom_111 ki_3 ?_
      refine s_iadd E dX0_readFrom_112 ?_
      obtain ⟨u10, e10, h⟩ := bnd_some h
      refine s_callVi E kf_X3_figure m_l_X0_40 (c_X3_figure q (up2 σ 4 (y2.toNatClampNeg) ((10 * u7) + u8)) ((6 + (y2 * 5)) + 3) u10 e10) ⟨rfl, rfl, by decide, by decide⟩ (q0 := 1) rfl rfl rfl rfl rfl (Nat.le_of_ble_eq_true rfl) dX0_readFrom_113 ?_
      obtain ⟨b11, h⟩ := chk_some h
      refine s_iast E (w' := (wX cI q (up2 (up2 σ 4 (y2.toNatClampNeg) ((10 * u7) + u8)) 5 (y2.toNatClampNeg) u10))) 5 rfl b11 rfl dX0_readFrom_116 ?_
      refine s_aload_n E 0 rfl dX0_readFrom_117 rfl ?_
      refine s_get E (v := .ref (q 6)) 3 8 in_X0 rfl rfl (by decide) m_f_X0_37 rfl dX0_readFrom_118 ?_
      refine s_iload_n E 2 rfl dX0_readFrom_121 rfl ?_
      refine s_aload_n E 1 rfl dX0_readFrom_122 rfl ?_
      refine s_iload_n E 3 rfl dX0_readFrom_123 rfl ?_
      refine s_iconst E (v := 4) dX0_readFrom_124 ki_4 ?_
      refine s_iadd E dX0_readFrom_125 ?_
      obtain ⟨u12, e12, h⟩ := bnd_some h
      refine s_callVi E kf_X3_figure m_l_X0_40 (c_X3_figure q (up2 (up2 σ 4 (y2.toNatClampNeg) ((10 * u7) + u8)) 5 (y2.toNatClampNeg) u10) ((6 + (y2 * 5)) + 4) u12 e12) ⟨rfl, rfl, by decide, by decide⟩ (q0 := 1) rfl rfl rfl rfl rfl (Nat.le_of_ble_eq_true rfl) dX0_readFrom_126 ?_
      obtain ⟨b13, h⟩ := chk_some h
      refine s_iast E (w' := (wX cI q (up2 (up2 (up2 σ 4 (y2.toNatClampNeg) ((10 * u7) + u8)) 5 (y2.toNatClampNeg) u10) 6 (y2.toNatClampNeg) u12))) 6 rfl b13 rfl dX0_readFrom_129 ?_
      refine s_iinc E (v := (y2 + 1)) (lv' := [(0, .ref (q 3)), (1, .ref (q 1)), (2, .int (y2 + 1)), (3, .int (6 + (y2 * 5)))]) 2 rfl dX0_readFrom_130 ki_1 rfl rfl rfl rfl (by decide) ?_
      refine s_goto E 65 dX0_readFrom_133 (by decide) ?_
      refine s_sub E (lv' := [(0, .ref (q 3)), (1, .ref (q 1)), (2, .int (y2 + 1))]) [0, 1, 2] rfl ?_
      exact ih (up2 (up2 (up2 σ 4 (y2.toNatClampNeg) ((10 * u7) + u8)) 5 (y2.toNatClampNeg) u10) 6 (y2.toNatClampNeg) u12) (y2 + 1) z h hK
def f_X0_readFrom (σ : Nat → Nat → Int32) : Option (Nat → Nat → Int32) :=
  ((f_X3_figure σ 1).bind fun u1 => ((f_X3_figure (up2 σ 3 0 u1) 2).bind fun u2 => ((f_X3_figure (up2 (up2 σ 3 0 u1) 3 1 u2) 3).bind fun u3 => ((f_X3_figure (up2 (up2 (up2 σ 3 0 u1) 3 1 u2) 3 2 u3) 4).bind fun u4 => ((f_X3_figure (up2 (up2 (up2 (up2 σ 3 0 u1) 3 1 u2) 3 2 u3) 3 3 u4) 5).bind fun u5 => ((f_X0_readFrom_L65 fuel (up2 (up2 (up2 (up2 (up2 (up2 σ 3 0 u1) 3 1 u2) 3 2 u3) 3 3 u4) 3 4 u5) 3 5 (if (((σ 1 1) - 6) / 5) < 8 then (((σ 1 1) - 6) / 5) else 8)) 0).bind fun u14 => (some u14)))))))
set_option maxRecDepth 100000 in
set_option maxHeartbeats 4000000 in
theorem c_X0_readFrom (q : Nat → Nat) (σ : Nat → Nat → Int32) (z : (Nat → Nat → Int32)) (h : f_X0_readFrom σ = some z) : CT l dC dI cI cZ A yX0_readFrom cX0_readFrom 4 none rm_X0_readFrom [.ref (q 3), .ref (q 1)] (wX cI q σ) (wX cI q z) none := by
  refine b_met (by decide) (Nat.le_of_ble_eq_true rfl) ?_
  intro p e s m below meth c E
  have E : EV p s m _ meth c dC dI cI cZ cX0_readFrom 4 RX0 none := E
  show GG p l e rm_X0_readFrom s m _ below meth c _ A dC dI 4 (wX cI q σ) 0 [(0, .ref (q 3)), (1, .ref (q 1))] []
  unfold f_X0_readFrom at h
  refine s_aload_n E 0 rfl dX0_readFrom_0 rfl ?_
  refine s_aload_n E 1 rfl dX0_readFrom_1 rfl ?_
  refine s_iconst E (v := 1) dX0_readFrom_2 ki_1 ?_
  obtain ⟨u1, e1, h⟩ := bnd_some h
  refine s_callVi E kf_X3_figure m_l_X0_40 (c_X3_figure q σ 1 u1 e1) ⟨rfl, rfl, by decide, by decide⟩ (q0 := 1) rfl rfl rfl rfl rfl (Nat.le_of_ble_eq_true rfl) dX0_readFrom_3 ?_
  refine s_put E (w' := (wX cI q (up2 σ 3 0 u1))) (v := .int u1) 3 0 tyX0 tyX0_ok nmX0 in_X0 rfl rfl (by decide) m_f_X0_9 rfl (tyX0_ok 0 (by decide)) rfl rfl (Nat.le_of_ble_eq_true rfl) rfl dX0_readFrom_6 ?_
  refine s_aload_n E 0 rfl dX0_readFrom_9 rfl ?_
  refine s_aload_n E 1 rfl dX0_readFrom_10 rfl ?_
  refine s_iconst E (v := 2) dX0_readFrom_11 ki_2 ?_
  obtain ⟨u2, e2, h⟩ := bnd_some h
  refine s_callVi E kf_X3_figure m_l_X0_40 (c_X3_figure q (up2 σ 3 0 u1) 2 u2 e2) ⟨rfl, rfl, by decide, by decide⟩ (q0 := 1) rfl rfl rfl rfl rfl (Nat.le_of_ble_eq_true rfl) dX0_readFrom_12 ?_
  refine s_put E (w' := (wX cI q (up2 (up2 σ 3 0 u1) 3 1 u2))) (v := .int u2) 3 1 tyX0 tyX0_ok nmX0 in_X0 rfl rfl (by decide) m_f_X0_15 rfl (tyX0_ok 1 (by decide)) rfl rfl (Nat.le_of_ble_eq_true rfl) rfl dX0_readFrom_15 ?_
  refine s_aload_n E 0 rfl dX0_readFrom_18 rfl ?_
  refine s_aload_n E 1 rfl dX0_readFrom_19 rfl ?_
  refine s_iconst E (v := 3) dX0_readFrom_20 ki_3 ?_
  obtain ⟨u3, e3, h⟩ := bnd_some h
  refine s_callVi E kf_X3_figure m_l_X0_40 (c_X3_figure q (up2 (up2 σ 3 0 u1) 3 1 u2) 3 u3 e3) ⟨rfl, rfl, by decide, by decide⟩ (q0 := 1) rfl rfl rfl rfl rfl (Nat.le_of_ble_eq_true rfl) dX0_readFrom_21 ?_
  refine s_put E (w' := (wX cI q (up2 (up2 (up2 σ 3 0 u1) 3 1 u2) 3 2 u3))) (v := .int u3) 3 2 tyX0 tyX0_ok nmX0 in_X0 rfl rfl (by decide) m_f_X0_18 rfl (tyX0_ok 2 (by decide)) rfl rfl (Nat.le_of_ble_eq_true rfl) rfl dX0_readFrom_24 ?_
  refine s_aload_n E 0 rfl dX0_readFrom_27 rfl ?_
  refine s_aload_n E 1 rfl dX0_readFrom_28 rfl ?_
  refine s_iconst E (v := 4) dX0_readFrom_29 ki_4 ?_
  obtain ⟨u4, e4, h⟩ := bnd_some h
  refine s_callVi E kf_X3_figure m_l_X0_40 (c_X3_figure q (up2 (up2 (up2 σ 3 0 u1) 3 1 u2) 3 2 u3) 4 u4 e4) ⟨rfl, rfl, by decide, by decide⟩ (q0 := 1) rfl rfl rfl rfl rfl (Nat.le_of_ble_eq_true rfl) dX0_readFrom_30 ?_
  refine s_put E (w' := (wX cI q (up2 (up2 (up2 (up2 σ 3 0 u1) 3 1 u2) 3 2 u3) 3 3 u4))) (v := .int u4) 3 3 tyX0 tyX0_ok nmX0 in_X0 rfl rfl (by decide) m_f_X0_21 rfl (tyX0_ok 3 (by decide)) rfl rfl (Nat.le_of_ble_eq_true rfl) rfl dX0_readFrom_33 ?_
  refine s_aload_n E 0 rfl dX0_readFrom_36 rfl ?_
  refine s_aload_n E 1 rfl dX0_readFrom_37 rfl ?_
  refine s_iconst E (v := 5) dX0_readFrom_38 ki_5 ?_
  obtain ⟨u5, e5, h⟩ := bnd_some h
  refine s_callVi E kf_X3_figure m_l_X0_40 (c_X3_figure q (up2 (up2 (up2 (up2 σ 3 0 u1) 3 1 u2) 3 2 u3) 3 3 u4) 5 u5 e5) ⟨rfl, rfl, by decide, by decide⟩ (q0 := 1) rfl rfl rfl rfl rfl (Nat.le_of_ble_eq_true rfl) dX0_readFrom_39 ?_
  refine s_put E (w' := (wX cI q (up2 (up2 (up2 (up2 (up2 σ 3 0 u1) 3 1 u2) 3 2 u3) 3 3 u4) 3 4 u5))) (v := .int u5) 3 4 tyX0 tyX0_ok nmX0 in_X0 rfl rfl (by decide) m_f_X0_24 rfl (tyX0_ok 4 (by decide)) rfl rfl (Nat.le_of_ble_eq_true rfl) rfl dX0_readFrom_42 ?_
  refine s_aload_n E 0 rfl dX0_readFrom_45 rfl ?_
  refine s_bipush E (v := 8) dX0_readFrom_46 kb_8 ?_
  refine s_aload_n E 1 rfl dX0_readFrom_48 rfl ?_
  refine s_get E (v := .int (σ 1 1)) 1 1 in_X3 rfl rfl (by decide) m_f_X0_46 rfl dX0_readFrom_49 ?_
  refine s_bipush E (v := 6) dX0_readFrom_52 kb_6 ?_
  refine s_isub E dX0_readFrom_54 ?_
  refine s_iconst E (v := 5) dX0_readFrom_55 ki_5 ?_
  refine s_idiv E dX0_readFrom_56 nez_5 ?_
  refine s_mmin E m_l_X0_49 (by decide) (Nat.le_of_ble_eq_true rfl) dX0_readFrom_57 ?_
  refine s_put E (w' := (wX cI q (up2 (up2 (up2 (up2 (up2 (up2 σ 3 0 u1) 3 1 u2) 3 2 u3) 3 3 u4) 3 4 u5) 3 5 (if (((σ 1 1) - 6) / 5) < 8 then (((σ 1 1) - 6) / 5) else 8)))) (v := .int (if (((σ 1 1) - 6) / 5) < 8 then (((σ 1 1) - 6) / 5) else 8)) 3 5 tyX0 tyX0_ok nmX0 in_X0 rfl rfl (by decide) m_f_X0_27 rfl (tyX0_ok 5 (by decide)) rfl rfl (Nat.le_of_ble_eq_true rfl) rfl dX0_readFrom_60 ?_
  refine s_iconst E (v := 0) dX0_readFrom_63 ki_0 ?_
  refine s_istore_n E (lv' := [(0, .ref (q 3)), (1, .ref (q 1)), (2, .int 0)]) dX0_readFrom_64 rfl rfl rfl rfl (by decide) ?_
  obtain ⟨u14, e14, h⟩ := bnd_some h
  refine w_X0_readFrom_L65 E q fuel (up2 (up2 (up2 (up2 (up2 (up2 σ 3 0 u1) 3 1 u2) 3 2 u3) 3 3 u4) 3 4 u5) 3 5 (if (((σ 1 1) - 6) / 5) < 8 then (((σ 1 1) - 6) / 5) else 8)) 0 u14 e14 ?_
  exact s_vret E (congrArg (fun t : Nat → Nat → Int32 => wX cI q t) (Option.some.inj h)) dX0_readFrom_136
end
abbrev rm_X1_startAnew : Room := { frames := 0, cells := 0, slots := 0, locals := 0 }
section
def f_X1_startAnew_L12 : Nat → (Nat → Nat → Int32) → Int32 → Option (Nat → Nat → Int32)
  | 0, _, _ => none
  | n + 1, σ, y2 =>
    (if 8 < y2 then (some σ) else (chk y2 9 (f_X1_startAnew_L12 n (up2 σ 8 (y2.toNatClampNeg) 0) (y2 + 1))))
set_option maxRecDepth 100000 in
set_option maxHeartbeats 4000000 in
theorem w_X1_startAnew_L12 (E : EV p s m args meth c dC dI cI cZ cX1_startAnew 3 RX1 none) (q : Nat → Nat) : ∀ (n : Nat) (σ : Nat → Nat → Int32) (y2 : Int32) (z : (Nat → Nat → Int32)), f_X1_startAnew_L12 n σ y2 = some z → GG p l e rm_X1_startAnew s m args below meth c Q A dC dI 3 (wX cI q z) 31 [(0, .ref (q 7)), (1, .ref (q 3))] [] → GG p l e rm_X1_startAnew s m args below meth c Q A dC dI 3 (wX cI q σ) 12 [(0, .ref (q 7)), (1, .ref (q 3)), (2, .int y2)] [] := by
  intro n
  induction n with
  | zero =>
    intro σ y2 z h
    rw [f_X1_startAnew_L12] at h
    cases h
  | succ n ih =>
    intro σ y2 z h hK
    rw [f_X1_startAnew_L12] at h
    refine s_iload_n E 2 rfl dX1_startAnew_12 rfl ?_
    refine s_bipush E (v := 8) dX1_startAnew_13 kb_8 ?_
    refine s_icmp_gt E 31 dX1_startAnew_15 (by decide) (fun c1 => ?_) (fun c1 => ?_)
    · have h := (if_pos c1).symm.trans h
      refine s_sub E (lv' := [(0, .ref (q 7)), (1, .ref (q 3))]) [0, 1] rfl ?_
      obtain rfl := Option.some.inj h
      exact hK
    · have h := (if_neg c1).symm.trans h
      refine s_aload_n E 0 rfl dX1_startAnew_18 rfl ?_
      refine s_get E (v := .ref (q 8)) 7 0 in_X1 rfl rfl (by decide) m_f_X1_9 rfl dX1_startAnew_19 ?_
      refine s_iload_n E 2 rfl dX1_startAnew_22 rfl ?_
      refine s_iconst E (v := 0) dX1_startAnew_23 ki_0 ?_
      obtain ⟨b2, h⟩ := chk_some h
      refine s_iast E (w' := (wX cI q (up2 σ 8 (y2.toNatClampNeg) 0))) 8 rfl b2 rfl dX1_startAnew_24 ?_
      refine s_iinc E (v := (y2 + 1)) (lv' := [(0, .ref (q 7)), (1, .ref (q 3)), (2, .int (y2 + 1))]) 2 rfl dX1_startAnew_25 ki_1 rfl rfl rfl rfl (by decide) ?_
      refine s_goto E 12 dX1_startAnew_28 (by decide) ?_
      exact ih (up2 σ 8 (y2.toNatClampNeg) 0) (y2 + 1) z h hK
def f_X1_startAnew_L33 : Nat → (Nat → Nat → Int32) → Int32 → Option (Nat → Nat → Int32)
  | 0, _, _ => none
  | n + 1, σ, y2 =>
    (if 8 ≤ y2 then (some σ) else (chk y2 8 (chk y2 8 (chk y2 8 (f_X1_startAnew_L33 n (up2 (up2 σ 9 (y2.toNatClampNeg) 0) 10 (y2.toNatClampNeg) (σ 4 y2.toNatClampNeg)) (y2 + 1))))))
set_option maxRecDepth 100000 in
set_option maxHeartbeats 4000000 in
theorem w_X1_startAnew_L33 (E : EV p s m args meth c dC dI cI cZ cX1_startAnew 3 RX1 none) (q : Nat → Nat) : ∀ (n : Nat) (σ : Nat → Nat → Int32) (y2 : Int32) (z : (Nat → Nat → Int32)), f_X1_startAnew_L33 n σ y2 = some z → GG p l e rm_X1_startAnew s m args below meth c Q A dC dI 3 (wX cI q z) 64 [(0, .ref (q 7)), (1, .ref (q 3))] [] → GG p l e rm_X1_startAnew s m args below meth c Q A dC dI 3 (wX cI q σ) 33 [(0, .ref (q 7)), (1, .ref (q 3)), (2, .int y2)] [] := by
  intro n
  induction n with
  | zero =>
    intro σ y2 z h
    rw [f_X1_startAnew_L33] at h
    cases h
  | succ n ih =>
    intro σ y2 z h hK
    rw [f_X1_startAnew_L33] at h
    refine s_iload_n E 2 rfl dX1_startAnew_33 rfl ?_
    refine s_bipush E (v := 8) dX1_startAnew_34 kb_8 ?_
    refine s_icmp_ge E 64 dX1_startAnew_36 (by decide) (fun c4 => ?_) (fun c4 => ?_)
    · have h := (if_pos c4).symm.trans h
      refine s_sub E (lv' := [(0, .ref (q 7)), (1, .ref (q 3))]) [0, 1] rfl ?_
      obtain rfl := Option.some.inj h
      exact hK
    · have h := (if_neg c4).symm.trans h
      refine s_aload_n E 0 rfl dX1_startAnew_39 rfl ?_
      refine s_get E (v := .ref (q 9)) 7 1 in_X1 rfl rfl (by decide) m_f_X1_15 rfl dX1_startAnew_40 ?_
      refine s_iload_n E 2 rfl dX1_startAnew_43 rfl ?_
      refine s_iconst E (v := 0) dX1_startAnew_44 ki_0 ?_
      obtain ⟨b5, h⟩ := chk_some h
      refine s_iast E (w' := (wX cI q (up2 σ 9 (y2.toNatClampNeg) 0))) 9 rfl b5 rfl dX1_startAnew_45 ?_
      refine s_aload_n E 0 rfl dX1_startAnew_46 rfl ?_
      refine s_get E (v := .ref (q 10)) 7 2 in_X1 rfl rfl (by decide) m_f_X1_18 rfl dX1_startAnew_47 ?_
      refine s_iload_n E 2 rfl dX1_startAnew_50 rfl ?_
      refine s_aload_n E 1 rfl dX1_startAnew_51 rfl ?_
      refine s_get E (v := .ref (q 4)) 3 6 in_X0 rfl rfl (by decide) m_f_X1_32 rfl dX1_startAnew_52 ?_
      refine s_iload_n E 2 rfl dX1_startAnew_55 rfl ?_
      obtain ⟨b6, h⟩ := chk_some h
      refine s_iald E (f := σ 4) (v := (σ 4 y2.toNatClampNeg)) 4 rfl b6 rfl dX1_startAnew_56 ?_
      obtain ⟨b7, h⟩ := chk_some h
      refine s_iast E (w' := (wX cI q (up2 (up2 σ 9 (y2.toNatClampNeg) 0) 10 (y2.toNatClampNeg) (σ 4 y2.toNatClampNeg)))) 10 rfl b7 rfl dX1_startAnew_57 ?_
      refine s_iinc E (v := (y2 + 1)) (lv' := [(0, .ref (q 7)), (1, .ref (q 3)), (2, .int (y2 + 1))]) 2 rfl dX1_startAnew_58 ki_1 rfl rfl rfl rfl (by decide) ?_
      refine s_goto E 33 dX1_startAnew_61 (by decide) ?_
      exact ih (up2 (up2 σ 9 (y2.toNatClampNeg) 0) 10 (y2.toNatClampNeg) (σ 4 y2.toNatClampNeg)) (y2 + 1) z h hK
def f_X1_startAnew (σ : Nat → Nat → Int32) : Option (Nat → Nat → Int32) :=
  ((f_X1_startAnew_L12 fuel (up2 (up2 σ 7 3 0) 7 4 0) 0).bind fun u3 => ((f_X1_startAnew_L33 fuel u3 0).bind fun u8 => (some u8)))
set_option maxRecDepth 100000 in
set_option maxHeartbeats 4000000 in
theorem c_X1_startAnew (q : Nat → Nat) (σ : Nat → Nat → Int32) (z : (Nat → Nat → Int32)) (h : f_X1_startAnew σ = some z) : CT l dC dI cI cZ A yX1_startAnew cX1_startAnew 3 none rm_X1_startAnew [.ref (q 7), .ref (q 3)] (wX cI q σ) (wX cI q z) none := by
  refine b_met (by decide) (Nat.le_of_ble_eq_true rfl) ?_
  intro p e s m below meth c E
  have E : EV p s m _ meth c dC dI cI cZ cX1_startAnew 3 RX1 none := E
  show GG p l e rm_X1_startAnew s m _ below meth c _ A dC dI 3 (wX cI q σ) 0 [(0, .ref (q 7)), (1, .ref (q 3))] []
  unfold f_X1_startAnew at h
  refine s_aload_n E 0 rfl dX1_startAnew_0 rfl ?_
  refine s_iconst E (v := 0) dX1_startAnew_1 ki_0 ?_
  refine s_put E (w' := (wX cI q (up2 σ 7 3 0))) (v := .int 0) 7 3 tyX1 tyX1_ok nmX1 in_X1 rfl rfl (by decide) m_f_X1_21 rfl (tyX1_ok 3 (by decide)) rfl rfl (Nat.le_of_ble_eq_true rfl) rfl dX1_startAnew_2 ?_
  refine s_aload_n E 0 rfl dX1_startAnew_5 rfl ?_
  refine s_iconst E (v := 0) dX1_startAnew_6 ki_0 ?_
  refine s_put E (w' := (wX cI q (up2 (up2 σ 7 3 0) 7 4 0))) (v := .int 0) 7 4 tyX1 tyX1_ok nmX1 in_X1 rfl rfl (by decide) m_f_X1_25 rfl (tyX1_ok 4 (by decide)) rfl rfl (Nat.le_of_ble_eq_true rfl) rfl dX1_startAnew_7 ?_
  refine s_iconst E (v := 0) dX1_startAnew_10 ki_0 ?_
  refine s_istore_n E (lv' := [(0, .ref (q 7)), (1, .ref (q 3)), (2, .int 0)]) dX1_startAnew_11 rfl rfl rfl rfl (by decide) ?_
  obtain ⟨u3, e3, h⟩ := bnd_some h
  refine w_X1_startAnew_L12 E q fuel (up2 (up2 σ 7 3 0) 7 4 0) 0 u3 e3 ?_
  refine s_iconst E (v := 0) dX1_startAnew_31 ki_0 ?_
  refine s_istore_n E (lv' := [(0, .ref (q 7)), (1, .ref (q 3)), (2, .int 0)]) dX1_startAnew_32 rfl rfl rfl rfl (by decide) ?_
  obtain ⟨u8, e8, h⟩ := bnd_some h
  refine w_X1_startAnew_L33 E q fuel u3 0 u8 e8 ?_
  exact s_vret E (congrArg (fun t : Nat → Nat → Int32 => wX cI q t) (Option.some.inj h)) dX1_startAnew_64
end
abbrev rm_X0_hasPerson : Room := { frames := 0, cells := 0, slots := 0, locals := 0 }
section
def f_X0_hasPerson (σ : Nat → Nat → Int32) (x1 : Int32) : Int32 :=
  (if x1 < 0 then 0 else (if (σ 3 5) ≤ x1 then 0 else 1))
set_option maxRecDepth 100000 in
set_option maxHeartbeats 4000000 in
theorem c_X0_hasPerson (q : Nat → Nat) (σ : Nat → Nat → Int32) (x1 : Int32) : CT l dC dI cI cZ A yX0_hasPerson cX0_hasPerson 2 (some .boolean) rm_X0_hasPerson [.ref (q 3), .int x1] (wX cI q σ) (wX cI q σ) (some (.int (f_X0_hasPerson σ x1))) := by
  refine b_met (by decide) (Nat.le_of_ble_eq_true rfl) ?_
  intro p e s m below meth c E
  have E : EV p s m _ meth c dC dI cI cZ cX0_hasPerson 2 RX0 (some .boolean) := E
  generalize h : f_X0_hasPerson σ x1 = z
  show GG p l e rm_X0_hasPerson s m _ below meth c _ A dC dI 2 (wX cI q σ) 0 [(0, .ref (q 3)), (1, .int x1)] []
  unfold f_X0_hasPerson at h
  refine s_iload_n E 1 rfl dX0_hasPerson_0 rfl ?_
  refine s_if_lt E 16 dX0_hasPerson_1 (by decide) (fun c1 => ?_) (fun c1 => ?_)
  · have h := (if_pos c1).symm.trans h
    refine s_iconst E (v := 0) dX0_hasPerson_16 ki_0 ?_
    exact s_zret E rfl h rfl dX0_hasPerson_17
  · have h := (if_neg c1).symm.trans h
    refine s_iload_n E 1 rfl dX0_hasPerson_4 rfl ?_
    refine s_aload_n E 0 rfl dX0_hasPerson_5 rfl ?_
    refine s_get E (v := .int (σ 3 5)) 3 5 in_X0 rfl rfl (by decide) m_f_X0_27 rfl dX0_hasPerson_6 ?_
    refine s_icmp_ge E 16 dX0_hasPerson_9 (by decide) (fun c2 => ?_) (fun c2 => ?_)
    · have h := (if_pos c2).symm.trans h
      refine s_iconst E (v := 0) dX0_hasPerson_16 ki_0 ?_
      exact s_zret E rfl h rfl dX0_hasPerson_17
    · have h := (if_neg c2).symm.trans h
      refine s_iconst E (v := 1) dX0_hasPerson_12 ki_1 ?_
      refine s_goto E 17 dX0_hasPerson_13 (by decide) ?_
      exact s_zret E rfl h rfl dX0_hasPerson_17
end
abbrev rm_X1_crewOf : Room := { frames := 0, cells := 0, slots := 0, locals := 0 }
section
def f_X1_crewOf (σ : Nat → Nat → Int32) (x1 : Int32) : Option Int32 :=
  (if x1 < 0 then (some 0) else (if 8 < x1 then (some 0) else (chk x1 9 (some (σ 8 x1.toNatClampNeg)))))
set_option maxRecDepth 100000 in
set_option maxHeartbeats 4000000 in
theorem c_X1_crewOf (q : Nat → Nat) (σ : Nat → Nat → Int32) (x1 : Int32) (z : Int32) (h : f_X1_crewOf σ x1 = some z) : CT l dC dI cI cZ A yX1_crewOf cX1_crewOf 2 (some .int) rm_X1_crewOf [.ref (q 7), .int x1] (wX cI q σ) (wX cI q σ) (some (.int z)) := by
  refine b_met (by decide) (Nat.le_of_ble_eq_true rfl) ?_
  intro p e s m below meth c E
  have E : EV p s m _ meth c dC dI cI cZ cX1_crewOf 2 RX1 (some .int) := E
  show GG p l e rm_X1_crewOf s m _ below meth c _ A dC dI 2 (wX cI q σ) 0 [(0, .ref (q 7)), (1, .int x1)] []
  unfold f_X1_crewOf at h
  refine s_iload_n E 1 rfl dX1_crewOf_0 rfl ?_
  refine s_if_lt E 19 dX1_crewOf_1 (by decide) (fun c1 => ?_) (fun c1 => ?_)
  · have h := (if_pos c1).symm.trans h
    refine s_iconst E (v := 0) dX1_crewOf_19 ki_0 ?_
    exact s_iret E (Option.some.inj h) rfl dX1_crewOf_20
  · have h := (if_neg c1).symm.trans h
    refine s_iload_n E 1 rfl dX1_crewOf_4 rfl ?_
    refine s_bipush E (v := 8) dX1_crewOf_5 kb_8 ?_
    refine s_icmp_gt E 19 dX1_crewOf_7 (by decide) (fun c2 => ?_) (fun c2 => ?_)
    · have h := (if_pos c2).symm.trans h
      refine s_iconst E (v := 0) dX1_crewOf_19 ki_0 ?_
      exact s_iret E (Option.some.inj h) rfl dX1_crewOf_20
    · have h := (if_neg c2).symm.trans h
      refine s_aload_n E 0 rfl dX1_crewOf_10 rfl ?_
      refine s_get E (v := .ref (q 8)) 7 0 in_X1 rfl rfl (by decide) m_f_X1_9 rfl dX1_crewOf_11 ?_
      refine s_iload_n E 1 rfl dX1_crewOf_14 rfl ?_
      obtain ⟨b3, h⟩ := chk_some h
      refine s_iald E (f := σ 8) (v := (σ 8 x1.toNatClampNeg)) 8 rfl b3 rfl dX1_crewOf_15 ?_
      refine s_goto E 20 dX1_crewOf_16 (by decide) ?_
      exact s_iret E (Option.some.inj h) rfl dX1_crewOf_20
end
abbrev rm_X4_sitters : Room := { frames := 0, cells := 0, slots := 0, locals := 0 }
section
variable {w : va_W}
def f_X4_sitters (x0 : Int32) (x1 : Int32) : Int32 :=
  ((ush x0 (8 * x1)) &&& 255)
set_option maxRecDepth 100000 in
set_option maxHeartbeats 4000000 in
theorem c_X4_sitters (w : va_W) (x0 : Int32) (x1 : Int32) : CT l dC dI cI cZ A yX4_sitters cX4_sitters 2 (some .int) rm_X4_sitters [.int x0, .int x1] w w (some (.int (f_X4_sitters x0 x1))) := by
  refine b_met (by decide) (Nat.le_of_ble_eq_true rfl) ?_
  intro p e s m below meth c E
  have E : EV p s m _ meth c dC dI cI cZ cX4_sitters 2 RX4 (some .int) := E
  generalize h : f_X4_sitters x0 x1 = z
  show GG p l e rm_X4_sitters s m _ below meth c _ A dC dI 2 w 0 [(0, .int x0), (1, .int x1)] []
  unfold f_X4_sitters at h
  refine s_iload_n E 0 rfl dX4_sitters_0 rfl ?_
  refine s_bipush E (v := 8) dX4_sitters_1 kb_8 ?_
  refine s_iload_n E 1 rfl dX4_sitters_3 rfl ?_
  refine s_imul E dX4_sitters_4 ?_
  refine s_iushr E dX4_sitters_5 ?_
  refine s_sipush E (v := 255) dX4_sitters_6 ks_255 ?_
  refine s_iand E dX4_sitters_9 ?_
  exact s_iret E h rfl dX4_sitters_10
end
abbrev rm_X4_endOf : Room := { frames := 1, cells := 0, slots := 0, locals := 21 }
section
variable {w : va_W}
def f_X4_endOf_L2 (x0 : Int32) (x1 : Int32) : Nat → Int32 → Option Int32
  | 0, _ => none
  | n + 1, y2 =>
    (if 3 ≤ y2 then (some (-9)) else (if ((shr (f_X4_sitters x0 y2) x1) &&& 1) = 0 then (f_X4_endOf_L2 x0 x1 n (y2 + 1)) else (some y2)))
set_option maxRecDepth 100000 in
set_option maxHeartbeats 4000000 in
theorem w_X4_endOf_L2 (E : EV p s m args meth c dC dI cI cZ cX4_endOf 3 RX4 (some .int)) (x0 : Int32) (x1 : Int32) : ∀ (n : Nat) (y2 : Int32) (z : Int32), f_X4_endOf_L2 x0 x1 n y2 = some z → GG p l e rm_X4_endOf s m args below meth c (MQ below (CQ dC dI (some (.int z)) w A) args s 0 0 A) A dC dI 3 w 2 [(0, .int x0), (1, .int x1), (2, .int y2)] [] := by
  intro n
  induction n with
  | zero =>
    intro y2 z h
    rw [f_X4_endOf_L2] at h
    cases h
  | succ n ih =>
    intro y2 z h
    rw [f_X4_endOf_L2] at h
    refine s_iload_n E 2 rfl dX4_endOf_2 rfl ?_
    refine s_iconst E (v := 3) dX4_endOf_3 ki_3 ?_
    refine s_icmp_ge E 27 dX4_endOf_4 (by decide) (fun c1 => ?_) (fun c1 => ?_)
    · have h := (if_pos c1).symm.trans h
      refine s_bipush E (v := (-9)) dX4_endOf_27 kb_m9 ?_
      exact s_iret E (Option.some.inj h) rfl dX4_endOf_29
    · have h := (if_neg c1).symm.trans h
      refine s_iload_n E 0 rfl dX4_endOf_7 rfl ?_
      refine s_iload_n E 2 rfl dX4_endOf_8 rfl ?_
      refine s_callSi E kf_X4_sitters m_l_X4_128 (c_X4_sitters w x0 y2) ⟨rfl, rfl, by decide, by decide⟩ rfl rfl (Nat.le_of_ble_eq_true rfl) dX4_endOf_9 ?_
      refine s_iload_n E 1 rfl dX4_endOf_12 rfl ?_
      refine s_ishr E dX4_endOf_13 ?_
      refine s_iconst E (v := 1) dX4_endOf_14 ki_1 ?_
      refine s_iand E dX4_endOf_15 ?_
      refine s_if_eq E 21 dX4_endOf_16 (by decide) (fun c2 => ?_) (fun c2 => ?_)
      · have h := (if_pos c2).symm.trans h
        refine s_iinc E (v := (y2 + 1)) (lv' := [(0, .int x0), (1, .int x1), (2, .int (y2 + 1))]) 2 rfl dX4_endOf_21 ki_1 rfl rfl rfl rfl (by decide) ?_
        refine s_goto E 2 dX4_endOf_24 (by decide) ?_
        exact ih (y2 + 1) z h
      · have h := (if_neg c2).symm.trans h
        refine s_iload_n E 2 rfl dX4_endOf_19 rfl ?_
        exact s_iret E (Option.some.inj h) rfl dX4_endOf_20
def f_X4_endOf (x0 : Int32) (x1 : Int32) : Option Int32 :=
  (f_X4_endOf_L2 x0 x1 fuel 0)
set_option maxRecDepth 100000 in
set_option maxHeartbeats 4000000 in
theorem c_X4_endOf (w : va_W) (x0 : Int32) (x1 : Int32) (z : Int32) (h : f_X4_endOf x0 x1 = some z) : CT l dC dI cI cZ A yX4_endOf cX4_endOf 3 (some .int) rm_X4_endOf [.int x0, .int x1] w w (some (.int z)) := by
  refine b_met (by decide) (Nat.le_of_ble_eq_true rfl) ?_
  intro p e s m below meth c E
  have E : EV p s m _ meth c dC dI cI cZ cX4_endOf 3 RX4 (some .int) := E
  show GG p l e rm_X4_endOf s m _ below meth c _ A dC dI 3 w 0 [(0, .int x0), (1, .int x1)] []
  unfold f_X4_endOf at h
  refine s_iconst E (v := 0) dX4_endOf_0 ki_0 ?_
  refine s_istore_n E (lv' := [(0, .int x0), (1, .int x1), (2, .int 0)]) dX4_endOf_1 rfl rfl rfl rfl (by decide) ?_
  exact w_X4_endOf_L2 E  x0 x1 fuel 0 z h
end
abbrev rm_X1_boatOf : Room := { frames := 2, cells := 0, slots := 0, locals := 43 }
section
def f_X1_boatOf_L2 (σ : Nat → Nat → Int32) (x1 : Int32) : Nat → Int32 → Option Int32
  | 0, _ => none
  | n + 1, y2 =>
    (if (σ 7 3) ≤ y2 then (some (-9)) else ((f_X1_crewOf σ y2).bind fun u2 => ((f_X4_endOf u2 x1).bind fun u3 => (if u3 = (-9) then (f_X1_boatOf_L2 σ x1 n (y2 + 1)) else (some y2)))))
set_option maxRecDepth 100000 in
set_option maxHeartbeats 4000000 in
theorem w_X1_boatOf_L2 (E : EV p s m args meth c dC dI cI cZ cX1_boatOf 3 RX1 (some .int)) (q : Nat → Nat) (σ : Nat → Nat → Int32) (x1 : Int32) : ∀ (n : Nat) (y2 : Int32) (z : Int32), f_X1_boatOf_L2 σ x1 n y2 = some z → GG p l e rm_X1_boatOf s m args below meth c (MQ below (CQ dC dI (some (.int z)) (wX cI q σ) A) args s 0 0 A) A dC dI 3 (wX cI q σ) 2 [(0, .ref (q 7)), (1, .int x1), (2, .int y2)] [] := by
  intro n
  induction n with
  | zero =>
    intro y2 z h
    rw [f_X1_boatOf_L2] at h
    cases h
  | succ n ih =>
    intro y2 z h
    rw [f_X1_boatOf_L2] at h
    refine s_iload_n E 2 rfl dX1_boatOf_2 rfl ?_
    refine s_aload_n E 0 rfl dX1_boatOf_3 rfl ?_
    refine s_get E (v := .int (σ 7 3)) 7 3 in_X1 rfl rfl (by decide) m_f_X1_21 rfl dX1_boatOf_4 ?_
    refine s_icmp_ge E 32 dX1_boatOf_7 (by decide) (fun c1 => ?_) (fun c1 => ?_)
    · have h := (if_pos c1).symm.trans h
      refine s_bipush E (v := (-9)) dX1_boatOf_32 kb_m9 ?_
      exact s_iret E (Option.some.inj h) rfl dX1_boatOf_34
    · have h := (if_neg c1).symm.trans h
      refine s_aload_n E 0 rfl dX1_boatOf_10 rfl ?_
      refine s_iload_n E 2 rfl dX1_boatOf_11 rfl ?_
      obtain ⟨u2, e2, h⟩ := bnd_some h
      refine s_callVi E kf_X1_crewOf m_l_X1_37 (c_X1_crewOf q σ y2 u2 e2) ⟨rfl, rfl, by decide, by decide⟩ (q0 := 7) rfl rfl rfl rfl rfl (Nat.le_of_ble_eq_true rfl) dX1_boatOf_12 ?_
      refine s_iload_n E 1 rfl dX1_boatOf_15 rfl ?_
      obtain ⟨u3, e3, h⟩ := bnd_some h
      refine s_callSNi E kf_X4_endOf nst_X1_48 (c_X4_endOf (wX cI q σ) u2 x1 u3 e3) ⟨rfl, rfl, by decide, by decide⟩ rfl rfl (Nat.le_of_ble_eq_true rfl) dX1_boatOf_16 ?_
      refine s_bipush E (v := (-9)) dX1_boatOf_19 kb_m9 ?_
      refine s_icmp_eq E 26 dX1_boatOf_21 (by decide) (fun c4 => ?_) (fun c4 => ?_)
      · have h := (if_pos c4).symm.trans h
        refine s_iinc E (v := (y2 + 1)) (lv' := [(0, .ref (q 7)), (1, .int x1), (2, .int (y2 + 1))]) 2 rfl dX1_boatOf_26 ki_1 rfl rfl rfl rfl (by decide) ?_
        refine s_goto E 2 dX1_boatOf_29 (by decide) ?_
        exact ih (y2 + 1) z h
      · have h := (if_neg c4).symm.trans h
        refine s_iload_n E 2 rfl dX1_boatOf_24 rfl ?_
        exact s_iret E (Option.some.inj h) rfl dX1_boatOf_25
def f_X1_boatOf (σ : Nat → Nat → Int32) (x1 : Int32) : Option Int32 :=
  (f_X1_boatOf_L2 σ x1 fuel 0)
set_option maxRecDepth 100000 in
set_option maxHeartbeats 4000000 in
theorem c_X1_boatOf (q : Nat → Nat) (σ : Nat → Nat → Int32) (x1 : Int32) (z : Int32) (h : f_X1_boatOf σ x1 = some z) : CT l dC dI cI cZ A yX1_boatOf cX1_boatOf 3 (some .int) rm_X1_boatOf [.ref (q 7), .int x1] (wX cI q σ) (wX cI q σ) (some (.int z)) := by
  refine b_met (by decide) (Nat.le_of_ble_eq_true rfl) ?_
  intro p e s m below meth c E
  have E : EV p s m _ meth c dC dI cI cZ cX1_boatOf 3 RX1 (some .int) := E
  show GG p l e rm_X1_boatOf s m _ below meth c _ A dC dI 3 (wX cI q σ) 0 [(0, .ref (q 7)), (1, .int x1)] []
  unfold f_X1_boatOf at h
  refine s_iconst E (v := 0) dX1_boatOf_0 ki_0 ?_
  refine s_istore_n E (lv' := [(0, .ref (q 7)), (1, .int x1), (2, .int 0)]) dX1_boatOf_1 rfl rfl rfl rfl (by decide) ?_
  exact w_X1_boatOf_L2 E q σ x1 fuel 0 z h
end
abbrev rm_X1_laid : Room := { frames := 1, cells := 0, slots := 0, locals := 21 }
section
def f_X1_laid (σ : Nat → Nat → Int32) : Option Int32 :=
  ((f_X1_crewOf σ (σ 7 3)).bind fun u1 => (some u1))
set_option maxRecDepth 100000 in
set_option maxHeartbeats 4000000 in
theorem c_X1_laid (q : Nat → Nat) (σ : Nat → Nat → Int32) (z : Int32) (h : f_X1_laid σ = some z) : CT l dC dI cI cZ A yX1_laid cX1_laid 1 (some .int) rm_X1_laid [.ref (q 7)] (wX cI q σ) (wX cI q σ) (some (.int z)) := by
  refine b_met (by decide) (Nat.le_of_ble_eq_true rfl) ?_
  intro p e s m below meth c E
  have E : EV p s m _ meth c dC dI cI cZ cX1_laid 1 RX1 (some .int) := E
  show GG p l e rm_X1_laid s m _ below meth c _ A dC dI 1 (wX cI q σ) 0 [(0, .ref (q 7))] []
  unfold f_X1_laid at h
  refine s_aload_n E 0 rfl dX1_laid_0 rfl ?_
  refine s_aload_n E 0 rfl dX1_laid_1 rfl ?_
  refine s_get E (v := .int (σ 7 3)) 7 3 in_X1 rfl rfl (by decide) m_f_X1_21 rfl dX1_laid_2 ?_
  obtain ⟨u1, e1, h⟩ := bnd_some h
  refine s_callVi E kf_X1_crewOf m_l_X1_37 (c_X1_crewOf q σ (σ 7 3) u1 e1) ⟨rfl, rfl, by decide, by decide⟩ (q0 := 7) rfl rfl rfl rfl rfl (Nat.le_of_ble_eq_true rfl) dX1_laid_5 ?_
  exact s_iret E (Option.some.inj h) rfl dX1_laid_8
end
abbrev rm_X1_placeOf : Room := { frames := 3, cells := 0, slots := 0, locals := 65 }
section
def f_X1_placeOf (σ : Nat → Nat → Int32) (x1 : Int32) : Option Int32 :=
  ((f_X1_boatOf σ x1).bind fun u1 => (if u1 = (-9) then ((f_X1_laid σ).bind fun u3 => ((f_X4_endOf u3 x1).bind fun u4 => (if u4 = (-9) then (some 10) else (some u4)))) else (some 20)))
set_option maxRecDepth 100000 in
set_option maxHeartbeats 4000000 in
theorem c_X1_placeOf (q : Nat → Nat) (σ : Nat → Nat → Int32) (x1 : Int32) (z : Int32) (h : f_X1_placeOf σ x1 = some z) : CT l dC dI cI cZ A yX1_placeOf cX1_placeOf 3 (some .int) rm_X1_placeOf [.ref (q 7), .int x1] (wX cI q σ) (wX cI q σ) (some (.int z)) := by
  refine b_met (by decide) (Nat.le_of_ble_eq_true rfl) ?_
  intro p e s m below meth c E
  have E : EV p s m _ meth c dC dI cI cZ cX1_placeOf 3 RX1 (some .int) := E
  show GG p l e rm_X1_placeOf s m _ below meth c _ A dC dI 3 (wX cI q σ) 0 [(0, .ref (q 7)), (1, .int x1)] []
  unfold f_X1_placeOf at h
  refine s_aload_n E 0 rfl dX1_placeOf_0 rfl ?_
  refine s_iload_n E 1 rfl dX1_placeOf_1 rfl ?_
  obtain ⟨u1, e1, h⟩ := bnd_some h
  refine s_callVi E kf_X1_boatOf m_l_X1_52 (c_X1_boatOf q σ x1 u1 e1) ⟨rfl, rfl, by decide, by decide⟩ (q0 := 7) rfl rfl rfl rfl rfl (Nat.le_of_ble_eq_true rfl) dX1_placeOf_2 ?_
  refine s_bipush E (v := (-9)) dX1_placeOf_5 kb_m9 ?_
  refine s_icmp_eq E 13 dX1_placeOf_7 (by decide) (fun c2 => ?_) (fun c2 => ?_)
  · have h := (if_pos c2).symm.trans h
    refine s_aload_n E 0 rfl dX1_placeOf_13 rfl ?_
    obtain ⟨u3, e3, h⟩ := bnd_some h
    refine s_callVi E kf_X1_laid m_l_X1_55 (c_X1_laid q σ u3 e3) ⟨rfl, rfl, by decide, by decide⟩ (q0 := 7) rfl rfl rfl rfl rfl (Nat.le_of_ble_eq_true rfl) dX1_placeOf_14 ?_
    refine s_iload_n E 1 rfl dX1_placeOf_17 rfl ?_
    obtain ⟨u4, e4, h⟩ := bnd_some h
    refine s_callSNi E kf_X4_endOf nst_X1_48 (c_X4_endOf (wX cI q σ) u3 x1 u4 e4) ⟨rfl, rfl, by decide, by decide⟩ rfl rfl (Nat.le_of_ble_eq_true rfl) dX1_placeOf_18 ?_
    refine s_istore_n E (lv' := [(0, .ref (q 7)), (1, .int x1), (2, .int u4)]) dX1_placeOf_21 rfl rfl rfl rfl (by decide) ?_
    refine s_iload_n E 2 rfl dX1_placeOf_22 rfl ?_
    refine s_bipush E (v := (-9)) dX1_placeOf_23 kb_m9 ?_
    refine s_icmp_ne E 33 dX1_placeOf_25 (by decide) (fun c5 => ?_) (fun c5 => ?_)
    · have h := (if_pos c5).symm.trans h
      refine s_bipush E (v := 10) dX1_placeOf_28 kb_10 ?_
      refine s_goto E 34 dX1_placeOf_30 (by decide) ?_
      exact s_iret E (Option.some.inj h) rfl dX1_placeOf_34
    · have h := (if_neg c5).symm.trans h
      refine s_iload_n E 2 rfl dX1_placeOf_33 rfl ?_
      exact s_iret E (Option.some.inj h) rfl dX1_placeOf_34
  · have h := (if_neg c2).symm.trans h
    refine s_bipush E (v := 20) dX1_placeOf_10 kb_20 ?_
    exact s_iret E (Option.some.inj h) rfl dX1_placeOf_12
end
abbrev rm_X4_isMinute : Room := { frames := 0, cells := 0, slots := 0, locals := 0 }
section
variable {w : va_W}
def f_X4_isMinute (x0 : Int32) : Int32 :=
  (if x0 < 0 then 0 else (if 9 < x0 then 0 else 1))
set_option maxRecDepth 100000 in
set_option maxHeartbeats 4000000 in
theorem c_X4_isMinute (w : va_W) (x0 : Int32) : CT l dC dI cI cZ A yX4_isMinute cX4_isMinute 1 (some .boolean) rm_X4_isMinute [.int x0] w w (some (.int (f_X4_isMinute x0))) := by
  refine b_met (by decide) (Nat.le_of_ble_eq_true rfl) ?_
  intro p e s m below meth c E
  have E : EV p s m _ meth c dC dI cI cZ cX4_isMinute 1 RX4 (some .boolean) := E
  generalize h : f_X4_isMinute x0 = z
  show GG p l e rm_X4_isMinute s m _ below meth c _ A dC dI 1 w 0 [(0, .int x0)] []
  unfold f_X4_isMinute at h
  refine s_iload_n E 0 rfl dX4_isMinute_0 rfl ?_
  refine s_if_lt E 14 dX4_isMinute_1 (by decide) (fun c1 => ?_) (fun c1 => ?_)
  · have h := (if_pos c1).symm.trans h
    refine s_iconst E (v := 0) dX4_isMinute_14 ki_0 ?_
    exact s_zret E rfl h rfl dX4_isMinute_15
  · have h := (if_neg c1).symm.trans h
    refine s_iload_n E 0 rfl dX4_isMinute_4 rfl ?_
    refine s_bipush E (v := 9) dX4_isMinute_5 kb_9 ?_
    refine s_icmp_gt E 14 dX4_isMinute_7 (by decide) (fun c2 => ?_) (fun c2 => ?_)
    · have h := (if_pos c2).symm.trans h
      refine s_iconst E (v := 0) dX4_isMinute_14 ki_0 ?_
      exact s_zret E rfl h rfl dX4_isMinute_15
    · have h := (if_neg c2).symm.trans h
      refine s_iconst E (v := 1) dX4_isMinute_10 ki_1 ?_
      refine s_goto E 15 dX4_isMinute_11 (by decide) ?_
      exact s_zret E rfl h rfl dX4_isMinute_15
end
abbrev rm_X0_hasEnd : Room := { frames := 0, cells := 0, slots := 0, locals := 0 }
section
def f_X0_hasEnd (σ : Nat → Nat → Int32) (x1 : Int32) : Int32 :=
  (if x1 < 0 then 0 else (if (σ 3 0) ≤ x1 then 0 else 1))
set_option maxRecDepth 100000 in
set_option maxHeartbeats 4000000 in
theorem c_X0_hasEnd (q : Nat → Nat) (σ : Nat → Nat → Int32) (x1 : Int32) : CT l dC dI cI cZ A yX0_hasEnd cX0_hasEnd 2 (some .boolean) rm_X0_hasEnd [.ref (q 3), .int x1] (wX cI q σ) (wX cI q σ) (some (.int (f_X0_hasEnd σ x1))) := by
  refine b_met (by decide) (Nat.le_of_ble_eq_true rfl) ?_
  intro p e s m below meth c E
  have E : EV p s m _ meth c dC dI cI cZ cX0_hasEnd 2 RX0 (some .boolean) := E
  generalize h : f_X0_hasEnd σ x1 = z
  show GG p l e rm_X0_hasEnd s m _ below meth c _ A dC dI 2 (wX cI q σ) 0 [(0, .ref (q 3)), (1, .int x1)] []
  unfold f_X0_hasEnd at h
  refine s_iload_n E 1 rfl dX0_hasEnd_0 rfl ?_
  refine s_if_lt E 16 dX0_hasEnd_1 (by decide) (fun c1 => ?_) (fun c1 => ?_)
  · have h := (if_pos c1).symm.trans h
    refine s_iconst E (v := 0) dX0_hasEnd_16 ki_0 ?_
    exact s_zret E rfl h rfl dX0_hasEnd_17
  · have h := (if_neg c1).symm.trans h
    refine s_iload_n E 1 rfl dX0_hasEnd_4 rfl ?_
    refine s_aload_n E 0 rfl dX0_hasEnd_5 rfl ?_
    refine s_get E (v := .int (σ 3 0)) 3 0 in_X0 rfl rfl (by decide) m_f_X0_9 rfl dX0_hasEnd_6 ?_
    refine s_icmp_ge E 16 dX0_hasEnd_9 (by decide) (fun c2 => ?_) (fun c2 => ?_)
    · have h := (if_pos c2).symm.trans h
      refine s_iconst E (v := 0) dX0_hasEnd_16 ki_0 ?_
      exact s_zret E rfl h rfl dX0_hasEnd_17
    · have h := (if_neg c2).symm.trans h
      refine s_iconst E (v := 1) dX0_hasEnd_12 ki_1 ?_
      refine s_goto E 17 dX0_hasEnd_13 (by decide) ?_
      exact s_zret E rfl h rfl dX0_hasEnd_17
end
abbrev rm_X0_willSit : Room := { frames := 1, cells := 0, slots := 0, locals := 21 }
section
def f_X0_willSit (σ : Nat → Nat → Int32) (x1 : Int32) (x2 : Int32) : Option Int32 :=
  (if (f_X0_hasEnd σ x2) = 0 then (some 0) else (if (f_X0_hasPerson σ x1) = 0 then (some 0) else (chk x1 8 (if (σ 6 x1.toNatClampNeg) = 3 then (some 1) else (chk x1 8 (if (σ 6 x1.toNatClampNeg) = x2 then (some 1) else (some 0)))))))
set_option maxRecDepth 100000 in
set_option maxHeartbeats 4000000 in
theorem c_X0_willSit (q : Nat → Nat) (σ : Nat → Nat → Int32) (x1 : Int32) (x2 : Int32) (z : Int32) (h : f_X0_willSit σ x1 x2 = some z) : CT l dC dI cI cZ A yX0_willSit cX0_willSit 3 (some .boolean) rm_X0_willSit [.ref (q 3), .int x1, .int x2] (wX cI q σ) (wX cI q σ) (some (.int z)) := by
  refine b_met (by decide) (Nat.le_of_ble_eq_true rfl) ?_
  intro p e s m below meth c E
  have E : EV p s m _ meth c dC dI cI cZ cX0_willSit 3 RX0 (some .boolean) := E
  show GG p l e rm_X0_willSit s m _ below meth c _ A dC dI 3 (wX cI q σ) 0 [(0, .ref (q 3)), (1, .int x1), (2, .int x2)] []
  unfold f_X0_willSit at h
  refine s_aload_n E 0 rfl dX0_willSit_0 rfl ?_
  refine s_iload_n E 2 rfl dX0_willSit_1 rfl ?_
  refine s_callVi E kf_X0_hasEnd m_l_X0_55 (c_X0_hasEnd q σ x2) ⟨rfl, rfl, by decide, by decide⟩ (q0 := 3) rfl rfl rfl rfl rfl (Nat.le_of_ble_eq_true rfl) dX0_willSit_2 ?_
  refine s_if_eq E 40 dX0_willSit_5 (by decide) (fun c1 => ?_) (fun c1 => ?_)
  · have h := (if_pos c1).symm.trans h
    refine s_iconst E (v := 0) dX0_willSit_40 ki_0 ?_
    exact s_zret E rfl (Option.some.inj h) rfl dX0_willSit_41
  · have h := (if_neg c1).symm.trans h
    refine s_aload_n E 0 rfl dX0_willSit_8 rfl ?_
    refine s_iload_n E 1 rfl dX0_willSit_9 rfl ?_
    refine s_callVi E kf_X0_hasPerson m_l_X0_59 (c_X0_hasPerson q σ x1) ⟨rfl, rfl, by decide, by decide⟩ (q0 := 3) rfl rfl rfl rfl rfl (Nat.le_of_ble_eq_true rfl) dX0_willSit_10 ?_
    refine s_if_eq E 40 dX0_willSit_13 (by decide) (fun c2 => ?_) (fun c2 => ?_)
    · have h := (if_pos c2).symm.trans h
      refine s_iconst E (v := 0) dX0_willSit_40 ki_0 ?_
      exact s_zret E rfl (Option.some.inj h) rfl dX0_willSit_41
    · have h := (if_neg c2).symm.trans h
      refine s_aload_n E 0 rfl dX0_willSit_16 rfl ?_
      refine s_get E (v := .ref (q 6)) 3 8 in_X0 rfl rfl (by decide) m_f_X0_37 rfl dX0_willSit_17 ?_
      refine s_iload_n E 1 rfl dX0_willSit_20 rfl ?_
      obtain ⟨b3, h⟩ := chk_some h
      refine s_iald E (f := σ 6) (v := (σ 6 x1.toNatClampNeg)) 6 rfl b3 rfl dX0_willSit_21 ?_
      refine s_iconst E (v := 3) dX0_willSit_22 ki_3 ?_
      refine s_icmp_eq E 36 dX0_willSit_23 (by decide) (fun c4 => ?_) (fun c4 => ?_)
      · have h := (if_pos c4).symm.trans h
        refine s_iconst E (v := 1) dX0_willSit_36 ki_1 ?_
        refine s_goto E 41 dX0_willSit_37 (by decide) ?_
        exact s_zret E rfl (Option.some.inj h) rfl dX0_willSit_41
      · have h := (if_neg c4).symm.trans h
        refine s_aload_n E 0 rfl dX0_willSit_26 rfl ?_
        refine s_get E (v := .ref (q 6)) 3 8 in_X0 rfl rfl (by decide) m_f_X0_37 rfl dX0_willSit_27 ?_
        refine s_iload_n E 1 rfl dX0_willSit_30 rfl ?_
        obtain ⟨b5, h⟩ := chk_some h
        refine s_iald E (f := σ 6) (v := (σ 6 x1.toNatClampNeg)) 6 rfl b5 rfl dX0_willSit_31 ?_
        refine s_iload_n E 2 rfl dX0_willSit_32 rfl ?_
        refine s_icmp_ne E 40 dX0_willSit_33 (by decide) (fun c6 => ?_) (fun c6 => ?_)
        · have h := (if_pos c6).symm.trans h
          refine s_iconst E (v := 1) dX0_willSit_36 ki_1 ?_
          refine s_goto E 41 dX0_willSit_37 (by decide) ?_
          exact s_zret E rfl (Option.some.inj h) rfl dX0_willSit_41
        · have h := (if_neg c6).symm.trans h
          refine s_iconst E (v := 0) dX0_willSit_40 ki_0 ?_
          exact s_zret E rfl (Option.some.inj h) rfl dX0_willSit_41
end
abbrev rm_J6_bitCount_0f7a4 : Room := { frames := 0, cells := 0, slots := 0, locals := 0 }
section
variable {w : va_W}
def f_J6_bitCount_0f7a4 (x0 : Int32) : Int32 :=
  ((((((((x0 - ((ush x0 1) &&& 1431655765)) &&& 858993459) + ((ush (x0 - ((ush x0 1) &&& 1431655765)) 2) &&& 858993459)) + (ush (((x0 - ((ush x0 1) &&& 1431655765)) &&& 858993459) + ((ush (x0 - ((ush x0 1) &&& 1431655765)) 2) &&& 858993459)) 4)) &&& 252645135) + (ush (((((x0 - ((ush x0 1) &&& 1431655765)) &&& 858993459) + ((ush (x0 - ((ush x0 1) &&& 1431655765)) 2) &&& 858993459)) + (ush (((x0 - ((ush x0 1) &&& 1431655765)) &&& 858993459) + ((ush (x0 - ((ush x0 1) &&& 1431655765)) 2) &&& 858993459)) 4)) &&& 252645135) 8)) + (ush ((((((x0 - ((ush x0 1) &&& 1431655765)) &&& 858993459) + ((ush (x0 - ((ush x0 1) &&& 1431655765)) 2) &&& 858993459)) + (ush (((x0 - ((ush x0 1) &&& 1431655765)) &&& 858993459) + ((ush (x0 - ((ush x0 1) &&& 1431655765)) 2) &&& 858993459)) 4)) &&& 252645135) + (ush (((((x0 - ((ush x0 1) &&& 1431655765)) &&& 858993459) + ((ush (x0 - ((ush x0 1) &&& 1431655765)) 2) &&& 858993459)) + (ush (((x0 - ((ush x0 1) &&& 1431655765)) &&& 858993459) + ((ush (x0 - ((ush x0 1) &&& 1431655765)) 2) &&& 858993459)) 4)) &&& 252645135) 8)) 16)) &&& 63)
set_option maxRecDepth 100000 in
set_option maxHeartbeats 4000000 in
theorem c_J6_bitCount_0f7a4 (w : va_W) (x0 : Int32) : CT l dC dI cI cZ A yJ6_bitCount_0f7a4 cJ6_bitCount_0f7a4 1 (some .int) rm_J6_bitCount_0f7a4 [.int x0] w w (some (.int (f_J6_bitCount_0f7a4 x0))) := by
  refine b_met (by decide) (Nat.le_of_ble_eq_true rfl) ?_
  intro p e s m below meth c E
  have E : EV p s m _ meth c dC dI cI cZ cJ6_bitCount_0f7a4 1 RJ6 (some .int) := E
  generalize h : f_J6_bitCount_0f7a4 x0 = z
  show GG p l e rm_J6_bitCount_0f7a4 s m _ below meth c _ A dC dI 1 w 0 [(0, .int x0)] []
  unfold f_J6_bitCount_0f7a4 at h
  refine s_iload_n E 0 rfl dJ6_bitCount_0f7a4_0 rfl ?_
  refine s_iload_n E 0 rfl dJ6_bitCount_0f7a4_1 rfl ?_
  refine s_iconst E (v := 1) dJ6_bitCount_0f7a4_2 ki_1 ?_
  refine s_iushr E dJ6_bitCount_0f7a4_3 ?_
  refine s_ldcw E (v := (1431655765)) m_c_J6_265 dJ6_bitCount_0f7a4_4 ?_
  refine s_iand E dJ6_bitCount_0f7a4_7 ?_
  refine s_isub E dJ6_bitCount_0f7a4_8 ?_
  refine s_istore_n E (lv' := [(0, .int (x0 - ((ush x0 1) &&& 1431655765)))]) dJ6_bitCount_0f7a4_9 rfl rfl rfl rfl (by decide) ?_
  refine s_iload_n E 0 rfl dJ6_bitCount_0f7a4_10 rfl ?_
  refine s_ldcw E (v := (858993459)) m_c_J6_266 dJ6_bitCount_0f7a4_11 ?_
  refine s_iand E dJ6_bitCount_0f7a4_14 ?_
  refine s_iload_n E 0 rfl dJ6_bitCount_0f7a4_15 rfl ?_
  refine s_iconst E (v := 2) dJ6_bitCount_0f7a4_16 ki_2 ?_
  refine s_iushr E dJ6_bitCount_0f7a4_17 ?_
  refine s_ldcw E (v := (858993459)) m_c_J6_266 dJ6_bitCount_0f7a4_18 ?_
  refine s_iand E dJ6_bitCount_0f7a4_21 ?_
  refine s_iadd E dJ6_bitCount_0f7a4_22 ?_
  refine s_istore_n E (lv' := [(0, .int (((x0 - ((ush x0 1) &&& 1431655765)) &&& 858993459) + ((ush (x0 - ((ush x0 1) &&& 1431655765)) 2) &&& 858993459)))]) dJ6_bitCount_0f7a4_23 rfl rfl rfl rfl (by decide) ?_
  refine s_iload_n E 0 rfl dJ6_bitCount_0f7a4_24 rfl ?_
  refine s_iload_n E 0 rfl dJ6_bitCount_0f7a4_25 rfl ?_
  refine s_iconst E (v := 4) dJ6_bitCount_0f7a4_26 ki_4 ?_
  refine s_iushr E dJ6_bitCount_0f7a4_27 ?_
  refine s_iadd E dJ6_bitCount_0f7a4_28 ?_
  refine s_ldcw E (v := (252645135)) m_c_J6_267 dJ6_bitCount_0f7a4_29 ?_
  refine s_iand E dJ6_bitCount_0f7a4_32 ?_
  refine s_istore_n E (lv' := [(0, .int (((((x0 - ((ush x0 1) &&& 1431655765)) &&& 858993459) + ((ush (x0 - ((ush x0 1) &&& 1431655765)) 2) &&& 858993459)) + (ush (((x0 - ((ush x0 1) &&& 1431655765)) &&& 858993459) + ((ush (x0 - ((ush x0 1) &&& 1431655765)) 2) &&& 858993459)) 4)) &&& 252645135))]) dJ6_bitCount_0f7a4_33 rfl rfl rfl rfl (by decide) ?_
  refine s_iload_n E 0 rfl dJ6_bitCount_0f7a4_34 rfl ?_
  refine s_iload_n E 0 rfl dJ6_bitCount_0f7a4_35 rfl ?_
  refine s_bipush E (v := 8) dJ6_bitCount_0f7a4_36 kb_8 ?_
  refine s_iushr E dJ6_bitCount_0f7a4_38 ?_
  refine s_iadd E dJ6_bitCount_0f7a4_39 ?_
  refine s_istore_n E (lv' := [(0, .int ((((((x0 - ((ush x0 1) &&& 1431655765)) &&& 858993459) + ((ush (x0 - ((ush x0 1) &&& 1431655765)) 2) &&& 858993459)) + (ush (((x0 - ((ush x0 1) &&& 1431655765)) &&& 858993459) + ((ush (x0 - ((ush x0 1) &&& 1431655765)) 2) &&& 858993459)) 4)) &&& 252645135) + (ush (((((x0 - ((ush x0 1) &&& 1431655765)) &&& 858993459) + ((ush (x0 - ((ush x0 1) &&& 1431655765)) 2) &&& 858993459)) + (ush (((x0 - ((ush x0 1) &&& 1431655765)) &&& 858993459) + ((ush (x0 - ((ush x0 1) &&& 1431655765)) 2) &&& 858993459)) 4)) &&& 252645135) 8)))]) dJ6_bitCount_0f7a4_40 rfl rfl rfl rfl (by decide) ?_
  refine s_iload_n E 0 rfl dJ6_bitCount_0f7a4_41 rfl ?_
  refine s_iload_n E 0 rfl dJ6_bitCount_0f7a4_42 rfl ?_
  refine s_bipush E (v := 16) dJ6_bitCount_0f7a4_43 kb_16 ?_
  refine s_iushr E dJ6_bitCount_0f7a4_45 ?_
  refine s_iadd E dJ6_bitCount_0f7a4_46 ?_
  refine s_istore_n E (lv' := [(0, .int (((((((x0 - ((ush x0 1) &&& 1431655765)) &&& 858993459) + ((ush (x0 - ((ush x0 1) &&& 1431655765)) 2) &&& 858993459)) + (ush (((x0 - ((ush x0 1) &&& 1431655765)) &&& 858993459) + ((ush (x0 - ((ush x0 1) &&& 1431655765)) 2) &&& 858993459)) 4)) &&& 252645135) + (ush (((((x0 - ((ush x0 1) &&& 1431655765)) &&& 858993459) + ((ush (x0 - ((ush x0 1) &&& 1431655765)) 2) &&& 858993459)) + (ush (((x0 - ((ush x0 1) &&& 1431655765)) &&& 858993459) + ((ush (x0 - ((ush x0 1) &&& 1431655765)) 2) &&& 858993459)) 4)) &&& 252645135) 8)) + (ush ((((((x0 - ((ush x0 1) &&& 1431655765)) &&& 858993459) + ((ush (x0 - ((ush x0 1) &&& 1431655765)) 2) &&& 858993459)) + (ush (((x0 - ((ush x0 1) &&& 1431655765)) &&& 858993459) + ((ush (x0 - ((ush x0 1) &&& 1431655765)) 2) &&& 858993459)) 4)) &&& 252645135) + (ush (((((x0 - ((ush x0 1) &&& 1431655765)) &&& 858993459) + ((ush (x0 - ((ush x0 1) &&& 1431655765)) 2) &&& 858993459)) + (ush (((x0 - ((ush x0 1) &&& 1431655765)) &&& 858993459) + ((ush (x0 - ((ush x0 1) &&& 1431655765)) 2) &&& 858993459)) 4)) &&& 252645135) 8)) 16)))]) dJ6_bitCount_0f7a4_47 rfl rfl rfl rfl (by decide) ?_
  refine s_iload_n E 0 rfl dJ6_bitCount_0f7a4_48 rfl ?_
  refine s_bipush E (v := 63) dJ6_bitCount_0f7a4_49 kb_63 ?_
  refine s_iand E dJ6_bitCount_0f7a4_51 ?_
  exact s_iret E h rfl dJ6_bitCount_0f7a4_52
end
abbrev rm_X4_seat : Room := { frames := 0, cells := 0, slots := 0, locals := 0 }
section
variable {w : va_W}
def f_X4_seat (x0 : Int32) (x1 : Int32) (x2 : Int32) : Int32 :=
  (x0 ||| (shl 1 ((8 * x2) + x1)))
set_option maxRecDepth 100000 in
set_option maxHeartbeats 4000000 in
theorem c_X4_seat (w : va_W) (x0 : Int32) (x1 : Int32) (x2 : Int32) : CT l dC dI cI cZ A yX4_seat cX4_seat 3 (some .int) rm_X4_seat [.int x0, .int x1, .int x2] w w (some (.int (f_X4_seat x0 x1 x2))) := by
  refine b_met (by decide) (Nat.le_of_ble_eq_true rfl) ?_
  intro p e s m below meth c E
  have E : EV p s m _ meth c dC dI cI cZ cX4_seat 3 RX4 (some .int) := E
  generalize h : f_X4_seat x0 x1 x2 = z
  show GG p l e rm_X4_seat s m _ below meth c _ A dC dI 3 w 0 [(0, .int x0), (1, .int x1), (2, .int x2)] []
  unfold f_X4_seat at h
  refine s_iload_n E 0 rfl dX4_seat_0 rfl ?_
  refine s_iconst E (v := 1) dX4_seat_1 ki_1 ?_
  refine s_bipush E (v := 8) dX4_seat_2 kb_8 ?_
  refine s_iload_n E 2 rfl dX4_seat_4 rfl ?_
  refine s_imul E dX4_seat_5 ?_
  refine s_iload_n E 1 rfl dX4_seat_6 rfl ?_
  refine s_iadd E dX4_seat_7 ?_
  refine s_ishl E dX4_seat_8 ?_
  refine s_ior E dX4_seat_9 ?_
  exact s_iret E h rfl dX4_seat_10
end
abbrev rm_X1_setLaid : Room := { frames := 0, cells := 0, slots := 0, locals := 0 }
section
def f_X1_setLaid (σ : Nat → Nat → Int32) (x1 : Int32) : Option (Nat → Nat → Int32) :=
  (if (σ 7 3) < 0 then (some σ) else (if 8 < (σ 7 3) then (some σ) else (chk (σ 7 3) 9 (some (up2 σ 8 ((σ 7 3).toNatClampNeg) x1)))))
set_option maxRecDepth 100000 in
set_option maxHeartbeats 4000000 in
theorem c_X1_setLaid (q : Nat → Nat) (σ : Nat → Nat → Int32) (x1 : Int32) (z : (Nat → Nat → Int32)) (h : f_X1_setLaid σ x1 = some z) : CT l dC dI cI cZ A yX1_setLaid cX1_setLaid 2 none rm_X1_setLaid [.ref (q 7), .int x1] (wX cI q σ) (wX cI q z) none := by
  refine b_met (by decide) (Nat.le_of_ble_eq_true rfl) ?_
  intro p e s m below meth c E
  have E : EV p s m _ meth c dC dI cI cZ cX1_setLaid 2 RX1 none := E
  show GG p l e rm_X1_setLaid s m _ below meth c _ A dC dI 2 (wX cI q σ) 0 [(0, .ref (q 7)), (1, .int x1)] []
  unfold f_X1_setLaid at h
  refine s_aload_n E 0 rfl dX1_setLaid_0 rfl ?_
  refine s_get E (v := .int (σ 7 3)) 7 3 in_X1 rfl rfl (by decide) m_f_X1_21 rfl dX1_setLaid_1 ?_
  refine s_if_lt E 26 dX1_setLaid_4 (by decide) (fun c1 => ?_) (fun c1 => ?_)
  · have h := (if_pos c1).symm.trans h
    exact s_vret E (congrArg (fun t : Nat → Nat → Int32 => wX cI q t) (Option.some.inj h)) dX1_setLaid_26
  · have h := (if_neg c1).symm.trans h
    refine s_aload_n E 0 rfl dX1_setLaid_7 rfl ?_
    refine s_get E (v := .int (σ 7 3)) 7 3 in_X1 rfl rfl (by decide) m_f_X1_21 rfl dX1_setLaid_8 ?_
    refine s_bipush E (v := 8) dX1_setLaid_11 kb_8 ?_
    refine s_icmp_gt E 26 dX1_setLaid_13 (by decide) (fun c2 => ?_) (fun c2 => ?_)
    · have h := (if_pos c2).symm.trans h
      exact s_vret E (congrArg (fun t : Nat → Nat → Int32 => wX cI q t) (Option.some.inj h)) dX1_setLaid_26
    · have h := (if_neg c2).symm.trans h
      refine s_aload_n E 0 rfl dX1_setLaid_16 rfl ?_
      refine s_get E (v := .ref (q 8)) 7 0 in_X1 rfl rfl (by decide) m_f_X1_9 rfl dX1_setLaid_17 ?_
      refine s_aload_n E 0 rfl dX1_setLaid_20 rfl ?_
      refine s_get E (v := .int (σ 7 3)) 7 3 in_X1 rfl rfl (by decide) m_f_X1_21 rfl dX1_setLaid_21 ?_
      refine s_iload_n E 1 rfl dX1_setLaid_24 rfl ?_
      obtain ⟨b3, h⟩ := chk_some h
      refine s_iast E (w' := (wX cI q (up2 σ 8 ((σ 7 3).toNatClampNeg) x1))) 8 rfl b3 rfl dX1_setLaid_25 ?_
      exact s_vret E (congrArg (fun t : Nat → Nat → Int32 => wX cI q t) (Option.some.inj h)) dX1_setLaid_26
end
abbrev rm_X4_unseat : Room := { frames := 0, cells := 0, slots := 0, locals := 0 }
section
variable {w : va_W}
def f_X4_unseat (x0 : Int32) (x1 : Int32) (x2 : Int32) : Int32 :=
  (x0 &&& ((shl 1 ((8 * x2) + x1)) ^^^ (-1)))
set_option maxRecDepth 100000 in
set_option maxHeartbeats 4000000 in
theorem c_X4_unseat (w : va_W) (x0 : Int32) (x1 : Int32) (x2 : Int32) : CT l dC dI cI cZ A yX4_unseat cX4_unseat 3 (some .int) rm_X4_unseat [.int x0, .int x1, .int x2] w w (some (.int (f_X4_unseat x0 x1 x2))) := by
  refine b_met (by decide) (Nat.le_of_ble_eq_true rfl) ?_
  intro p e s m below meth c E
  have E : EV p s m _ meth c dC dI cI cZ cX4_unseat 3 RX4 (some .int) := E
  generalize h : f_X4_unseat x0 x1 x2 = z
  show GG p l e rm_X4_unseat s m _ below meth c _ A dC dI 3 w 0 [(0, .int x0), (1, .int x1), (2, .int x2)] []
  unfold f_X4_unseat at h
  refine s_iload_n E 0 rfl dX4_unseat_0 rfl ?_
  refine s_iconst E (v := 1) dX4_unseat_1 ki_1 ?_
  refine s_bipush E (v := 8) dX4_unseat_2 kb_8 ?_
  refine s_iload_n E 2 rfl dX4_unseat_4 rfl ?_
  refine s_imul E dX4_unseat_5 ?_
  refine s_iload_n E 1 rfl dX4_unseat_6 rfl ?_
  refine s_iadd E dX4_unseat_7 ?_
  refine s_ishl E dX4_unseat_8 ?_
  refine s_iconst E (v := (-1)) dX4_unseat_9 ki_m1 ?_
  refine s_ixor E dX4_unseat_10 ?_
  refine s_iand E dX4_unseat_11 ?_
  exact s_iret E h rfl dX4_unseat_12
end
abbrev rm_X4_poundsAfter : Room := { frames := 0, cells := 0, slots := 0, locals := 0 }
section
variable {w : va_W}
def f_X4_poundsAfter (x0 : Int32) (x1 : Int32) (x2 : Int32) : Int32 :=
  (if 0 ≤ (x0 + (x1 * x2)) then (x0 + (x1 * x2)) else 0)
set_option maxRecDepth 100000 in
set_option maxHeartbeats 4000000 in
theorem c_X4_poundsAfter (w : va_W) (x0 : Int32) (x1 : Int32) (x2 : Int32) : CT l dC dI cI cZ A yX4_poundsAfter cX4_poundsAfter 4 (some .int) rm_X4_poundsAfter [.int x0, .int x1, .int x2] w w (some (.int (f_X4_poundsAfter x0 x1 x2))) := by
  refine b_met (by decide) (Nat.le_of_ble_eq_true rfl) ?_
  intro p e s m below meth c E
  have E : EV p s m _ meth c dC dI cI cZ cX4_poundsAfter 4 RX4 (some .int) := E
  generalize h : f_X4_poundsAfter x0 x1 x2 = z
  show GG p l e rm_X4_poundsAfter s m _ below meth c _ A dC dI 4 w 0 [(0, .int x0), (1, .int x1), (2, .int x2)] []
  unfold f_X4_poundsAfter at h
  refine s_iload_n E 0 rfl dX4_poundsAfter_0 rfl ?_
  refine s_iload_n E 1 rfl dX4_poundsAfter_1 rfl ?_
  refine s_iload_n E 2 rfl dX4_poundsAfter_2 rfl ?_
  refine s_imul E dX4_poundsAfter_3 ?_
  refine s_iadd E dX4_poundsAfter_4 ?_
  refine s_istore_n E (lv' := [(0, .int x0), (1, .int x1), (2, .int x2), (3, .int (x0 + (x1 * x2)))]) dX4_poundsAfter_5 rfl rfl rfl rfl (by decide) ?_
  refine s_iload_n E 3 rfl dX4_poundsAfter_6 rfl ?_
  refine s_if_ge E 14 dX4_poundsAfter_7 (by decide) (fun c1 => ?_) (fun c1 => ?_)
  · have h := (if_pos c1).symm.trans h
    refine s_iload_n E 3 rfl dX4_poundsAfter_14 rfl ?_
    exact s_iret E h rfl dX4_poundsAfter_15
  · have h := (if_neg c1).symm.trans h
    refine s_iconst E (v := 0) dX4_poundsAfter_10 ki_0 ?_
    refine s_goto E 15 dX4_poundsAfter_11 (by decide) ?_
    exact s_iret E h rfl dX4_poundsAfter_15
end
abbrev rm_X0_loadOf_3_4_9 : Room := { frames := 1, cells := 0, slots := 0, locals := 23 }
section
def f_X0_loadOf_3_4_9_L24 (σ : Nat → Nat → Int32) (x5 : Int32) (x6 : Int32) : Nat → Int32 → Int32 → Option Int32
  | 0, _, _ => none
  | n + 1, y7, y8 =>
    (if (σ 3 5) ≤ y8 then (some y7) else (if ((shr x6 y8) &&& 1) = 0 then (f_X0_loadOf_3_4_9_L24 σ x5 x6 n y7 (y8 + 1)) else (chk y8 8 (chk y8 8 (f_X0_loadOf_3_4_9_L24 σ x5 x6 n (y7 + (f_X4_poundsAfter (σ 4 y8.toNatClampNeg) (σ 9 y8.toNatClampNeg) x5)) (y8 + 1))))))
set_option maxRecDepth 100000 in
set_option maxHeartbeats 4000000 in
theorem w_X0_loadOf_3_4_9_L24 (E : EV p s m args meth c dC dI cI cZ cX0_loadOf 9 RX0 (some .int)) (q : Nat → Nat) (σ : Nat → Nat → Int32) (x5 : Int32) (x6 : Int32) : ∀ (n : Nat) (y7 y8 : Int32) (z : Int32), f_X0_loadOf_3_4_9_L24 σ x5 x6 n y7 y8 = some z → GG p l e rm_X0_loadOf_3_4_9 s m args below meth c Q A dC dI 9 (wX cI q σ) 68 [(0, .ref (q 3)), (3, .ref (q 4)), (4, .ref (q 9)), (5, .int x5), (6, .int x6), (7, .int z)] [] → GG p l e rm_X0_loadOf_3_4_9 s m args below meth c Q A dC dI 9 (wX cI q σ) 24 [(0, .ref (q 3)), (3, .ref (q 4)), (4, .ref (q 9)), (5, .int x5), (6, .int x6), (7, .int y7), (8, .int y8)] [] := by
  intro n
  induction n with
  | zero =>
    intro y7 y8 z h
    rw [f_X0_loadOf_3_4_9_L24] at h
    cases h
  | succ n ih =>
    intro y7 y8 z h hK
    rw [f_X0_loadOf_3_4_9_L24] at h
    refine s_iload E 6 rfl dX0_loadOf_24 ?_
    refine s_aload_n E 0 rfl dX0_loadOf_26 rfl ?_
    refine s_get E (v := .int (σ 3 5)) 3 5 in_X0 rfl rfl (by decide) m_f_X0_27 rfl dX0_loadOf_27 ?_
    refine s_icmp_ge E 68 dX0_loadOf_30 (by decide) (fun c2 => ?_) (fun c2 => ?_)
    · have h := (if_pos c2).symm.trans h
      refine s_sub E (lv' := [(0, .ref (q 3)), (3, .ref (q 4)), (4, .ref (q 9)), (5, .int x5), (6, .int x6), (7, .int y7)]) [0, 1, 2, 3, 4, 5] rfl ?_
      obtain rfl := Option.some.inj h
      exact hK
    · have h := (if_neg c2).symm.trans h
      refine s_iload E 4 rfl dX0_loadOf_33 ?_
      refine s_iload E 6 rfl dX0_loadOf_35 ?_
      refine s_ishr E dX0_loadOf_37 ?_
      refine s_iconst E (v := 1) dX0_loadOf_38 ki_1 ?_
      refine s_iand E dX0_loadOf_39 ?_
      refine s_if_eq E 62 dX0_loadOf_40 (by decide) (fun c3 => ?_) (fun c3 => ?_)
      · have h := (if_pos c3).symm.trans h
        refine s_iinc E (v := (y8 + 1)) (lv' := [(0, .ref (q 3)), (3, .ref (q 4)), (4, .ref (q 9)), (5, .int x5), (6, .int x6), (7, .int y7), (8, .int (y8 + 1))]) 6 rfl dX0_loadOf_62 ki_1 rfl rfl rfl rfl (by decide) ?_
        refine s_goto E 24 dX0_loadOf_65 (by decide) ?_
        exact ih y7 (y8 + 1) z h hK
      · have h := (if_neg c3).symm.trans h
        refine s_iload E 5 rfl dX0_loadOf_43 ?_
        refine s_aload_n E 1 rfl dX0_loadOf_45 rfl ?_
        refine s_iload E 6 rfl dX0_loadOf_46 ?_
        obtain ⟨b4, h⟩ := chk_some h
        refine s_iald E (f := σ 4) (v := (σ 4 y8.toNatClampNeg)) 4 rfl b4 rfl dX0_loadOf_48 ?_
        refine s_aload E 2 rfl dX0_loadOf_49 ?_
        refine s_iload E 6 rfl dX0_loadOf_51 ?_
        obtain ⟨b5, h⟩ := chk_some h
        refine s_iald E (f := σ 9) (v := (σ 9 y8.toNatClampNeg)) 9 rfl b5 rfl dX0_loadOf_53 ?_
        refine s_iload E 3 rfl dX0_loadOf_54 ?_
        refine s_callSNi E kf_X4_poundsAfter nst_X0_65 (c_X4_poundsAfter (wX cI q σ) (σ 4 y8.toNatClampNeg) (σ 9 y8.toNatClampNeg) x5) ⟨rfl, rfl, by decide, by decide⟩ rfl rfl (Nat.le_of_ble_eq_true rfl) dX0_loadOf_56 ?_
        refine s_iadd E dX0_loadOf_59 ?_
        refine s_istore E (lv' := [(0, .ref (q 3)), (3, .ref (q 4)), (4, .ref (q 9)), (5, .int x5), (6, .int x6), (7, .int (y7 + (f_X4_poundsAfter (σ 4 y8.toNatClampNeg) (σ 9 y8.toNatClampNeg) x5))), (8, .int y8)]) dX0_loadOf_60 rfl rfl rfl (by decide) ?_
        refine s_iinc E (v := (y8 + 1)) (lv' := [(0, .ref (q 3)), (3, .ref (q 4)), (4, .ref (q 9)), (5, .int x5), (6, .int x6), (7, .int (y7 + (f_X4_poundsAfter (σ 4 y8.toNatClampNeg) (σ 9 y8.toNatClampNeg) x5))), (8, .int (y8 + 1))]) 6 rfl dX0_loadOf_62 ki_1 rfl rfl rfl rfl (by decide) ?_
        refine s_goto E 24 dX0_loadOf_65 (by decide) ?_
        exact ih (y7 + (f_X4_poundsAfter (σ 4 y8.toNatClampNeg) (σ 9 y8.toNatClampNeg) x5)) (y8 + 1) z h hK
def f_X0_loadOf_3_4_9_J19 (σ : Nat → Nat → Int32) (t5 : Int32) (t6 : Int32) (s0 : Int32) : Option Int32 :=
  ((f_X0_loadOf_3_4_9_L24 σ t5 t6 fuel s0 0).bind fun u6 => (some u6))
set_option maxRecDepth 100000 in
set_option maxHeartbeats 4000000 in
theorem w_X0_loadOf_3_4_9_J19 (E : EV p s m args meth c dC dI cI cZ cX0_loadOf 9 RX0 (some .int)) (q : Nat → Nat) (σ : Nat → Nat → Int32) (t5 : Int32) (t6 : Int32) (s0 : Int32) (z : Int32) (h : f_X0_loadOf_3_4_9_J19 σ t5 t6 s0 = some z) : GG p l e rm_X0_loadOf_3_4_9 s m args below meth c (MQ below (CQ dC dI (some (.int z)) (wX cI q σ) A) args s 0 0 A) A dC dI 9 (wX cI q σ) 19 [(0, .ref (q 3)), (3, .ref (q 4)), (4, .ref (q 9)), (5, .int t5), (6, .int t6)] [.int s0] := by
  unfold f_X0_loadOf_3_4_9_J19 at h
  refine s_istore E (lv' := [(0, .ref (q 3)), (3, .ref (q 4)), (4, .ref (q 9)), (5, .int t5), (6, .int t6), (7, .int s0)]) dX0_loadOf_19 rfl rfl rfl (by decide) ?_
  refine s_iconst E (v := 0) dX0_loadOf_21 ki_0 ?_
  refine s_istore E (lv' := [(0, .ref (q 3)), (3, .ref (q 4)), (4, .ref (q 9)), (5, .int t5), (6, .int t6), (7, .int s0), (8, .int 0)]) dX0_loadOf_22 rfl rfl rfl (by decide) ?_
  obtain ⟨u6, e6, h⟩ := bnd_some h
  refine w_X0_loadOf_3_4_9_L24 E q σ t5 t6 fuel s0 0 u6 e6 ?_
  refine s_iload E 5 rfl dX0_loadOf_68 ?_
  exact s_iret E (Option.some.inj h) rfl dX0_loadOf_70
def f_X0_loadOf_3_4_9 (σ : Nat → Nat → Int32) (x1 : Int32) (x2 : Int32) (x5 : Int32) : Option Int32 :=
  (if x2 = 0 then (f_X0_loadOf_3_4_9_J19 σ x5 (f_X4_sitters x1 x2) (σ 3 4)) else (f_X0_loadOf_3_4_9_J19 σ x5 (f_X4_sitters x1 x2) 0))
set_option maxRecDepth 100000 in
set_option maxHeartbeats 4000000 in
theorem c_X0_loadOf_3_4_9 (q : Nat → Nat) (σ : Nat → Nat → Int32) (x1 : Int32) (x2 : Int32) (x5 : Int32) (z : Int32) (h : f_X0_loadOf_3_4_9 σ x1 x2 x5 = some z) : CT l dC dI cI cZ A yX0_loadOf cX0_loadOf 9 (some .int) rm_X0_loadOf_3_4_9 [.ref (q 3), .int x1, .int x2, .ref (q 4), .ref (q 9), .int x5] (wX cI q σ) (wX cI q σ) (some (.int z)) := by
  refine b_met (by decide) (Nat.le_of_ble_eq_true rfl) ?_
  intro p e s m below meth c E
  have E : EV p s m _ meth c dC dI cI cZ cX0_loadOf 9 RX0 (some .int) := E
  show GG p l e rm_X0_loadOf_3_4_9 s m _ below meth c _ A dC dI 9 (wX cI q σ) 0 [(0, .ref (q 3)), (1, .int x1), (2, .int x2), (3, .ref (q 4)), (4, .ref (q 9)), (5, .int x5)] []
  unfold f_X0_loadOf_3_4_9 at h
  refine s_iload_n E 1 rfl dX0_loadOf_0 rfl ?_
  refine s_iload_n E 2 rfl dX0_loadOf_1 rfl ?_
  refine s_callSNi E kf_X4_sitters nst_X0_62 (c_X4_sitters (wX cI q σ) x1 x2) ⟨rfl, rfl, by decide, by decide⟩ rfl rfl (Nat.le_of_ble_eq_true rfl) dX0_loadOf_2 ?_
  refine s_istore E (lv' := [(0, .ref (q 3)), (1, .int x1), (2, .int x2), (3, .ref (q 4)), (4, .ref (q 9)), (5, .int x5), (6, .int (f_X4_sitters x1 x2))]) dX0_loadOf_5 rfl rfl rfl (by decide) ?_
  refine s_iload_n E 2 rfl dX0_loadOf_7 rfl ?_
  refine s_if_ne E 18 dX0_loadOf_8 (by decide) (fun c1 => ?_) (fun c1 => ?_)
  · have h := (if_pos c1).symm.trans h
    refine s_aload_n E 0 rfl dX0_loadOf_11 rfl ?_
    refine s_get E (v := .int (σ 3 4)) 3 4 in_X0 rfl rfl (by decide) m_f_X0_24 rfl dX0_loadOf_12 ?_
    refine s_goto E 19 dX0_loadOf_15 (by decide) ?_
    refine s_sub E (lv' := [(0, .ref (q 3)), (3, .ref (q 4)), (4, .ref (q 9)), (5, .int x5), (6, .int (f_X4_sitters x1 x2))]) [0, 3, 4, 5, 6] rfl ?_
    exact w_X0_loadOf_3_4_9_J19 E q σ x5 (f_X4_sitters x1 x2) (σ 3 4) z h
  · have h := (if_neg c1).symm.trans h
    refine s_iconst E (v := 0) dX0_loadOf_18 ki_0 ?_
    refine s_sub E (lv' := [(0, .ref (q 3)), (3, .ref (q 4)), (4, .ref (q 9)), (5, .int x5), (6, .int (f_X4_sitters x1 x2))]) [0, 3, 4, 5, 6] rfl ?_
    exact w_X0_loadOf_3_4_9_J19 E q σ x5 (f_X4_sitters x1 x2) 0 z h
end
abbrev rm_X0_tiltOf_3_4_9 : Room := { frames := 2, cells := 0, slots := 0, locals := 51 }
section
def f_X0_tiltOf_3_4_9 (σ : Nat → Nat → Int32) (x1 : Int32) (x4 : Int32) : Option Int32 :=
  ((f_X0_loadOf_3_4_9 σ x1 0 x4).bind fun u1 => ((f_X0_loadOf_3_4_9 σ x1 1 x4).bind fun u2 => (if (σ 3 0) = 2 then (some (((σ 3 1) * u1) - ((σ 3 2) * u2))) else ((f_X0_loadOf_3_4_9 σ x1 2 x4).bind fun u4 => (some ((if u1 < (if u2 < u4 then u4 else u2) then (if u2 < u4 then u4 else u2) else u1) - (if (if u4 < u2 then u4 else u2) < u1 then (if u4 < u2 then u4 else u2) else u1)))))))
set_option maxRecDepth 100000 in
set_option maxHeartbeats 4000000 in
theorem c_X0_tiltOf_3_4_9 (q : Nat → Nat) (σ : Nat → Nat → Int32) (x1 : Int32) (x4 : Int32) (z : Int32) (h : f_X0_tiltOf_3_4_9 σ x1 x4 = some z) : CT l dC dI cI cZ A yX0_tiltOf cX0_tiltOf 10 (some .int) rm_X0_tiltOf_3_4_9 [.ref (q 3), .int x1, .ref (q 4), .ref (q 9), .int x4] (wX cI q σ) (wX cI q σ) (some (.int z)) := by
  refine b_met (by decide) (Nat.le_of_ble_eq_true rfl) ?_
  intro p e s m below meth c E
  have E : EV p s m _ meth c dC dI cI cZ cX0_tiltOf 10 RX0 (some .int) := E
  show GG p l e rm_X0_tiltOf_3_4_9 s m _ below meth c _ A dC dI 10 (wX cI q σ) 0 [(0, .ref (q 3)), (1, .int x1), (2, .ref (q 4)), (3, .ref (q 9)), (4, .int x4)] []
  unfold f_X0_tiltOf_3_4_9 at h
  refine s_aload_n E 0 rfl dX0_tiltOf_0 rfl ?_
  refine s_iload_n E 1 rfl dX0_tiltOf_1 rfl ?_
  refine s_iconst E (v := 0) dX0_tiltOf_2 ki_0 ?_
  refine s_aload_n E 2 rfl dX0_tiltOf_3 rfl ?_
  refine s_aload_n E 3 rfl dX0_tiltOf_4 rfl ?_
  refine s_iload E 4 rfl dX0_tiltOf_5 ?_
  obtain ⟨u1, e1, h⟩ := bnd_some h
  refine s_callVi E kf_X0_loadOf m_l_X0_69 (c_X0_loadOf_3_4_9 q σ x1 0 x4 u1 e1) ⟨rfl, rfl, by decide, by decide⟩ (q0 := 3) rfl rfl rfl rfl rfl (Nat.le_of_ble_eq_true rfl) dX0_tiltOf_7 ?_
  refine s_istore E (lv' := [(0, .ref (q 3)), (1, .int x1), (2, .ref (q 4)), (3, .ref (q 9)), (4, .int x4), (5, .int u1)]) dX0_tiltOf_10 rfl rfl rfl (by decide) ?_
  refine s_aload_n E 0 rfl dX0_tiltOf_12 rfl ?_
  refine s_iload_n E 1 rfl dX0_tiltOf_13 rfl ?_
  refine s_iconst E (v := 1) dX0_tiltOf_14 ki_1 ?_
  refine s_aload_n E 2 rfl dX0_tiltOf_15 rfl ?_
  refine s_aload_n E 3 rfl dX0_tiltOf_16 rfl ?_
  refine s_iload E 4 rfl dX0_tiltOf_17 ?_
  obtain ⟨u2, e2, h⟩ := bnd_some h
  refine s_callVi E kf_X0_loadOf m_l_X0_69 (c_X0_loadOf_3_4_9 q σ x1 1 x4 u2 e2) ⟨rfl, rfl, by decide, by decide⟩ (q0 := 3) rfl rfl rfl rfl rfl (Nat.le_of_ble_eq_true rfl) dX0_tiltOf_19 ?_
  refine s_istore E (lv' := [(0, .ref (q 3)), (1, .int x1), (2, .ref (q 4)), (3, .ref (q 9)), (4, .int x4), (5, .int u1), (6, .int u2)]) dX0_tiltOf_22 rfl rfl rfl (by decide) ?_
  refine s_aload_n E 0 rfl dX0_tiltOf_24 rfl ?_
  refine s_get E (v := .int (σ 3 0)) 3 0 in_X0 rfl rfl (by decide) m_f_X0_9 rfl dX0_tiltOf_25 ?_
  refine s_iconst E (v := 2) dX0_tiltOf_28 ki_2 ?_
  refine s_icmp_ne E 48 dX0_tiltOf_29 (by decide) (fun c3 => ?_) (fun c3 => ?_)
  · have h := (if_pos c3).symm.trans h
    refine s_aload_n E 0 rfl dX0_tiltOf_32 rfl ?_
    refine s_get E (v := .int (σ 3 1)) 3 1 in_X0 rfl rfl (by decide) m_f_X0_15 rfl dX0_tiltOf_33 ?_
    refine s_iload E 5 rfl dX0_tiltOf_36 ?_
    refine s_imul E dX0_tiltOf_38 ?_
    refine s_aload_n E 0 rfl dX0_tiltOf_39 rfl ?_
    refine s_get E (v := .int (σ 3 2)) 3 2 in_X0 rfl rfl (by decide) m_f_X0_18 rfl dX0_tiltOf_40 ?_
    refine s_iload E 6 rfl dX0_tiltOf_43 ?_
    refine s_imul E dX0_tiltOf_45 ?_
    refine s_isub E dX0_tiltOf_46 ?_
    exact s_iret E (Option.some.inj h) rfl dX0_tiltOf_47
  · have h := (if_neg c3).symm.trans h
    refine s_aload_n E 0 rfl dX0_tiltOf_48 rfl ?_
    refine s_iload_n E 1 rfl dX0_tiltOf_49 rfl ?_
    refine s_iconst E (v := 2) dX0_tiltOf_50 ki_2 ?_
    refine s_aload_n E 2 rfl dX0_tiltOf_51 rfl ?_
    refine s_aload_n E 3 rfl dX0_tiltOf_52 rfl ?_
    refine s_iload E 4 rfl dX0_tiltOf_53 ?_
    obtain ⟨u4, e4, h⟩ := bnd_some h
    refine s_callVi E kf_X0_loadOf m_l_X0_69 (c_X0_loadOf_3_4_9 q σ x1 2 x4 u4 e4) ⟨rfl, rfl, by decide, by decide⟩ (q0 := 3) rfl rfl rfl rfl rfl (Nat.le_of_ble_eq_true rfl) dX0_tiltOf_55 ?_
    refine s_istore E (lv' := [(0, .ref (q 3)), (1, .int x1), (2, .ref (q 4)), (3, .ref (q 9)), (4, .int x4), (5, .int u1), (6, .int u2), (7, .int u4)]) dX0_tiltOf_58 rfl rfl rfl (by decide) ?_
    refine s_iload E 5 rfl dX0_tiltOf_60 ?_
    refine s_iload E 6 rfl dX0_tiltOf_62 ?_
    refine s_iload E 7 rfl dX0_tiltOf_64 ?_
    refine s_mmax E m_l_X0_73 (by decide) (Nat.le_of_ble_eq_true rfl) dX0_tiltOf_66 ?_
    refine s_mmax E m_l_X0_73 (by decide) (Nat.le_of_ble_eq_true rfl) dX0_tiltOf_69 ?_
    refine s_istore E (lv' := [(0, .ref (q 3)), (1, .int x1), (2, .ref (q 4)), (3, .ref (q 9)), (4, .int x4), (5, .int u1), (6, .int u2), (7, .int u4), (8, .int (if u1 < (if u2 < u4 then u4 else u2) then (if u2 < u4 then u4 else u2) else u1))]) dX0_tiltOf_72 rfl rfl rfl (by decide) ?_
    refine s_iload E 5 rfl dX0_tiltOf_74 ?_
    refine s_iload E 6 rfl dX0_tiltOf_76 ?_
    refine s_iload E 7 rfl dX0_tiltOf_78 ?_
    refine s_mmin E m_l_X0_49 (by decide) (Nat.le_of_ble_eq_true rfl) dX0_tiltOf_80 ?_
    refine s_mmin E m_l_X0_49 (by decide) (Nat.le_of_ble_eq_true rfl) dX0_tiltOf_83 ?_
    refine s_istore E (lv' := [(0, .ref (q 3)), (1, .int x1), (2, .ref (q 4)), (3, .ref (q 9)), (4, .int x4), (5, .int u1), (6, .int u2), (7, .int u4), (8, .int (if u1 < (if u2 < u4 then u4 else u2) then (if u2 < u4 then u4 else u2) else u1)), (9, .int (if (if u4 < u2 then u4 else u2) < u1 then (if u4 < u2 then u4 else u2) else u1))]) dX0_tiltOf_86 rfl rfl rfl (by decide) ?_
    refine s_iload E 8 rfl dX0_tiltOf_88 ?_
    refine s_iload E 9 rfl dX0_tiltOf_90 ?_
    refine s_isub E dX0_tiltOf_92 ?_
    exact s_iret E (Option.some.inj h) rfl dX0_tiltOf_93
end
abbrev rm_X0_isLevel_3_4_7 : Room := { frames := 3, cells := 0, slots := 0, locals := 80 }
section
def f_X0_isLevel_3_4_7 (σ : Nat → Nat → Int32) (x1 : Int32) : Option Int32 :=
  ((f_X0_tiltOf_3_4_9 σ x1 0).bind fun u1 => (if u1 = 0 then ((f_X0_tiltOf_3_4_9 σ x1 (σ 7 4)).bind fun u3 => (if u3 = 0 then (some 1) else (some 0))) else (some 0)))
set_option maxRecDepth 100000 in
set_option maxHeartbeats 4000000 in
theorem c_X0_isLevel_3_4_7 (q : Nat → Nat) (σ : Nat → Nat → Int32) (x1 : Int32) (z : Int32) (h : f_X0_isLevel_3_4_7 σ x1 = some z) : CT l dC dI cI cZ A yX0_isLevel cX0_isLevel 4 (some .boolean) rm_X0_isLevel_3_4_7 [.ref (q 3), .int x1, .ref (q 4), .ref (q 7)] (wX cI q σ) (wX cI q σ) (some (.int z)) := by
  refine b_met (by decide) (Nat.le_of_ble_eq_true rfl) ?_
  intro p e s m below meth c E
  have E : EV p s m _ meth c dC dI cI cZ cX0_isLevel 4 RX0 (some .boolean) := E
  show GG p l e rm_X0_isLevel_3_4_7 s m _ below meth c _ A dC dI 4 (wX cI q σ) 0 [(0, .ref (q 3)), (1, .int x1), (2, .ref (q 4)), (3, .ref (q 7))] []
  unfold f_X0_isLevel_3_4_7 at h
  refine s_aload_n E 0 rfl dX0_isLevel_0 rfl ?_
  refine s_iload_n E 1 rfl dX0_isLevel_1 rfl ?_
  refine s_aload_n E 2 rfl dX0_isLevel_2 rfl ?_
  refine s_aload_n E 3 rfl dX0_isLevel_3 rfl ?_
  refine s_get E (v := .ref (q 9)) 7 1 in_X1 rfl rfl (by decide) m_f_X0_76 rfl dX0_isLevel_4 ?_
  refine s_iconst E (v := 0) dX0_isLevel_7 ki_0 ?_
  obtain ⟨u1, e1, h⟩ := bnd_some h
  refine s_callVi E kf_X0_tiltOf m_l_X0_81 (c_X0_tiltOf_3_4_9 q σ x1 0 u1 e1) ⟨rfl, rfl, by decide, by decide⟩ (q0 := 3) rfl rfl rfl rfl rfl (Nat.le_of_ble_eq_true rfl) dX0_isLevel_8 ?_
  refine s_if_ne E 35 dX0_isLevel_11 (by decide) (fun c2 => ?_) (fun c2 => ?_)
  · have h := (if_pos c2).symm.trans h
    refine s_aload_n E 0 rfl dX0_isLevel_14 rfl ?_
    refine s_iload_n E 1 rfl dX0_isLevel_15 rfl ?_
    refine s_aload_n E 2 rfl dX0_isLevel_16 rfl ?_
    refine s_aload_n E 3 rfl dX0_isLevel_17 rfl ?_
    refine s_get E (v := .ref (q 9)) 7 1 in_X1 rfl rfl (by decide) m_f_X0_76 rfl dX0_isLevel_18 ?_
    refine s_aload_n E 3 rfl dX0_isLevel_21 rfl ?_
    refine s_get E (v := .int (σ 7 4)) 7 4 in_X1 rfl rfl (by decide) m_f_X0_85 rfl dX0_isLevel_22 ?_
    obtain ⟨u3, e3, h⟩ := bnd_some h
    refine s_callVi E kf_X0_tiltOf m_l_X0_81 (c_X0_tiltOf_3_4_9 q σ x1 (σ 7 4) u3 e3) ⟨rfl, rfl, by decide, by decide⟩ (q0 := 3) rfl rfl rfl rfl rfl (Nat.le_of_ble_eq_true rfl) dX0_isLevel_25 ?_
    refine s_if_ne E 35 dX0_isLevel_28 (by decide) (fun c4 => ?_) (fun c4 => ?_)
    · have h := (if_pos c4).symm.trans h
      refine s_iconst E (v := 1) dX0_isLevel_31 ki_1 ?_
      refine s_goto E 36 dX0_isLevel_32 (by decide) ?_
      exact s_zret E rfl (Option.some.inj h) rfl dX0_isLevel_36
    · have h := (if_neg c4).symm.trans h
      refine s_iconst E (v := 0) dX0_isLevel_35 ki_0 ?_
      exact s_zret E rfl (Option.some.inj h) rfl dX0_isLevel_36
  · have h := (if_neg c2).symm.trans h
    refine s_iconst E (v := 0) dX0_isLevel_35 ki_0 ?_
    exact s_zret E rfl (Option.some.inj h) rfl dX0_isLevel_36
end
abbrev rm_X1_depart : Room := { frames := 1, cells := 0, slots := 0, locals := 21 }
section
def f_X1_depart (σ : Nat → Nat → Int32) : Option (Nat → Nat → Int32) :=
  (if 8 ≤ (σ 7 3) then (some σ) else ((f_X1_setLaid (up2 σ 7 3 ((σ 7 3) + 1)) 0).bind fun u2 => (some u2)))
set_option maxRecDepth 100000 in
set_option maxHeartbeats 4000000 in
theorem c_X1_depart (q : Nat → Nat) (σ : Nat → Nat → Int32) (z : (Nat → Nat → Int32)) (h : f_X1_depart σ = some z) : CT l dC dI cI cZ A yX1_depart cX1_depart 1 none rm_X1_depart [.ref (q 7)] (wX cI q σ) (wX cI q z) none := by
  refine b_met (by decide) (Nat.le_of_ble_eq_true rfl) ?_
  intro p e s m below meth c E
  have E : EV p s m _ meth c dC dI cI cZ cX1_depart 1 RX1 none := E
  show GG p l e rm_X1_depart s m _ below meth c _ A dC dI 1 (wX cI q σ) 0 [(0, .ref (q 7))] []
  unfold f_X1_depart at h
  refine s_aload_n E 0 rfl dX1_depart_0 rfl ?_
  refine s_get E (v := .int (σ 7 3)) 7 3 in_X1 rfl rfl (by decide) m_f_X1_21 rfl dX1_depart_1 ?_
  refine s_bipush E (v := 8) dX1_depart_4 kb_8 ?_
  refine s_icmp_ge E 24 dX1_depart_6 (by decide) (fun c1 => ?_) (fun c1 => ?_)
  · have h := (if_pos c1).symm.trans h
    exact s_vret E (congrArg (fun t : Nat → Nat → Int32 => wX cI q t) (Option.some.inj h)) dX1_depart_24
  · have h := (if_neg c1).symm.trans h
    refine s_aload_n E 0 rfl dX1_depart_9 rfl ?_
    refine s_dup E dX1_depart_10 rfl ?_
    refine s_get E (v := .int (σ 7 3)) 7 3 in_X1 rfl rfl (by decide) m_f_X1_21 rfl dX1_depart_11 ?_
    refine s_iconst E (v := 1) dX1_depart_14 ki_1 ?_
    refine s_iadd E dX1_depart_15 ?_
    refine s_put E (w' := (wX cI q (up2 σ 7 3 ((σ 7 3) + 1)))) (v := .int ((σ 7 3) + 1)) 7 3 tyX1 tyX1_ok nmX1 in_X1 rfl rfl (by decide) m_f_X1_21 rfl (tyX1_ok 3 (by decide)) rfl rfl (Nat.le_of_ble_eq_true rfl) rfl dX1_depart_16 ?_
    refine s_aload_n E 0 rfl dX1_depart_19 rfl ?_
    refine s_iconst E (v := 0) dX1_depart_20 ki_0 ?_
    obtain ⟨u2, e2, h⟩ := bnd_some h
    refine s_callVv E kf_X1_setLaid m_l_X1_41 (c_X1_setLaid q (up2 σ 7 3 ((σ 7 3) + 1)) 0 u2 e2) ⟨rfl, rfl, by decide, by decide⟩ (q0 := 7) rfl rfl rfl rfl rfl (Nat.le_of_ble_eq_true rfl) dX1_depart_21 ?_
    exact s_vret E (congrArg (fun t : Nat → Nat → Int32 => wX cI q t) (Option.some.inj h)) dX1_depart_24
end
abbrev rm_X4_members : Room := { frames := 0, cells := 0, slots := 0, locals := 0 }
section
variable {w : va_W}
def f_X4_members (x0 : Int32) : Int32 :=
  (((x0 ||| (ush x0 8)) ||| (ush x0 16)) &&& 255)
set_option maxRecDepth 100000 in
set_option maxHeartbeats 4000000 in
theorem c_X4_members (w : va_W) (x0 : Int32) : CT l dC dI cI cZ A yX4_members cX4_members 1 (some .int) rm_X4_members [.int x0] w w (some (.int (f_X4_members x0))) := by
  refine b_met (by decide) (Nat.le_of_ble_eq_true rfl) ?_
  intro p e s m below meth c E
  have E : EV p s m _ meth c dC dI cI cZ cX4_members 1 RX4 (some .int) := E
  generalize h : f_X4_members x0 = z
  show GG p l e rm_X4_members s m _ below meth c _ A dC dI 1 w 0 [(0, .int x0)] []
  unfold f_X4_members at h
  refine s_iload_n E 0 rfl dX4_members_0 rfl ?_
  refine s_iload_n E 0 rfl dX4_members_1 rfl ?_
  refine s_bipush E (v := 8) dX4_members_2 kb_8 ?_
  refine s_iushr E dX4_members_4 ?_
  refine s_ior E dX4_members_5 ?_
  refine s_iload_n E 0 rfl dX4_members_6 rfl ?_
  refine s_bipush E (v := 16) dX4_members_7 kb_16 ?_
  refine s_iushr E dX4_members_9 ?_
  refine s_ior E dX4_members_10 ?_
  refine s_sipush E (v := 255) dX4_members_11 ks_255 ?_
  refine s_iand E dX4_members_14 ?_
  exact s_iret E h rfl dX4_members_15
end
abbrev rm_X0_faresOf : Room := { frames := 0, cells := 0, slots := 0, locals := 0 }
section
def f_X0_faresOf_L4 (σ : Nat → Nat → Int32) (x1 : Int32) : Nat → Int32 → Int32 → Option Int32
  | 0, _, _ => none
  | n + 1, y2, y3 =>
    (if (σ 3 5) ≤ y3 then (some y2) else (if ((shr x1 y3) &&& 1) = 0 then (f_X0_faresOf_L4 σ x1 n y2 (y3 + 1)) else (chk y3 8 (f_X0_faresOf_L4 σ x1 n (y2 + (σ 5 y3.toNatClampNeg)) (y3 + 1)))))
set_option maxRecDepth 100000 in
set_option maxHeartbeats 4000000 in
theorem w_X0_faresOf_L4 (E : EV p s m args meth c dC dI cI cZ cX0_faresOf 4 RX0 (some .int)) (q : Nat → Nat) (σ : Nat → Nat → Int32) (x1 : Int32) : ∀ (n : Nat) (y2 y3 : Int32) (z : Int32), f_X0_faresOf_L4 σ x1 n y2 y3 = some z → GG p l e rm_X0_faresOf s m args below meth c Q A dC dI 4 (wX cI q σ) 35 [(0, .ref (q 3)), (1, .int x1), (2, .int z)] [] → GG p l e rm_X0_faresOf s m args below meth c Q A dC dI 4 (wX cI q σ) 4 [(0, .ref (q 3)), (1, .int x1), (2, .int y2), (3, .int y3)] [] := by
  intro n
  induction n with
  | zero =>
    intro y2 y3 z h
    rw [f_X0_faresOf_L4] at h
    cases h
  | succ n ih =>
    intro y2 y3 z h hK
    rw [f_X0_faresOf_L4] at h
    refine s_iload_n E 3 rfl dX0_faresOf_4 rfl ?_
    refine s_aload_n E 0 rfl dX0_faresOf_5 rfl ?_
    refine s_get E (v := .int (σ 3 5)) 3 5 in_X0 rfl rfl (by decide) m_f_X0_27 rfl dX0_faresOf_6 ?_
    refine s_icmp_ge E 35 dX0_faresOf_9 (by decide) (fun c1 => ?_) (fun c1 => ?_)
    · have h := (if_pos c1).symm.trans h
      refine s_sub E (lv' := [(0, .ref (q 3)), (1, .int x1), (2, .int y2)]) [0, 1, 2] rfl ?_
      obtain rfl := Option.some.inj h
      exact hK
    · have h := (if_neg c1).symm.trans h
      refine s_iload_n E 1 rfl dX0_faresOf_12 rfl ?_
      refine s_iload_n E 3 rfl dX0_faresOf_13 rfl ?_
      refine s_ishr E dX0_faresOf_14 ?_
      refine s_iconst E (v := 1) dX0_faresOf_15 ki_1 ?_
      refine s_iand E dX0_faresOf_16 ?_
      refine s_if_eq E 29 dX0_faresOf_17 (by decide) (fun c2 => ?_) (fun c2 => ?_)
      · have h := (if_pos c2).symm.trans h
        refine s_iinc E (v := (y3 + 1)) (lv' := [(0, .ref (q 3)), (1, .int x1), (2, .int y2), (3, .int (y3 + 1))]) 3 rfl dX0_faresOf_29 ki_1 rfl rfl rfl rfl (by decide) ?_
        refine s_goto E 4 dX0_faresOf_32 (by decide) ?_
        exact ih y2 (y3 + 1) z h hK
      · have h := (if_neg c2).symm.trans h
        refine s_iload_n E 2 rfl dX0_faresOf_20 rfl ?_
        refine s_aload_n E 0 rfl dX0_faresOf_21 rfl ?_
        refine s_get E (v := .ref (q 5)) 3 7 in_X0 rfl rfl (by decide) m_f_X0_34 rfl dX0_faresOf_22 ?_
        refine s_iload_n E 3 rfl dX0_faresOf_25 rfl ?_
        obtain ⟨b3, h⟩ := chk_some h
        refine s_iald E (f := σ 5) (v := (σ 5 y3.toNatClampNeg)) 5 rfl b3 rfl dX0_faresOf_26 ?_
        refine s_iadd E dX0_faresOf_27 ?_
        refine s_istore_n E (lv' := [(0, .ref (q 3)), (1, .int x1), (2, .int (y2 + (σ 5 y3.toNatClampNeg))), (3, .int y3)]) dX0_faresOf_28 rfl rfl rfl rfl (by decide) ?_
        refine s_iinc E (v := (y3 + 1)) (lv' := [(0, .ref (q 3)), (1, .int x1), (2, .int (y2 + (σ 5 y3.toNatClampNeg))), (3, .int (y3 + 1))]) 3 rfl dX0_faresOf_29 ki_1 rfl rfl rfl rfl (by decide) ?_
        refine s_goto E 4 dX0_faresOf_32 (by decide) ?_
        exact ih (y2 + (σ 5 y3.toNatClampNeg)) (y3 + 1) z h hK
def f_X0_faresOf (σ : Nat → Nat → Int32) (x1 : Int32) : Option Int32 :=
  ((f_X0_faresOf_L4 σ x1 fuel 0 0).bind fun u4 => (some u4))
set_option maxRecDepth 100000 in
set_option maxHeartbeats 4000000 in
theorem c_X0_faresOf (q : Nat → Nat) (σ : Nat → Nat → Int32) (x1 : Int32) (z : Int32) (h : f_X0_faresOf σ x1 = some z) : CT l dC dI cI cZ A yX0_faresOf cX0_faresOf 4 (some .int) rm_X0_faresOf [.ref (q 3), .int x1] (wX cI q σ) (wX cI q σ) (some (.int z)) := by
  refine b_met (by decide) (Nat.le_of_ble_eq_true rfl) ?_
  intro p e s m below meth c E
  have E : EV p s m _ meth c dC dI cI cZ cX0_faresOf 4 RX0 (some .int) := E
  show GG p l e rm_X0_faresOf s m _ below meth c _ A dC dI 4 (wX cI q σ) 0 [(0, .ref (q 3)), (1, .int x1)] []
  unfold f_X0_faresOf at h
  refine s_iconst E (v := 0) dX0_faresOf_0 ki_0 ?_
  refine s_istore_n E (lv' := [(0, .ref (q 3)), (1, .int x1), (2, .int 0)]) dX0_faresOf_1 rfl rfl rfl rfl (by decide) ?_
  refine s_iconst E (v := 0) dX0_faresOf_2 ki_0 ?_
  refine s_istore_n E (lv' := [(0, .ref (q 3)), (1, .int x1), (2, .int 0), (3, .int 0)]) dX0_faresOf_3 rfl rfl rfl rfl (by decide) ?_
  obtain ⟨u4, e4, h⟩ := bnd_some h
  refine w_X0_faresOf_L4 E q σ x1 fuel 0 0 u4 e4 ?_
  refine s_iload_n E 2 rfl dX0_faresOf_35 rfl ?_
  exact s_iret E (Option.some.inj h) rfl dX0_faresOf_36
end
abbrev rm_X1_takeBack : Room := { frames := 0, cells := 0, slots := 0, locals := 0 }
section
def f_X1_takeBack (σ : Nat → Nat → Int32) : (Nat → Nat → Int32) :=
  (if (σ 7 3) ≤ 0 then σ else (up2 σ 7 3 ((σ 7 3) - 1)))
set_option maxRecDepth 100000 in
set_option maxHeartbeats 4000000 in
theorem c_X1_takeBack (q : Nat → Nat) (σ : Nat → Nat → Int32) : CT l dC dI cI cZ A yX1_takeBack cX1_takeBack 1 none rm_X1_takeBack [.ref (q 7)] (wX cI q σ) (wX cI q (f_X1_takeBack σ)) none := by
  refine b_met (by decide) (Nat.le_of_ble_eq_true rfl) ?_
  intro p e s m below meth c E
  have E : EV p s m _ meth c dC dI cI cZ cX1_takeBack 1 RX1 none := E
  generalize h : f_X1_takeBack σ = z
  show GG p l e rm_X1_takeBack s m _ below meth c _ A dC dI 1 (wX cI q σ) 0 [(0, .ref (q 7))] []
  unfold f_X1_takeBack at h
  refine s_aload_n E 0 rfl dX1_takeBack_0 rfl ?_
  refine s_get E (v := .int (σ 7 3)) 7 3 in_X1 rfl rfl (by decide) m_f_X1_21 rfl dX1_takeBack_1 ?_
  refine s_if_le E 17 dX1_takeBack_4 (by decide) (fun c1 => ?_) (fun c1 => ?_)
  · have h := (if_pos c1).symm.trans h
    exact s_vret E (congrArg (fun t : Nat → Nat → Int32 => wX cI q t) h) dX1_takeBack_17
  · have h := (if_neg c1).symm.trans h
    refine s_aload_n E 0 rfl dX1_takeBack_7 rfl ?_
    refine s_dup E dX1_takeBack_8 rfl ?_
    refine s_get E (v := .int (σ 7 3)) 7 3 in_X1 rfl rfl (by decide) m_f_X1_21 rfl dX1_takeBack_9 ?_
    refine s_iconst E (v := 1) dX1_takeBack_12 ki_1 ?_
    refine s_isub E dX1_takeBack_13 ?_
    refine s_put E (w' := (wX cI q (up2 σ 7 3 ((σ 7 3) - 1)))) (v := .int ((σ 7 3) - 1)) 7 3 tyX1 tyX1_ok nmX1 in_X1 rfl rfl (by decide) m_f_X1_21 rfl (tyX1_ok 3 (by decide)) rfl rfl (Nat.le_of_ble_eq_true rfl) rfl dX1_takeBack_14 ?_
    exact s_vret E (congrArg (fun t : Nat → Nat → Int32 => wX cI q t) h) dX1_takeBack_17
end
abbrev rm_X1_gone : Room := { frames := 1, cells := 0, slots := 0, locals := 21 }
section
def f_X1_gone_L4 (σ : Nat → Nat → Int32) : Nat → Int32 → Int32 → Option Int32
  | 0, _, _ => none
  | n + 1, y1, y2 =>
    (if (σ 7 3) ≤ y2 then (some y1) else ((f_X1_crewOf σ y2).bind fun u2 => (f_X1_gone_L4 σ n (y1 ||| (f_X4_members u2)) (y2 + 1))))
set_option maxRecDepth 100000 in
set_option maxHeartbeats 4000000 in
theorem w_X1_gone_L4 (E : EV p s m args meth c dC dI cI cZ cX1_gone 3 RX1 (some .int)) (q : Nat → Nat) (σ : Nat → Nat → Int32) : ∀ (n : Nat) (y1 y2 : Int32) (z : Int32), f_X1_gone_L4 σ n y1 y2 = some z → GG p l e rm_X1_gone s m args below meth c Q A dC dI 3 (wX cI q σ) 29 [(0, .ref (q 7)), (1, .int z)] [] → GG p l e rm_X1_gone s m args below meth c Q A dC dI 3 (wX cI q σ) 4 [(0, .ref (q 7)), (1, .int y1), (2, .int y2)] [] := by
  intro n
  induction n with
  | zero =>
    intro y1 y2 z h
    rw [f_X1_gone_L4] at h
    cases h
  | succ n ih =>
    intro y1 y2 z h hK
    rw [f_X1_gone_L4] at h
    refine s_iload_n E 2 rfl dX1_gone_4 rfl ?_
    refine s_aload_n E 0 rfl dX1_gone_5 rfl ?_
    refine s_get E (v := .int (σ 7 3)) 7 3 in_X1 rfl rfl (by decide) m_f_X1_21 rfl dX1_gone_6 ?_
    refine s_icmp_ge E 29 dX1_gone_9 (by decide) (fun c1 => ?_) (fun c1 => ?_)
    · have h := (if_pos c1).symm.trans h
      refine s_sub E (lv' := [(0, .ref (q 7)), (1, .int y1)]) [0, 1] rfl ?_
      obtain rfl := Option.some.inj h
      exact hK
    · have h := (if_neg c1).symm.trans h
      refine s_iload_n E 1 rfl dX1_gone_12 rfl ?_
      refine s_aload_n E 0 rfl dX1_gone_13 rfl ?_
      refine s_iload_n E 2 rfl dX1_gone_14 rfl ?_
      obtain ⟨u2, e2, h⟩ := bnd_some h
      refine s_callVi E kf_X1_crewOf m_l_X1_37 (c_X1_crewOf q σ y2 u2 e2) ⟨rfl, rfl, by decide, by decide⟩ (q0 := 7) rfl rfl rfl rfl rfl (Nat.le_of_ble_eq_true rfl) dX1_gone_15 ?_
      refine s_callSNi E kf_X4_members nst_X1_45 (c_X4_members (wX cI q σ) u2) ⟨rfl, rfl, by decide, by decide⟩ rfl rfl (Nat.le_of_ble_eq_true rfl) dX1_gone_18 ?_
      refine s_ior E dX1_gone_21 ?_
      refine s_istore_n E (lv' := [(0, .ref (q 7)), (1, .int (y1 ||| (f_X4_members u2))), (2, .int y2)]) dX1_gone_22 rfl rfl rfl rfl (by decide) ?_
      refine s_iinc E (v := (y2 + 1)) (lv' := [(0, .ref (q 7)), (1, .int (y1 ||| (f_X4_members u2))), (2, .int (y2 + 1))]) 2 rfl dX1_gone_23 ki_1 rfl rfl rfl rfl (by decide) ?_
      refine s_goto E 4 dX1_gone_26 (by decide) ?_
      exact ih (y1 ||| (f_X4_members u2)) (y2 + 1) z h hK
def f_X1_gone (σ : Nat → Nat → Int32) : Option Int32 :=
  ((f_X1_gone_L4 σ fuel 0 0).bind fun u3 => (some u3))
set_option maxRecDepth 100000 in
set_option maxHeartbeats 4000000 in
theorem c_X1_gone (q : Nat → Nat) (σ : Nat → Nat → Int32) (z : Int32) (h : f_X1_gone σ = some z) : CT l dC dI cI cZ A yX1_gone cX1_gone 3 (some .int) rm_X1_gone [.ref (q 7)] (wX cI q σ) (wX cI q σ) (some (.int z)) := by
  refine b_met (by decide) (Nat.le_of_ble_eq_true rfl) ?_
  intro p e s m below meth c E
  have E : EV p s m _ meth c dC dI cI cZ cX1_gone 3 RX1 (some .int) := E
  show GG p l e rm_X1_gone s m _ below meth c _ A dC dI 3 (wX cI q σ) 0 [(0, .ref (q 7))] []
  unfold f_X1_gone at h
  refine s_iconst E (v := 0) dX1_gone_0 ki_0 ?_
  refine s_istore_n E (lv' := [(0, .ref (q 7)), (1, .int 0)]) dX1_gone_1 rfl rfl rfl rfl (by decide) ?_
  refine s_iconst E (v := 0) dX1_gone_2 ki_0 ?_
  refine s_istore_n E (lv' := [(0, .ref (q 7)), (1, .int 0), (2, .int 0)]) dX1_gone_3 rfl rfl rfl rfl (by decide) ?_
  obtain ⟨u3, e3, h⟩ := bnd_some h
  refine w_X1_gone_L4 E q σ fuel 0 0 u3 e3 ?_
  refine s_iload_n E 1 rfl dX1_gone_29 rfl ?_
  exact s_iret E (Option.some.inj h) rfl dX1_gone_30
end
abbrev rm_X0_armOf : Room := { frames := 0, cells := 0, slots := 0, locals := 0 }
section
def f_X0_armOf (σ : Nat → Nat → Int32) (x1 : Int32) : Int32 :=
  (if (σ 3 0) = 2 then (if x1 = 0 then (σ 3 1) else (σ 3 2)) else 1)
set_option maxRecDepth 100000 in
set_option maxHeartbeats 4000000 in
theorem c_X0_armOf (q : Nat → Nat) (σ : Nat → Nat → Int32) (x1 : Int32) : CT l dC dI cI cZ A yX0_armOf cX0_armOf 2 (some .int) rm_X0_armOf [.ref (q 3), .int x1] (wX cI q σ) (wX cI q σ) (some (.int (f_X0_armOf σ x1))) := by
  refine b_met (by decide) (Nat.le_of_ble_eq_true rfl) ?_
  intro p e s m below meth c E
  have E : EV p s m _ meth c dC dI cI cZ cX0_armOf 2 RX0 (some .int) := E
  generalize h : f_X0_armOf σ x1 = z
  show GG p l e rm_X0_armOf s m _ below meth c _ A dC dI 2 (wX cI q σ) 0 [(0, .ref (q 3)), (1, .int x1)] []
  unfold f_X0_armOf at h
  refine s_aload_n E 0 rfl dX0_armOf_0 rfl ?_
  refine s_get E (v := .int (σ 3 0)) 3 0 in_X0 rfl rfl (by decide) m_f_X0_9 rfl dX0_armOf_1 ?_
  refine s_iconst E (v := 2) dX0_armOf_4 ki_2 ?_
  refine s_icmp_eq E 10 dX0_armOf_5 (by decide) (fun c1 => ?_) (fun c1 => ?_)
  · have h := (if_pos c1).symm.trans h
    refine s_iload_n E 1 rfl dX0_armOf_10 rfl ?_
    refine s_if_ne E 21 dX0_armOf_11 (by decide) (fun c2 => ?_) (fun c2 => ?_)
    · have h := (if_pos c2).symm.trans h
      refine s_aload_n E 0 rfl dX0_armOf_14 rfl ?_
      refine s_get E (v := .int (σ 3 1)) 3 1 in_X0 rfl rfl (by decide) m_f_X0_15 rfl dX0_armOf_15 ?_
      refine s_goto E 25 dX0_armOf_18 (by decide) ?_
      exact s_iret E h rfl dX0_armOf_25
    · have h := (if_neg c2).symm.trans h
      refine s_aload_n E 0 rfl dX0_armOf_21 rfl ?_
      refine s_get E (v := .int (σ 3 2)) 3 2 in_X0 rfl rfl (by decide) m_f_X0_18 rfl dX0_armOf_22 ?_
      exact s_iret E h rfl dX0_armOf_25
  · have h := (if_neg c1).symm.trans h
    refine s_iconst E (v := 1) dX0_armOf_8 ki_1 ?_
    exact s_iret E h rfl dX0_armOf_9
end
abbrev rm_X2_isAhead : Room := { frames := 0, cells := 0, slots := 0, locals := 0 }
section
variable {w : va_W}
def f_X2_isAhead (x0 : Int32) (x1 : Int32) : Int32 :=
  (if (x1 &&& (((((x0 ^^^ x1) ||| (ush (x0 ^^^ x1) 8)) ||| (ush (x0 ^^^ x1) 16)) &&& (-(((x0 ^^^ x1) ||| (ush (x0 ^^^ x1) 8)) ||| (ush (x0 ^^^ x1) 16)))) * 65793)) ≤ (x0 &&& (((((x0 ^^^ x1) ||| (ush (x0 ^^^ x1) 8)) ||| (ush (x0 ^^^ x1) 16)) &&& (-(((x0 ^^^ x1) ||| (ush (x0 ^^^ x1) 8)) ||| (ush (x0 ^^^ x1) 16)))) * 65793)) then 0 else 1)
set_option maxRecDepth 100000 in
set_option maxHeartbeats 4000000 in
theorem c_X2_isAhead (w : va_W) (x0 : Int32) (x1 : Int32) : CT l dC dI cI cZ A yX2_isAhead cX2_isAhead 5 (some .boolean) rm_X2_isAhead [.int x0, .int x1] w w (some (.int (f_X2_isAhead x0 x1))) := by
  refine b_met (by decide) (Nat.le_of_ble_eq_true rfl) ?_
  intro p e s m below meth c E
  have E : EV p s m _ meth c dC dI cI cZ cX2_isAhead 5 RX2 (some .boolean) := E
  generalize h : f_X2_isAhead x0 x1 = z
  show GG p l e rm_X2_isAhead s m _ below meth c _ A dC dI 5 w 0 [(0, .int x0), (1, .int x1)] []
  unfold f_X2_isAhead at h
  refine s_iload_n E 0 rfl dX2_isAhead_0 rfl ?_
  refine s_iload_n E 1 rfl dX2_isAhead_1 rfl ?_
  refine s_ixor E dX2_isAhead_2 ?_
  refine s_istore_n E (lv' := [(0, .int x0), (1, .int x1), (2, .int (x0 ^^^ x1))]) dX2_isAhead_3 rfl rfl rfl rfl (by decide) ?_
  refine s_iload_n E 2 rfl dX2_isAhead_4 rfl ?_
  refine s_iload_n E 2 rfl dX2_isAhead_5 rfl ?_
  refine s_bipush E (v := 8) dX2_isAhead_6 kb_8 ?_
  refine s_iushr E dX2_isAhead_8 ?_
  refine s_ior E dX2_isAhead_9 ?_
  refine s_iload_n E 2 rfl dX2_isAhead_10 rfl ?_
  refine s_bipush E (v := 16) dX2_isAhead_11 kb_16 ?_
  refine s_iushr E dX2_isAhead_13 ?_
  refine s_ior E dX2_isAhead_14 ?_
  refine s_istore_n E (lv' := [(0, .int x0), (1, .int x1), (2, .int (x0 ^^^ x1)), (3, .int (((x0 ^^^ x1) ||| (ush (x0 ^^^ x1) 8)) ||| (ush (x0 ^^^ x1) 16)))]) dX2_isAhead_15 rfl rfl rfl rfl (by decide) ?_
  refine s_iload_n E 3 rfl dX2_isAhead_16 rfl ?_
  refine s_iload_n E 3 rfl dX2_isAhead_17 rfl ?_
  refine s_ineg E dX2_isAhead_18 ?_
  refine s_iand E dX2_isAhead_19 ?_
  refine s_ldc E (v := (65793)) m_c_X2_165 dX2_isAhead_20 ?_
  refine s_imul E dX2_isAhead_22 ?_
  refine s_istore E (lv' := [(0, .int x0), (1, .int x1), (2, .int (x0 ^^^ x1)), (3, .int (((x0 ^^^ x1) ||| (ush (x0 ^^^ x1) 8)) ||| (ush (x0 ^^^ x1) 16))), (4, .int (((((x0 ^^^ x1) ||| (ush (x0 ^^^ x1) 8)) ||| (ush (x0 ^^^ x1) 16)) &&& (-(((x0 ^^^ x1) ||| (ush (x0 ^^^ x1) 8)) ||| (ush (x0 ^^^ x1) 16)))) * 65793))]) dX2_isAhead_23 rfl rfl rfl (by decide) ?_
  refine s_iload_n E 0 rfl dX2_isAhead_25 rfl ?_
  refine s_iload E 4 rfl dX2_isAhead_26 ?_
  refine s_iand E dX2_isAhead_28 ?_
  refine s_iload_n E 1 rfl dX2_isAhead_29 rfl ?_
  refine s_iload E 4 rfl dX2_isAhead_30 ?_
  refine s_iand E dX2_isAhead_32 ?_
  refine s_icmp_ge E 40 dX2_isAhead_33 (by decide) (fun c1 => ?_) (fun c1 => ?_)
  · have h := (if_pos c1).symm.trans h
    refine s_iconst E (v := 0) dX2_isAhead_40 ki_0 ?_
    exact s_zret E rfl h rfl dX2_isAhead_41
  · have h := (if_neg c1).symm.trans h
    refine s_iconst E (v := 1) dX2_isAhead_36 ki_1 ?_
    refine s_goto E 41 dX2_isAhead_37 (by decide) ?_
    exact s_zret E rfl h rfl dX2_isAhead_41
end
abbrev rm_X0_loadOf_3_10_9 : Room := { frames := 1, cells := 0, slots := 0, locals := 23 }
section
def f_X0_loadOf_3_10_9_L24 (σ : Nat → Nat → Int32) (x5 : Int32) (x6 : Int32) : Nat → Int32 → Int32 → Option Int32
  | 0, _, _ => none
  | n + 1, y7, y8 =>
    (if (σ 3 5) ≤ y8 then (some y7) else (if ((shr x6 y8) &&& 1) = 0 then (f_X0_loadOf_3_10_9_L24 σ x5 x6 n y7 (y8 + 1)) else (chk y8 8 (chk y8 8 (f_X0_loadOf_3_10_9_L24 σ x5 x6 n (y7 + (f_X4_poundsAfter (σ 10 y8.toNatClampNeg) (σ 9 y8.toNatClampNeg) x5)) (y8 + 1))))))
set_option maxRecDepth 100000 in
set_option maxHeartbeats 4000000 in
theorem w_X0_loadOf_3_10_9_L24 (E : EV p s m args meth c dC dI cI cZ cX0_loadOf 9 RX0 (some .int)) (q : Nat → Nat) (σ : Nat → Nat → Int32) (x5 : Int32) (x6 : Int32) : ∀ (n : Nat) (y7 y8 : Int32) (z : Int32), f_X0_loadOf_3_10_9_L24 σ x5 x6 n y7 y8 = some z → GG p l e rm_X0_loadOf_3_10_9 s m args below meth c Q A dC dI 9 (wX cI q σ) 68 [(0, .ref (q 3)), (3, .ref (q 10)), (4, .ref (q 9)), (5, .int x5), (6, .int x6), (7, .int z)] [] → GG p l e rm_X0_loadOf_3_10_9 s m args below meth c Q A dC dI 9 (wX cI q σ) 24 [(0, .ref (q 3)), (3, .ref (q 10)), (4, .ref (q 9)), (5, .int x5), (6, .int x6), (7, .int y7), (8, .int y8)] [] := by
  intro n
  induction n with
  | zero =>
    intro y7 y8 z h
    rw [f_X0_loadOf_3_10_9_L24] at h
    cases h
  | succ n ih =>
    intro y7 y8 z h hK
    rw [f_X0_loadOf_3_10_9_L24] at h
    refine s_iload E 6 rfl dX0_loadOf_24 ?_
    refine s_aload_n E 0 rfl dX0_loadOf_26 rfl ?_
    refine s_get E (v := .int (σ 3 5)) 3 5 in_X0 rfl rfl (by decide) m_f_X0_27 rfl dX0_loadOf_27 ?_
    refine s_icmp_ge E 68 dX0_loadOf_30 (by decide) (fun c2 => ?_) (fun c2 => ?_)
    · have h := (if_pos c2).symm.trans h
      refine s_sub E (lv' := [(0, .ref (q 3)), (3, .ref (q 10)), (4, .ref (q 9)), (5, .int x5), (6, .int x6), (7, .int y7)]) [0, 1, 2, 3, 4, 5] rfl ?_
      obtain rfl := Option.some.inj h
      exact hK
    · have h := (if_neg c2).symm.trans h
      refine s_iload E 4 rfl dX0_loadOf_33 ?_
      refine s_iload E 6 rfl dX0_loadOf_35 ?_
      refine s_ishr E dX0_loadOf_37 ?_
      refine s_iconst E (v := 1) dX0_loadOf_38 ki_1 ?_
      refine s_iand E dX0_loadOf_39 ?_
      refine s_if_eq E 62 dX0_loadOf_40 (by decide) (fun c3 => ?_) (fun c3 => ?_)
      · have h := (if_pos c3).symm.trans h
        refine s_iinc E (v := (y8 + 1)) (lv' := [(0, .ref (q 3)), (3, .ref (q 10)), (4, .ref (q 9)), (5, .int x5), (6, .int x6), (7, .int y7), (8, .int (y8 + 1))]) 6 rfl dX0_loadOf_62 ki_1 rfl rfl rfl rfl (by decide) ?_
        refine s_goto E 24 dX0_loadOf_65 (by decide) ?_
        exact ih y7 (y8 + 1) z h hK
      · have h := (if_neg c3).symm.trans h
        refine s_iload E 5 rfl dX0_loadOf_43 ?_
        refine s_aload_n E 1 rfl dX0_loadOf_45 rfl ?_
        refine s_iload E 6 rfl dX0_loadOf_46 ?_
        obtain ⟨b4, h⟩ := chk_some h
        refine s_iald E (f := σ 10) (v := (σ 10 y8.toNatClampNeg)) 10 rfl b4 rfl dX0_loadOf_48 ?_
        refine s_aload E 2 rfl dX0_loadOf_49 ?_
        refine s_iload E 6 rfl dX0_loadOf_51 ?_
        obtain ⟨b5, h⟩ := chk_some h
        refine s_iald E (f := σ 9) (v := (σ 9 y8.toNatClampNeg)) 9 rfl b5 rfl dX0_loadOf_53 ?_
        refine s_iload E 3 rfl dX0_loadOf_54 ?_
        refine s_callSNi E kf_X4_poundsAfter nst_X0_65 (c_X4_poundsAfter (wX cI q σ) (σ 10 y8.toNatClampNeg) (σ 9 y8.toNatClampNeg) x5) ⟨rfl, rfl, by decide, by decide⟩ rfl rfl (Nat.le_of_ble_eq_true rfl) dX0_loadOf_56 ?_
        refine s_iadd E dX0_loadOf_59 ?_
        refine s_istore E (lv' := [(0, .ref (q 3)), (3, .ref (q 10)), (4, .ref (q 9)), (5, .int x5), (6, .int x6), (7, .int (y7 + (f_X4_poundsAfter (σ 10 y8.toNatClampNeg) (σ 9 y8.toNatClampNeg) x5))), (8, .int y8)]) dX0_loadOf_60 rfl rfl rfl (by decide) ?_
        refine s_iinc E (v := (y8 + 1)) (lv' := [(0, .ref (q 3)), (3, .ref (q 10)), (4, .ref (q 9)), (5, .int x5), (6, .int x6), (7, .int (y7 + (f_X4_poundsAfter (σ 10 y8.toNatClampNeg) (σ 9 y8.toNatClampNeg) x5))), (8, .int (y8 + 1))]) 6 rfl dX0_loadOf_62 ki_1 rfl rfl rfl rfl (by decide) ?_
        refine s_goto E 24 dX0_loadOf_65 (by decide) ?_
        exact ih (y7 + (f_X4_poundsAfter (σ 10 y8.toNatClampNeg) (σ 9 y8.toNatClampNeg) x5)) (y8 + 1) z h hK
def f_X0_loadOf_3_10_9_J19 (σ : Nat → Nat → Int32) (t5 : Int32) (t6 : Int32) (s0 : Int32) : Option Int32 :=
  ((f_X0_loadOf_3_10_9_L24 σ t5 t6 fuel s0 0).bind fun u6 => (some u6))
set_option maxRecDepth 100000 in
set_option maxHeartbeats 4000000 in
theorem w_X0_loadOf_3_10_9_J19 (E : EV p s m args meth c dC dI cI cZ cX0_loadOf 9 RX0 (some .int)) (q : Nat → Nat) (σ : Nat → Nat → Int32) (t5 : Int32) (t6 : Int32) (s0 : Int32) (z : Int32) (h : f_X0_loadOf_3_10_9_J19 σ t5 t6 s0 = some z) : GG p l e rm_X0_loadOf_3_10_9 s m args below meth c (MQ below (CQ dC dI (some (.int z)) (wX cI q σ) A) args s 0 0 A) A dC dI 9 (wX cI q σ) 19 [(0, .ref (q 3)), (3, .ref (q 10)), (4, .ref (q 9)), (5, .int t5), (6, .int t6)] [.int s0] := by
  unfold f_X0_loadOf_3_10_9_J19 at h
  refine s_istore E (lv' := [(0, .ref (q 3)), (3, .ref (q 10)), (4, .ref (q 9)), (5, .int t5), (6, .int t6), (7, .int s0)]) dX0_loadOf_19 rfl rfl rfl (by decide) ?_
  refine s_iconst E (v := 0) dX0_loadOf_21 ki_0 ?_
  refine s_istore E (lv' := [(0, .ref (q 3)), (3, .ref (q 10)), (4, .ref (q 9)), (5, .int t5), (6, .int t6), (7, .int s0), (8, .int 0)]) dX0_loadOf_22 rfl rfl rfl (by decide) ?_
  obtain ⟨u6, e6, h⟩ := bnd_some h
  refine w_X0_loadOf_3_10_9_L24 E q σ t5 t6 fuel s0 0 u6 e6 ?_
  refine s_iload E 5 rfl dX0_loadOf_68 ?_
  exact s_iret E (Option.some.inj h) rfl dX0_loadOf_70
def f_X0_loadOf_3_10_9 (σ : Nat → Nat → Int32) (x1 : Int32) (x2 : Int32) (x5 : Int32) : Option Int32 :=
  (if x2 = 0 then (f_X0_loadOf_3_10_9_J19 σ x5 (f_X4_sitters x1 x2) (σ 3 4)) else (f_X0_loadOf_3_10_9_J19 σ x5 (f_X4_sitters x1 x2) 0))
set_option maxRecDepth 100000 in
set_option maxHeartbeats 4000000 in
theorem c_X0_loadOf_3_10_9 (q : Nat → Nat) (σ : Nat → Nat → Int32) (x1 : Int32) (x2 : Int32) (x5 : Int32) (z : Int32) (h : f_X0_loadOf_3_10_9 σ x1 x2 x5 = some z) : CT l dC dI cI cZ A yX0_loadOf cX0_loadOf 9 (some .int) rm_X0_loadOf_3_10_9 [.ref (q 3), .int x1, .int x2, .ref (q 10), .ref (q 9), .int x5] (wX cI q σ) (wX cI q σ) (some (.int z)) := by
  refine b_met (by decide) (Nat.le_of_ble_eq_true rfl) ?_
  intro p e s m below meth c E
  have E : EV p s m _ meth c dC dI cI cZ cX0_loadOf 9 RX0 (some .int) := E
  show GG p l e rm_X0_loadOf_3_10_9 s m _ below meth c _ A dC dI 9 (wX cI q σ) 0 [(0, .ref (q 3)), (1, .int x1), (2, .int x2), (3, .ref (q 10)), (4, .ref (q 9)), (5, .int x5)] []
  unfold f_X0_loadOf_3_10_9 at h
  refine s_iload_n E 1 rfl dX0_loadOf_0 rfl ?_
  refine s_iload_n E 2 rfl dX0_loadOf_1 rfl ?_
  refine s_callSNi E kf_X4_sitters nst_X0_62 (c_X4_sitters (wX cI q σ) x1 x2) ⟨rfl, rfl, by decide, by decide⟩ rfl rfl (Nat.le_of_ble_eq_true rfl) dX0_loadOf_2 ?_
  refine s_istore E (lv' := [(0, .ref (q 3)), (1, .int x1), (2, .int x2), (3, .ref (q 10)), (4, .ref (q 9)), (5, .int x5), (6, .int (f_X4_sitters x1 x2))]) dX0_loadOf_5 rfl rfl rfl (by decide) ?_
  refine s_iload_n E 2 rfl dX0_loadOf_7 rfl ?_
  refine s_if_ne E 18 dX0_loadOf_8 (by decide) (fun c1 => ?_) (fun c1 => ?_)
  · have h := (if_pos c1).symm.trans h
    refine s_aload_n E 0 rfl dX0_loadOf_11 rfl ?_
    refine s_get E (v := .int (σ 3 4)) 3 4 in_X0 rfl rfl (by decide) m_f_X0_24 rfl dX0_loadOf_12 ?_
    refine s_goto E 19 dX0_loadOf_15 (by decide) ?_
    refine s_sub E (lv' := [(0, .ref (q 3)), (3, .ref (q 10)), (4, .ref (q 9)), (5, .int x5), (6, .int (f_X4_sitters x1 x2))]) [0, 3, 4, 5, 6] rfl ?_
    exact w_X0_loadOf_3_10_9_J19 E q σ x5 (f_X4_sitters x1 x2) (σ 3 4) z h
  · have h := (if_neg c1).symm.trans h
    refine s_iconst E (v := 0) dX0_loadOf_18 ki_0 ?_
    refine s_sub E (lv' := [(0, .ref (q 3)), (3, .ref (q 10)), (4, .ref (q 9)), (5, .int x5), (6, .int (f_X4_sitters x1 x2))]) [0, 3, 4, 5, 6] rfl ?_
    exact w_X0_loadOf_3_10_9_J19 E q σ x5 (f_X4_sitters x1 x2) 0 z h
end
abbrev rm_X0_tiltOf_3_10_9 : Room := { frames := 2, cells := 0, slots := 0, locals := 51 }
section
def f_X0_tiltOf_3_10_9 (σ : Nat → Nat → Int32) (x1 : Int32) (x4 : Int32) : Option Int32 :=
  ((f_X0_loadOf_3_10_9 σ x1 0 x4).bind fun u1 => ((f_X0_loadOf_3_10_9 σ x1 1 x4).bind fun u2 => (if (σ 3 0) = 2 then (some (((σ 3 1) * u1) - ((σ 3 2) * u2))) else ((f_X0_loadOf_3_10_9 σ x1 2 x4).bind fun u4 => (some ((if u1 < (if u2 < u4 then u4 else u2) then (if u2 < u4 then u4 else u2) else u1) - (if (if u4 < u2 then u4 else u2) < u1 then (if u4 < u2 then u4 else u2) else u1)))))))
set_option maxRecDepth 100000 in
set_option maxHeartbeats 4000000 in
theorem c_X0_tiltOf_3_10_9 (q : Nat → Nat) (σ : Nat → Nat → Int32) (x1 : Int32) (x4 : Int32) (z : Int32) (h : f_X0_tiltOf_3_10_9 σ x1 x4 = some z) : CT l dC dI cI cZ A yX0_tiltOf cX0_tiltOf 10 (some .int) rm_X0_tiltOf_3_10_9 [.ref (q 3), .int x1, .ref (q 10), .ref (q 9), .int x4] (wX cI q σ) (wX cI q σ) (some (.int z)) := by
  refine b_met (by decide) (Nat.le_of_ble_eq_true rfl) ?_
  intro p e s m below meth c E
  have E : EV p s m _ meth c dC dI cI cZ cX0_tiltOf 10 RX0 (some .int) := E
  show GG p l e rm_X0_tiltOf_3_10_9 s m _ below meth c _ A dC dI 10 (wX cI q σ) 0 [(0, .ref (q 3)), (1, .int x1), (2, .ref (q 10)), (3, .ref (q 9)), (4, .int x4)] []
  unfold f_X0_tiltOf_3_10_9 at h
  refine s_aload_n E 0 rfl dX0_tiltOf_0 rfl ?_
  refine s_iload_n E 1 rfl dX0_tiltOf_1 rfl ?_
  refine s_iconst E (v := 0) dX0_tiltOf_2 ki_0 ?_
  refine s_aload_n E 2 rfl dX0_tiltOf_3 rfl ?_
  refine s_aload_n E 3 rfl dX0_tiltOf_4 rfl ?_
  refine s_iload E 4 rfl dX0_tiltOf_5 ?_
  obtain ⟨u1, e1, h⟩ := bnd_some h
  refine s_callVi E kf_X0_loadOf m_l_X0_69 (c_X0_loadOf_3_10_9 q σ x1 0 x4 u1 e1) ⟨rfl, rfl, by decide, by decide⟩ (q0 := 3) rfl rfl rfl rfl rfl (Nat.le_of_ble_eq_true rfl) dX0_tiltOf_7 ?_
  refine s_istore E (lv' := [(0, .ref (q 3)), (1, .int x1), (2, .ref (q 10)), (3, .ref (q 9)), (4, .int x4), (5, .int u1)]) dX0_tiltOf_10 rfl rfl rfl (by decide) ?_
  refine s_aload_n E 0 rfl dX0_tiltOf_12 rfl ?_
  refine s_iload_n E 1 rfl dX0_tiltOf_13 rfl ?_
  refine s_iconst E (v := 1) dX0_tiltOf_14 ki_1 ?_
  refine s_aload_n E 2 rfl dX0_tiltOf_15 rfl ?_
  refine s_aload_n E 3 rfl dX0_tiltOf_16 rfl ?_
  refine s_iload E 4 rfl dX0_tiltOf_17 ?_
  obtain ⟨u2, e2, h⟩ := bnd_some h
  refine s_callVi E kf_X0_loadOf m_l_X0_69 (c_X0_loadOf_3_10_9 q σ x1 1 x4 u2 e2) ⟨rfl, rfl, by decide, by decide⟩ (q0 := 3) rfl rfl rfl rfl rfl (Nat.le_of_ble_eq_true rfl) dX0_tiltOf_19 ?_
  refine s_istore E (lv' := [(0, .ref (q 3)), (1, .int x1), (2, .ref (q 10)), (3, .ref (q 9)), (4, .int x4), (5, .int u1), (6, .int u2)]) dX0_tiltOf_22 rfl rfl rfl (by decide) ?_
  refine s_aload_n E 0 rfl dX0_tiltOf_24 rfl ?_
  refine s_get E (v := .int (σ 3 0)) 3 0 in_X0 rfl rfl (by decide) m_f_X0_9 rfl dX0_tiltOf_25 ?_
  refine s_iconst E (v := 2) dX0_tiltOf_28 ki_2 ?_
  refine s_icmp_ne E 48 dX0_tiltOf_29 (by decide) (fun c3 => ?_) (fun c3 => ?_)
  · have h := (if_pos c3).symm.trans h
    refine s_aload_n E 0 rfl dX0_tiltOf_32 rfl ?_
    refine s_get E (v := .int (σ 3 1)) 3 1 in_X0 rfl rfl (by decide) m_f_X0_15 rfl dX0_tiltOf_33 ?_
    refine s_iload E 5 rfl dX0_tiltOf_36 ?_
    refine s_imul E dX0_tiltOf_38 ?_
    refine s_aload_n E 0 rfl dX0_tiltOf_39 rfl ?_
    refine s_get E (v := .int (σ 3 2)) 3 2 in_X0 rfl rfl (by decide) m_f_X0_18 rfl dX0_tiltOf_40 ?_
    refine s_iload E 6 rfl dX0_tiltOf_43 ?_
    refine s_imul E dX0_tiltOf_45 ?_
    refine s_isub E dX0_tiltOf_46 ?_
    exact s_iret E (Option.some.inj h) rfl dX0_tiltOf_47
  · have h := (if_neg c3).symm.trans h
    refine s_aload_n E 0 rfl dX0_tiltOf_48 rfl ?_
    refine s_iload_n E 1 rfl dX0_tiltOf_49 rfl ?_
    refine s_iconst E (v := 2) dX0_tiltOf_50 ki_2 ?_
    refine s_aload_n E 2 rfl dX0_tiltOf_51 rfl ?_
    refine s_aload_n E 3 rfl dX0_tiltOf_52 rfl ?_
    refine s_iload E 4 rfl dX0_tiltOf_53 ?_
    obtain ⟨u4, e4, h⟩ := bnd_some h
    refine s_callVi E kf_X0_loadOf m_l_X0_69 (c_X0_loadOf_3_10_9 q σ x1 2 x4 u4 e4) ⟨rfl, rfl, by decide, by decide⟩ (q0 := 3) rfl rfl rfl rfl rfl (Nat.le_of_ble_eq_true rfl) dX0_tiltOf_55 ?_
    refine s_istore E (lv' := [(0, .ref (q 3)), (1, .int x1), (2, .ref (q 10)), (3, .ref (q 9)), (4, .int x4), (5, .int u1), (6, .int u2), (7, .int u4)]) dX0_tiltOf_58 rfl rfl rfl (by decide) ?_
    refine s_iload E 5 rfl dX0_tiltOf_60 ?_
    refine s_iload E 6 rfl dX0_tiltOf_62 ?_
    refine s_iload E 7 rfl dX0_tiltOf_64 ?_
    refine s_mmax E m_l_X0_73 (by decide) (Nat.le_of_ble_eq_true rfl) dX0_tiltOf_66 ?_
    refine s_mmax E m_l_X0_73 (by decide) (Nat.le_of_ble_eq_true rfl) dX0_tiltOf_69 ?_
    refine s_istore E (lv' := [(0, .ref (q 3)), (1, .int x1), (2, .ref (q 10)), (3, .ref (q 9)), (4, .int x4), (5, .int u1), (6, .int u2), (7, .int u4), (8, .int (if u1 < (if u2 < u4 then u4 else u2) then (if u2 < u4 then u4 else u2) else u1))]) dX0_tiltOf_72 rfl rfl rfl (by decide) ?_
    refine s_iload E 5 rfl dX0_tiltOf_74 ?_
    refine s_iload E 6 rfl dX0_tiltOf_76 ?_
    refine s_iload E 7 rfl dX0_tiltOf_78 ?_
    refine s_mmin E m_l_X0_49 (by decide) (Nat.le_of_ble_eq_true rfl) dX0_tiltOf_80 ?_
    refine s_mmin E m_l_X0_49 (by decide) (Nat.le_of_ble_eq_true rfl) dX0_tiltOf_83 ?_
    refine s_istore E (lv' := [(0, .ref (q 3)), (1, .int x1), (2, .ref (q 10)), (3, .ref (q 9)), (4, .int x4), (5, .int u1), (6, .int u2), (7, .int u4), (8, .int (if u1 < (if u2 < u4 then u4 else u2) then (if u2 < u4 then u4 else u2) else u1)), (9, .int (if (if u4 < u2 then u4 else u2) < u1 then (if u4 < u2 then u4 else u2) else u1))]) dX0_tiltOf_86 rfl rfl rfl (by decide) ?_
    refine s_iload E 8 rfl dX0_tiltOf_88 ?_
    refine s_iload E 9 rfl dX0_tiltOf_90 ?_
    refine s_isub E dX0_tiltOf_92 ?_
    exact s_iret E (Option.some.inj h) rfl dX0_tiltOf_93
end
abbrev rm_X0_isLevel_3_10_7 : Room := { frames := 3, cells := 0, slots := 0, locals := 80 }
section
def f_X0_isLevel_3_10_7 (σ : Nat → Nat → Int32) (x1 : Int32) : Option Int32 :=
  ((f_X0_tiltOf_3_10_9 σ x1 0).bind fun u1 => (if u1 = 0 then ((f_X0_tiltOf_3_10_9 σ x1 (σ 7 4)).bind fun u3 => (if u3 = 0 then (some 1) else (some 0))) else (some 0)))
set_option maxRecDepth 100000 in
set_option maxHeartbeats 4000000 in
theorem c_X0_isLevel_3_10_7 (q : Nat → Nat) (σ : Nat → Nat → Int32) (x1 : Int32) (z : Int32) (h : f_X0_isLevel_3_10_7 σ x1 = some z) : CT l dC dI cI cZ A yX0_isLevel cX0_isLevel 4 (some .boolean) rm_X0_isLevel_3_10_7 [.ref (q 3), .int x1, .ref (q 10), .ref (q 7)] (wX cI q σ) (wX cI q σ) (some (.int z)) := by
  refine b_met (by decide) (Nat.le_of_ble_eq_true rfl) ?_
  intro p e s m below meth c E
  have E : EV p s m _ meth c dC dI cI cZ cX0_isLevel 4 RX0 (some .boolean) := E
  show GG p l e rm_X0_isLevel_3_10_7 s m _ below meth c _ A dC dI 4 (wX cI q σ) 0 [(0, .ref (q 3)), (1, .int x1), (2, .ref (q 10)), (3, .ref (q 7))] []
  unfold f_X0_isLevel_3_10_7 at h
  refine s_aload_n E 0 rfl dX0_isLevel_0 rfl ?_
  refine s_iload_n E 1 rfl dX0_isLevel_1 rfl ?_
  refine s_aload_n E 2 rfl dX0_isLevel_2 rfl ?_
  refine s_aload_n E 3 rfl dX0_isLevel_3 rfl ?_
  refine s_get E (v := .ref (q 9)) 7 1 in_X1 rfl rfl (by decide) m_f_X0_76 rfl dX0_isLevel_4 ?_
  refine s_iconst E (v := 0) dX0_isLevel_7 ki_0 ?_
  obtain ⟨u1, e1, h⟩ := bnd_some h
  refine s_callVi E kf_X0_tiltOf m_l_X0_81 (c_X0_tiltOf_3_10_9 q σ x1 0 u1 e1) ⟨rfl, rfl, by decide, by decide⟩ (q0 := 3) rfl rfl rfl rfl rfl (Nat.le_of_ble_eq_true rfl) dX0_isLevel_8 ?_
  refine s_if_ne E 35 dX0_isLevel_11 (by decide) (fun c2 => ?_) (fun c2 => ?_)
  · have h := (if_pos c2).symm.trans h
    refine s_aload_n E 0 rfl dX0_isLevel_14 rfl ?_
    refine s_iload_n E 1 rfl dX0_isLevel_15 rfl ?_
    refine s_aload_n E 2 rfl dX0_isLevel_16 rfl ?_
    refine s_aload_n E 3 rfl dX0_isLevel_17 rfl ?_
    refine s_get E (v := .ref (q 9)) 7 1 in_X1 rfl rfl (by decide) m_f_X0_76 rfl dX0_isLevel_18 ?_
    refine s_aload_n E 3 rfl dX0_isLevel_21 rfl ?_
    refine s_get E (v := .int (σ 7 4)) 7 4 in_X1 rfl rfl (by decide) m_f_X0_85 rfl dX0_isLevel_22 ?_
    obtain ⟨u3, e3, h⟩ := bnd_some h
    refine s_callVi E kf_X0_tiltOf m_l_X0_81 (c_X0_tiltOf_3_10_9 q σ x1 (σ 7 4) u3 e3) ⟨rfl, rfl, by decide, by decide⟩ (q0 := 3) rfl rfl rfl rfl rfl (Nat.le_of_ble_eq_true rfl) dX0_isLevel_25 ?_
    refine s_if_ne E 35 dX0_isLevel_28 (by decide) (fun c4 => ?_) (fun c4 => ?_)
    · have h := (if_pos c4).symm.trans h
      refine s_iconst E (v := 1) dX0_isLevel_31 ki_1 ?_
      refine s_goto E 36 dX0_isLevel_32 (by decide) ?_
      exact s_zret E rfl (Option.some.inj h) rfl dX0_isLevel_36
    · have h := (if_neg c4).symm.trans h
      refine s_iconst E (v := 0) dX0_isLevel_35 ki_0 ?_
      exact s_zret E rfl (Option.some.inj h) rfl dX0_isLevel_36
  · have h := (if_neg c2).symm.trans h
    refine s_iconst E (v := 0) dX0_isLevel_35 ki_0 ?_
    exact s_zret E rfl (Option.some.inj h) rfl dX0_isLevel_36
end
abbrev rm_X4_isSlot : Room := { frames := 0, cells := 0, slots := 0, locals := 0 }
section
variable {w : va_W}
def f_X4_isSlot (x0 : Int32) : Int32 :=
  (if x0 = 0 then 1 else (if x0 = 1 then 1 else 0))
set_option maxRecDepth 100000 in
set_option maxHeartbeats 4000000 in
theorem c_X4_isSlot (w : va_W) (x0 : Int32) : CT l dC dI cI cZ A yX4_isSlot cX4_isSlot 1 (some .boolean) rm_X4_isSlot [.int x0] w w (some (.int (f_X4_isSlot x0))) := by
  refine b_met (by decide) (Nat.le_of_ble_eq_true rfl) ?_
  intro p e s m below meth c E
  have E : EV p s m _ meth c dC dI cI cZ cX4_isSlot 1 RX4 (some .boolean) := E
  generalize h : f_X4_isSlot x0 = z
  show GG p l e rm_X4_isSlot s m _ below meth c _ A dC dI 1 w 0 [(0, .int x0)] []
  unfold f_X4_isSlot at h
  refine s_iload_n E 0 rfl dX4_isSlot_0 rfl ?_
  refine s_if_eq E 9 dX4_isSlot_1 (by decide) (fun c1 => ?_) (fun c1 => ?_)
  · have h := (if_pos c1).symm.trans h
    refine s_iconst E (v := 1) dX4_isSlot_9 ki_1 ?_
    refine s_goto E 14 dX4_isSlot_10 (by decide) ?_
    exact s_zret E rfl h rfl dX4_isSlot_14
  · have h := (if_neg c1).symm.trans h
    refine s_iload_n E 0 rfl dX4_isSlot_4 rfl ?_
    refine s_iconst E (v := 1) dX4_isSlot_5 ki_1 ?_
    refine s_icmp_ne E 13 dX4_isSlot_6 (by decide) (fun c2 => ?_) (fun c2 => ?_)
    · have h := (if_pos c2).symm.trans h
      refine s_iconst E (v := 1) dX4_isSlot_9 ki_1 ?_
      refine s_goto E 14 dX4_isSlot_10 (by decide) ?_
      exact s_zret E rfl h rfl dX4_isSlot_14
    · have h := (if_neg c2).symm.trans h
      refine s_iconst E (v := 0) dX4_isSlot_13 ki_0 ?_
      exact s_zret E rfl h rfl dX4_isSlot_14
end
abbrev rm_X1_copyFrom_11_7 : Room := { frames := 0, cells := 0, slots := 0, locals := 0 }
section
def f_X1_copyFrom_11_7_L18 : Nat → (Nat → Nat → Int32) → Int32 → Option (Nat → Nat → Int32)
  | 0, _, _ => none
  | n + 1, σ, y2 =>
    (if 8 < y2 then (some σ) else (chk y2 9 (chk y2 9 (f_X1_copyFrom_11_7_L18 n (up2 σ 12 (y2.toNatClampNeg) (σ 8 y2.toNatClampNeg)) (y2 + 1)))))
set_option maxRecDepth 100000 in
set_option maxHeartbeats 4000000 in
theorem w_X1_copyFrom_11_7_L18 (E : EV p s m args meth c dC dI cI cZ cX1_copyFrom 3 RX1 none) (q : Nat → Nat) : ∀ (n : Nat) (σ : Nat → Nat → Int32) (y2 : Int32) (z : (Nat → Nat → Int32)), f_X1_copyFrom_11_7_L18 n σ y2 = some z → GG p l e rm_X1_copyFrom_11_7 s m args below meth c Q A dC dI 3 (wX cI q z) 42 [(0, .ref (q 11)), (1, .ref (q 7))] [] → GG p l e rm_X1_copyFrom_11_7 s m args below meth c Q A dC dI 3 (wX cI q σ) 18 [(0, .ref (q 11)), (1, .ref (q 7)), (2, .int y2)] [] := by
  intro n
  induction n with
  | zero =>
    intro σ y2 z h
    rw [f_X1_copyFrom_11_7_L18] at h
    cases h
  | succ n ih =>
    intro σ y2 z h hK
    rw [f_X1_copyFrom_11_7_L18] at h
    refine s_iload_n E 2 rfl dX1_copyFrom_18 rfl ?_
    refine s_bipush E (v := 8) dX1_copyFrom_19 kb_8 ?_
    refine s_icmp_gt E 42 dX1_copyFrom_21 (by decide) (fun c1 => ?_) (fun c1 => ?_)
    · have h := (if_pos c1).symm.trans h
      refine s_sub E (lv' := [(0, .ref (q 11)), (1, .ref (q 7))]) [0, 1] rfl ?_
      obtain rfl := Option.some.inj h
      exact hK
    · have h := (if_neg c1).symm.trans h
      refine s_aload_n E 0 rfl dX1_copyFrom_24 rfl ?_
      refine s_get E (v := .ref (q 12)) 11 0 in_X1 rfl rfl (by decide) m_f_X1_9 rfl dX1_copyFrom_25 ?_
      refine s_iload_n E 2 rfl dX1_copyFrom_28 rfl ?_
      refine s_aload_n E 1 rfl dX1_copyFrom_29 rfl ?_
      refine s_get E (v := .ref (q 8)) 7 0 in_X1 rfl rfl (by decide) m_f_X1_9 rfl dX1_copyFrom_30 ?_
      refine s_iload_n E 2 rfl dX1_copyFrom_33 rfl ?_
      obtain ⟨b2, h⟩ := chk_some h
      refine s_iald E (f := σ 8) (v := (σ 8 y2.toNatClampNeg)) 8 rfl b2 rfl dX1_copyFrom_34 ?_
      obtain ⟨b3, h⟩ := chk_some h
      refine s_iast E (w' := (wX cI q (up2 σ 12 (y2.toNatClampNeg) (σ 8 y2.toNatClampNeg)))) 12 rfl b3 rfl dX1_copyFrom_35 ?_
      refine s_iinc E (v := (y2 + 1)) (lv' := [(0, .ref (q 11)), (1, .ref (q 7)), (2, .int (y2 + 1))]) 2 rfl dX1_copyFrom_36 ki_1 rfl rfl rfl rfl (by decide) ?_
      refine s_goto E 18 dX1_copyFrom_39 (by decide) ?_
      exact ih (up2 σ 12 (y2.toNatClampNeg) (σ 8 y2.toNatClampNeg)) (y2 + 1) z h hK
def f_X1_copyFrom_11_7_L44 : Nat → (Nat → Nat → Int32) → Int32 → Option (Nat → Nat → Int32)
  | 0, _, _ => none
  | n + 1, σ, y2 =>
    (if 8 ≤ y2 then (some σ) else (chk y2 8 (chk y2 8 (chk y2 8 (chk y2 8 (f_X1_copyFrom_11_7_L44 n (up2 (up2 σ 13 (y2.toNatClampNeg) (σ 9 y2.toNatClampNeg)) 14 (y2.toNatClampNeg) (σ 10 y2.toNatClampNeg)) (y2 + 1)))))))
set_option maxRecDepth 100000 in
set_option maxHeartbeats 4000000 in
theorem w_X1_copyFrom_11_7_L44 (E : EV p s m args meth c dC dI cI cZ cX1_copyFrom 3 RX1 none) (q : Nat → Nat) : ∀ (n : Nat) (σ : Nat → Nat → Int32) (y2 : Int32) (z : (Nat → Nat → Int32)), f_X1_copyFrom_11_7_L44 n σ y2 = some z → GG p l e rm_X1_copyFrom_11_7 s m args below meth c Q A dC dI 3 (wX cI q z) 80 [(0, .ref (q 11)), (1, .ref (q 7))] [] → GG p l e rm_X1_copyFrom_11_7 s m args below meth c Q A dC dI 3 (wX cI q σ) 44 [(0, .ref (q 11)), (1, .ref (q 7)), (2, .int y2)] [] := by
  intro n
  induction n with
  | zero =>
    intro σ y2 z h
    rw [f_X1_copyFrom_11_7_L44] at h
    cases h
  | succ n ih =>
    intro σ y2 z h hK
    rw [f_X1_copyFrom_11_7_L44] at h
    refine s_iload_n E 2 rfl dX1_copyFrom_44 rfl ?_
    refine s_bipush E (v := 8) dX1_copyFrom_45 kb_8 ?_
    refine s_icmp_ge E 80 dX1_copyFrom_47 (by decide) (fun c5 => ?_) (fun c5 => ?_)
    · have h := (if_pos c5).symm.trans h
      refine s_sub E (lv' := [(0, .ref (q 11)), (1, .ref (q 7))]) [0, 1] rfl ?_
      obtain rfl := Option.some.inj h
      exact hK
    · have h := (if_neg c5).symm.trans h
      refine s_aload_n E 0 rfl dX1_copyFrom_50 rfl ?_
      refine s_get E (v := .ref (q 13)) 11 1 in_X1 rfl rfl (by decide) m_f_X1_15 rfl dX1_copyFrom_51 ?_
      refine s_iload_n E 2 rfl dX1_copyFrom_54 rfl ?_
      refine s_aload_n E 1 rfl dX1_copyFrom_55 rfl ?_
      refine s_get E (v := .ref (q 9)) 7 1 in_X1 rfl rfl (by decide) m_f_X1_15 rfl dX1_copyFrom_56 ?_
      refine s_iload_n E 2 rfl dX1_copyFrom_59 rfl ?_
      obtain ⟨b6, h⟩ := chk_some h
      refine s_iald E (f := σ 9) (v := (σ 9 y2.toNatClampNeg)) 9 rfl b6 rfl dX1_copyFrom_60 ?_
      obtain ⟨b7, h⟩ := chk_some h
      refine s_iast E (w' := (wX cI q (up2 σ 13 (y2.toNatClampNeg) (σ 9 y2.toNatClampNeg)))) 13 rfl b7 rfl dX1_copyFrom_61 ?_
      refine s_aload_n E 0 rfl dX1_copyFrom_62 rfl ?_
      refine s_get E (v := .ref (q 14)) 11 2 in_X1 rfl rfl (by decide) m_f_X1_18 rfl dX1_copyFrom_63 ?_
      refine s_iload_n E 2 rfl dX1_copyFrom_66 rfl ?_
      refine s_aload_n E 1 rfl dX1_copyFrom_67 rfl ?_
      refine s_get E (v := .ref (q 10)) 7 2 in_X1 rfl rfl (by decide) m_f_X1_18 rfl dX1_copyFrom_68 ?_
      refine s_iload_n E 2 rfl dX1_copyFrom_71 rfl ?_
      obtain ⟨b8, h⟩ := chk_some h
      refine s_iald E (f := σ 10) (v := (σ 10 y2.toNatClampNeg)) 10 rfl b8 rfl dX1_copyFrom_72 ?_
      obtain ⟨b9, h⟩ := chk_some h
      refine s_iast E (w' := (wX cI q (up2 (up2 σ 13 (y2.toNatClampNeg) (σ 9 y2.toNatClampNeg)) 14 (y2.toNatClampNeg) (σ 10 y2.toNatClampNeg)))) 14 rfl b9 rfl dX1_copyFrom_73 ?_
      refine s_iinc E (v := (y2 + 1)) (lv' := [(0, .ref (q 11)), (1, .ref (q 7)), (2, .int (y2 + 1))]) 2 rfl dX1_copyFrom_74 ki_1 rfl rfl rfl rfl (by decide) ?_
      refine s_goto E 44 dX1_copyFrom_77 (by decide) ?_
      exact ih (up2 (up2 σ 13 (y2.toNatClampNeg) (σ 9 y2.toNatClampNeg)) 14 (y2.toNatClampNeg) (σ 10 y2.toNatClampNeg)) (y2 + 1) z h hK
def f_X1_copyFrom_11_7 (σ : Nat → Nat → Int32) : Option (Nat → Nat → Int32) :=
  ((f_X1_copyFrom_11_7_L18 fuel (up2 (up2 σ 11 3 (σ 7 3)) 11 4 (σ 7 4)) 0).bind fun u4 => ((f_X1_copyFrom_11_7_L44 fuel u4 0).bind fun u10 => (some u10)))
set_option maxRecDepth 100000 in
set_option maxHeartbeats 4000000 in
theorem c_X1_copyFrom_11_7 (q : Nat → Nat) (σ : Nat → Nat → Int32) (z : (Nat → Nat → Int32)) (h : f_X1_copyFrom_11_7 σ = some z) : CT l dC dI cI cZ A yX1_copyFrom cX1_copyFrom 3 none rm_X1_copyFrom_11_7 [.ref (q 11), .ref (q 7)] (wX cI q σ) (wX cI q z) none := by
  refine b_met (by decide) (Nat.le_of_ble_eq_true rfl) ?_
  intro p e s m below meth c E
  have E : EV p s m _ meth c dC dI cI cZ cX1_copyFrom 3 RX1 none := E
  show GG p l e rm_X1_copyFrom_11_7 s m _ below meth c _ A dC dI 3 (wX cI q σ) 0 [(0, .ref (q 11)), (1, .ref (q 7))] []
  unfold f_X1_copyFrom_11_7 at h
  refine s_aload_n E 0 rfl dX1_copyFrom_0 rfl ?_
  refine s_aload_n E 1 rfl dX1_copyFrom_1 rfl ?_
  refine s_get E (v := .int (σ 7 3)) 7 3 in_X1 rfl rfl (by decide) m_f_X1_21 rfl dX1_copyFrom_2 ?_
  refine s_put E (w' := (wX cI q (up2 σ 11 3 (σ 7 3)))) (v := .int (σ 7 3)) 11 3 tyX1 tyX1_ok nmX1 in_X1 rfl rfl (by decide) m_f_X1_21 rfl (tyX1_ok 3 (by decide)) rfl rfl (Nat.le_of_ble_eq_true rfl) rfl dX1_copyFrom_5 ?_
  refine s_aload_n E 0 rfl dX1_copyFrom_8 rfl ?_
  refine s_aload_n E 1 rfl dX1_copyFrom_9 rfl ?_
  refine s_get E (v := .int (σ 7 4)) 7 4 in_X1 rfl rfl (by decide) m_f_X1_25 rfl dX1_copyFrom_10 ?_
  refine s_put E (w' := (wX cI q (up2 (up2 σ 11 3 (σ 7 3)) 11 4 (σ 7 4)))) (v := .int (σ 7 4)) 11 4 tyX1 tyX1_ok nmX1 in_X1 rfl rfl (by decide) m_f_X1_25 rfl (tyX1_ok 4 (by decide)) rfl rfl (Nat.le_of_ble_eq_true rfl) rfl dX1_copyFrom_13 ?_
  refine s_iconst E (v := 0) dX1_copyFrom_16 ki_0 ?_
  refine s_istore_n E (lv' := [(0, .ref (q 11)), (1, .ref (q 7)), (2, .int 0)]) dX1_copyFrom_17 rfl rfl rfl rfl (by decide) ?_
  obtain ⟨u4, e4, h⟩ := bnd_some h
  refine w_X1_copyFrom_11_7_L18 E q fuel (up2 (up2 σ 11 3 (σ 7 3)) 11 4 (σ 7 4)) 0 u4 e4 ?_
  refine s_iconst E (v := 0) dX1_copyFrom_42 ki_0 ?_
  refine s_istore_n E (lv' := [(0, .ref (q 11)), (1, .ref (q 7)), (2, .int 0)]) dX1_copyFrom_43 rfl rfl rfl rfl (by decide) ?_
  obtain ⟨u10, e10, h⟩ := bnd_some h
  refine w_X1_copyFrom_11_7_L44 E q fuel u4 0 u10 e10 ?_
  exact s_vret E (congrArg (fun t : Nat → Nat → Int32 => wX cI q t) (Option.some.inj h)) dX1_copyFrom_80
end
abbrev rm_X1_copyFrom_15_7 : Room := { frames := 0, cells := 0, slots := 0, locals := 0 }
section
def f_X1_copyFrom_15_7_L18 : Nat → (Nat → Nat → Int32) → Int32 → Option (Nat → Nat → Int32)
  | 0, _, _ => none
  | n + 1, σ, y2 =>
    (if 8 < y2 then (some σ) else (chk y2 9 (chk y2 9 (f_X1_copyFrom_15_7_L18 n (up2 σ 16 (y2.toNatClampNeg) (σ 8 y2.toNatClampNeg)) (y2 + 1)))))
set_option maxRecDepth 100000 in
set_option maxHeartbeats 4000000 in
theorem w_X1_copyFrom_15_7_L18 (E : EV p s m args meth c dC dI cI cZ cX1_copyFrom 3 RX1 none) (q : Nat → Nat) : ∀ (n : Nat) (σ : Nat → Nat → Int32) (y2 : Int32) (z : (Nat → Nat → Int32)), f_X1_copyFrom_15_7_L18 n σ y2 = some z → GG p l e rm_X1_copyFrom_15_7 s m args below meth c Q A dC dI 3 (wX cI q z) 42 [(0, .ref (q 15)), (1, .ref (q 7))] [] → GG p l e rm_X1_copyFrom_15_7 s m args below meth c Q A dC dI 3 (wX cI q σ) 18 [(0, .ref (q 15)), (1, .ref (q 7)), (2, .int y2)] [] := by
  intro n
  induction n with
  | zero =>
    intro σ y2 z h
    rw [f_X1_copyFrom_15_7_L18] at h
    cases h
  | succ n ih =>
    intro σ y2 z h hK
    rw [f_X1_copyFrom_15_7_L18] at h
    refine s_iload_n E 2 rfl dX1_copyFrom_18 rfl ?_
    refine s_bipush E (v := 8) dX1_copyFrom_19 kb_8 ?_
    refine s_icmp_gt E 42 dX1_copyFrom_21 (by decide) (fun c1 => ?_) (fun c1 => ?_)
    · have h := (if_pos c1).symm.trans h
      refine s_sub E (lv' := [(0, .ref (q 15)), (1, .ref (q 7))]) [0, 1] rfl ?_
      obtain rfl := Option.some.inj h
      exact hK
    · have h := (if_neg c1).symm.trans h
      refine s_aload_n E 0 rfl dX1_copyFrom_24 rfl ?_
      refine s_get E (v := .ref (q 16)) 15 0 in_X1 rfl rfl (by decide) m_f_X1_9 rfl dX1_copyFrom_25 ?_
      refine s_iload_n E 2 rfl dX1_copyFrom_28 rfl ?_
      refine s_aload_n E 1 rfl dX1_copyFrom_29 rfl ?_
      refine s_get E (v := .ref (q 8)) 7 0 in_X1 rfl rfl (by decide) m_f_X1_9 rfl dX1_copyFrom_30 ?_
      refine s_iload_n E 2 rfl dX1_copyFrom_33 rfl ?_
      obtain ⟨b2, h⟩ := chk_some h
      refine s_iald E (f := σ 8) (v := (σ 8 y2.toNatClampNeg)) 8 rfl b2 rfl dX1_copyFrom_34 ?_
      obtain ⟨b3, h⟩ := chk_some h
      refine s_iast E (w' := (wX cI q (up2 σ 16 (y2.toNatClampNeg) (σ 8 y2.toNatClampNeg)))) 16 rfl b3 rfl dX1_copyFrom_35 ?_
      refine s_iinc E (v := (y2 + 1)) (lv' := [(0, .ref (q 15)), (1, .ref (q 7)), (2, .int (y2 + 1))]) 2 rfl dX1_copyFrom_36 ki_1 rfl rfl rfl rfl (by decide) ?_
      refine s_goto E 18 dX1_copyFrom_39 (by decide) ?_
      exact ih (up2 σ 16 (y2.toNatClampNeg) (σ 8 y2.toNatClampNeg)) (y2 + 1) z h hK
def f_X1_copyFrom_15_7_L44 : Nat → (Nat → Nat → Int32) → Int32 → Option (Nat → Nat → Int32)
  | 0, _, _ => none
  | n + 1, σ, y2 =>
    (if 8 ≤ y2 then (some σ) else (chk y2 8 (chk y2 8 (chk y2 8 (chk y2 8 (f_X1_copyFrom_15_7_L44 n (up2 (up2 σ 17 (y2.toNatClampNeg) (σ 9 y2.toNatClampNeg)) 18 (y2.toNatClampNeg) (σ 10 y2.toNatClampNeg)) (y2 + 1)))))))
set_option maxRecDepth 100000 in
set_option maxHeartbeats 4000000 in
theorem w_X1_copyFrom_15_7_L44 (E : EV p s m args meth c dC dI cI cZ cX1_copyFrom 3 RX1 none) (q : Nat → Nat) : ∀ (n : Nat) (σ : Nat → Nat → Int32) (y2 : Int32) (z : (Nat → Nat → Int32)), f_X1_copyFrom_15_7_L44 n σ y2 = some z → GG p l e rm_X1_copyFrom_15_7 s m args below meth c Q A dC dI 3 (wX cI q z) 80 [(0, .ref (q 15)), (1, .ref (q 7))] [] → GG p l e rm_X1_copyFrom_15_7 s m args below meth c Q A dC dI 3 (wX cI q σ) 44 [(0, .ref (q 15)), (1, .ref (q 7)), (2, .int y2)] [] := by
  intro n
  induction n with
  | zero =>
    intro σ y2 z h
    rw [f_X1_copyFrom_15_7_L44] at h
    cases h
  | succ n ih =>
    intro σ y2 z h hK
    rw [f_X1_copyFrom_15_7_L44] at h
    refine s_iload_n E 2 rfl dX1_copyFrom_44 rfl ?_
    refine s_bipush E (v := 8) dX1_copyFrom_45 kb_8 ?_
    refine s_icmp_ge E 80 dX1_copyFrom_47 (by decide) (fun c5 => ?_) (fun c5 => ?_)
    · have h := (if_pos c5).symm.trans h
      refine s_sub E (lv' := [(0, .ref (q 15)), (1, .ref (q 7))]) [0, 1] rfl ?_
      obtain rfl := Option.some.inj h
      exact hK
    · have h := (if_neg c5).symm.trans h
      refine s_aload_n E 0 rfl dX1_copyFrom_50 rfl ?_
      refine s_get E (v := .ref (q 17)) 15 1 in_X1 rfl rfl (by decide) m_f_X1_15 rfl dX1_copyFrom_51 ?_
      refine s_iload_n E 2 rfl dX1_copyFrom_54 rfl ?_
      refine s_aload_n E 1 rfl dX1_copyFrom_55 rfl ?_
      refine s_get E (v := .ref (q 9)) 7 1 in_X1 rfl rfl (by decide) m_f_X1_15 rfl dX1_copyFrom_56 ?_
      refine s_iload_n E 2 rfl dX1_copyFrom_59 rfl ?_
      obtain ⟨b6, h⟩ := chk_some h
      refine s_iald E (f := σ 9) (v := (σ 9 y2.toNatClampNeg)) 9 rfl b6 rfl dX1_copyFrom_60 ?_
      obtain ⟨b7, h⟩ := chk_some h
      refine s_iast E (w' := (wX cI q (up2 σ 17 (y2.toNatClampNeg) (σ 9 y2.toNatClampNeg)))) 17 rfl b7 rfl dX1_copyFrom_61 ?_
      refine s_aload_n E 0 rfl dX1_copyFrom_62 rfl ?_
      refine s_get E (v := .ref (q 18)) 15 2 in_X1 rfl rfl (by decide) m_f_X1_18 rfl dX1_copyFrom_63 ?_
      refine s_iload_n E 2 rfl dX1_copyFrom_66 rfl ?_
      refine s_aload_n E 1 rfl dX1_copyFrom_67 rfl ?_
      refine s_get E (v := .ref (q 10)) 7 2 in_X1 rfl rfl (by decide) m_f_X1_18 rfl dX1_copyFrom_68 ?_
      refine s_iload_n E 2 rfl dX1_copyFrom_71 rfl ?_
      obtain ⟨b8, h⟩ := chk_some h
      refine s_iald E (f := σ 10) (v := (σ 10 y2.toNatClampNeg)) 10 rfl b8 rfl dX1_copyFrom_72 ?_
      obtain ⟨b9, h⟩ := chk_some h
      refine s_iast E (w' := (wX cI q (up2 (up2 σ 17 (y2.toNatClampNeg) (σ 9 y2.toNatClampNeg)) 18 (y2.toNatClampNeg) (σ 10 y2.toNatClampNeg)))) 18 rfl b9 rfl dX1_copyFrom_73 ?_
      refine s_iinc E (v := (y2 + 1)) (lv' := [(0, .ref (q 15)), (1, .ref (q 7)), (2, .int (y2 + 1))]) 2 rfl dX1_copyFrom_74 ki_1 rfl rfl rfl rfl (by decide) ?_
      refine s_goto E 44 dX1_copyFrom_77 (by decide) ?_
      exact ih (up2 (up2 σ 17 (y2.toNatClampNeg) (σ 9 y2.toNatClampNeg)) 18 (y2.toNatClampNeg) (σ 10 y2.toNatClampNeg)) (y2 + 1) z h hK
def f_X1_copyFrom_15_7 (σ : Nat → Nat → Int32) : Option (Nat → Nat → Int32) :=
  ((f_X1_copyFrom_15_7_L18 fuel (up2 (up2 σ 15 3 (σ 7 3)) 15 4 (σ 7 4)) 0).bind fun u4 => ((f_X1_copyFrom_15_7_L44 fuel u4 0).bind fun u10 => (some u10)))
set_option maxRecDepth 100000 in
set_option maxHeartbeats 4000000 in
theorem c_X1_copyFrom_15_7 (q : Nat → Nat) (σ : Nat → Nat → Int32) (z : (Nat → Nat → Int32)) (h : f_X1_copyFrom_15_7 σ = some z) : CT l dC dI cI cZ A yX1_copyFrom cX1_copyFrom 3 none rm_X1_copyFrom_15_7 [.ref (q 15), .ref (q 7)] (wX cI q σ) (wX cI q z) none := by
  refine b_met (by decide) (Nat.le_of_ble_eq_true rfl) ?_
  intro p e s m below meth c E
  have E : EV p s m _ meth c dC dI cI cZ cX1_copyFrom 3 RX1 none := E
  show GG p l e rm_X1_copyFrom_15_7 s m _ below meth c _ A dC dI 3 (wX cI q σ) 0 [(0, .ref (q 15)), (1, .ref (q 7))] []
  unfold f_X1_copyFrom_15_7 at h
  refine s_aload_n E 0 rfl dX1_copyFrom_0 rfl ?_
  refine s_aload_n E 1 rfl dX1_copyFrom_1 rfl ?_
  refine s_get E (v := .int (σ 7 3)) 7 3 in_X1 rfl rfl (by decide) m_f_X1_21 rfl dX1_copyFrom_2 ?_
  refine s_put E (w' := (wX cI q (up2 σ 15 3 (σ 7 3)))) (v := .int (σ 7 3)) 15 3 tyX1 tyX1_ok nmX1 in_X1 rfl rfl (by decide) m_f_X1_21 rfl (tyX1_ok 3 (by decide)) rfl rfl (Nat.le_of_ble_eq_true rfl) rfl dX1_copyFrom_5 ?_
  refine s_aload_n E 0 rfl dX1_copyFrom_8 rfl ?_
  refine s_aload_n E 1 rfl dX1_copyFrom_9 rfl ?_
  refine s_get E (v := .int (σ 7 4)) 7 4 in_X1 rfl rfl (by decide) m_f_X1_25 rfl dX1_copyFrom_10 ?_
  refine s_put E (w' := (wX cI q (up2 (up2 σ 15 3 (σ 7 3)) 15 4 (σ 7 4)))) (v := .int (σ 7 4)) 15 4 tyX1 tyX1_ok nmX1 in_X1 rfl rfl (by decide) m_f_X1_25 rfl (tyX1_ok 4 (by decide)) rfl rfl (Nat.le_of_ble_eq_true rfl) rfl dX1_copyFrom_13 ?_
  refine s_iconst E (v := 0) dX1_copyFrom_16 ki_0 ?_
  refine s_istore_n E (lv' := [(0, .ref (q 15)), (1, .ref (q 7)), (2, .int 0)]) dX1_copyFrom_17 rfl rfl rfl rfl (by decide) ?_
  obtain ⟨u4, e4, h⟩ := bnd_some h
  refine w_X1_copyFrom_15_7_L18 E q fuel (up2 (up2 σ 15 3 (σ 7 3)) 15 4 (σ 7 4)) 0 u4 e4 ?_
  refine s_iconst E (v := 0) dX1_copyFrom_42 ki_0 ?_
  refine s_istore_n E (lv' := [(0, .ref (q 15)), (1, .ref (q 7)), (2, .int 0)]) dX1_copyFrom_43 rfl rfl rfl rfl (by decide) ?_
  obtain ⟨u10, e10, h⟩ := bnd_some h
  refine w_X1_copyFrom_15_7_L44 E q fuel u4 0 u10 e10 ?_
  exact s_vret E (congrArg (fun t : Nat → Nat → Int32 => wX cI q t) (Option.some.inj h)) dX1_copyFrom_80
end
abbrev rm_X1_copyFrom_7_11 : Room := { frames := 0, cells := 0, slots := 0, locals := 0 }
section
def f_X1_copyFrom_7_11_L18 : Nat → (Nat → Nat → Int32) → Int32 → Option (Nat → Nat → Int32)
  | 0, _, _ => none
  | n + 1, σ, y2 =>
    (if 8 < y2 then (some σ) else (chk y2 9 (chk y2 9 (f_X1_copyFrom_7_11_L18 n (up2 σ 8 (y2.toNatClampNeg) (σ 12 y2.toNatClampNeg)) (y2 + 1)))))
set_option maxRecDepth 100000 in
set_option maxHeartbeats 4000000 in
theorem w_X1_copyFrom_7_11_L18 (E : EV p s m args meth c dC dI cI cZ cX1_copyFrom 3 RX1 none) (q : Nat → Nat) : ∀ (n : Nat) (σ : Nat → Nat → Int32) (y2 : Int32) (z : (Nat → Nat → Int32)), f_X1_copyFrom_7_11_L18 n σ y2 = some z → GG p l e rm_X1_copyFrom_7_11 s m args below meth c Q A dC dI 3 (wX cI q z) 42 [(0, .ref (q 7)), (1, .ref (q 11))] [] → GG p l e rm_X1_copyFrom_7_11 s m args below meth c Q A dC dI 3 (wX cI q σ) 18 [(0, .ref (q 7)), (1, .ref (q 11)), (2, .int y2)] [] := by
  intro n
  induction n with
  | zero =>
    intro σ y2 z h
    rw [f_X1_copyFrom_7_11_L18] at h
    cases h
  | succ n ih =>
    intro σ y2 z h hK
    rw [f_X1_copyFrom_7_11_L18] at h
    refine s_iload_n E 2 rfl dX1_copyFrom_18 rfl ?_
    refine s_bipush E (v := 8) dX1_copyFrom_19 kb_8 ?_
    refine s_icmp_gt E 42 dX1_copyFrom_21 (by decide) (fun c1 => ?_) (fun c1 => ?_)
    · have h := (if_pos c1).symm.trans h
      refine s_sub E (lv' := [(0, .ref (q 7)), (1, .ref (q 11))]) [0, 1] rfl ?_
      obtain rfl := Option.some.inj h
      exact hK
    · have h := (if_neg c1).symm.trans h
      refine s_aload_n E 0 rfl dX1_copyFrom_24 rfl ?_
      refine s_get E (v := .ref (q 8)) 7 0 in_X1 rfl rfl (by decide) m_f_X1_9 rfl dX1_copyFrom_25 ?_
      refine s_iload_n E 2 rfl dX1_copyFrom_28 rfl ?_
      refine s_aload_n E 1 rfl dX1_copyFrom_29 rfl ?_
      refine s_get E (v := .ref (q 12)) 11 0 in_X1 rfl rfl (by decide) m_f_X1_9 rfl dX1_copyFrom_30 ?_
      refine s_iload_n E 2 rfl dX1_copyFrom_33 rfl ?_
      obtain ⟨b2, h⟩ := chk_some h
      refine s_iald E (f := σ 12) (v := (σ 12 y2.toNatClampNeg)) 12 rfl b2 rfl dX1_copyFrom_34 ?_
      obtain ⟨b3, h⟩ := chk_some h
      refine s_iast E (w' := (wX cI q (up2 σ 8 (y2.toNatClampNeg) (σ 12 y2.toNatClampNeg)))) 8 rfl b3 rfl dX1_copyFrom_35 ?_
      refine s_iinc E (v := (y2 + 1)) (lv' := [(0, .ref (q 7)), (1, .ref (q 11)), (2, .int (y2 + 1))]) 2 rfl dX1_copyFrom_36 ki_1 rfl rfl rfl rfl (by decide) ?_
      refine s_goto E 18 dX1_copyFrom_39 (by decide) ?_
      exact ih (up2 σ 8 (y2.toNatClampNeg) (σ 12 y2.toNatClampNeg)) (y2 + 1) z h hK
def f_X1_copyFrom_7_11_L44 : Nat → (Nat → Nat → Int32) → Int32 → Option (Nat → Nat → Int32)
  | 0, _, _ => none
  | n + 1, σ, y2 =>
    (if 8 ≤ y2 then (some σ) else (chk y2 8 (chk y2 8 (chk y2 8 (chk y2 8 (f_X1_copyFrom_7_11_L44 n (up2 (up2 σ 9 (y2.toNatClampNeg) (σ 13 y2.toNatClampNeg)) 10 (y2.toNatClampNeg) (σ 14 y2.toNatClampNeg)) (y2 + 1)))))))
set_option maxRecDepth 100000 in
set_option maxHeartbeats 4000000 in
theorem w_X1_copyFrom_7_11_L44 (E : EV p s m args meth c dC dI cI cZ cX1_copyFrom 3 RX1 none) (q : Nat → Nat) : ∀ (n : Nat) (σ : Nat → Nat → Int32) (y2 : Int32) (z : (Nat → Nat → Int32)), f_X1_copyFrom_7_11_L44 n σ y2 = some z → GG p l e rm_X1_copyFrom_7_11 s m args below meth c Q A dC dI 3 (wX cI q z) 80 [(0, .ref (q 7)), (1, .ref (q 11))] [] → GG p l e rm_X1_copyFrom_7_11 s m args below meth c Q A dC dI 3 (wX cI q σ) 44 [(0, .ref (q 7)), (1, .ref (q 11)), (2, .int y2)] [] := by
  intro n
  induction n with
  | zero =>
    intro σ y2 z h
    rw [f_X1_copyFrom_7_11_L44] at h
    cases h
  | succ n ih =>
    intro σ y2 z h hK
    rw [f_X1_copyFrom_7_11_L44] at h
    refine s_iload_n E 2 rfl dX1_copyFrom_44 rfl ?_
    refine s_bipush E (v := 8) dX1_copyFrom_45 kb_8 ?_
    refine s_icmp_ge E 80 dX1_copyFrom_47 (by decide) (fun c5 => ?_) (fun c5 => ?_)
    · have h := (if_pos c5).symm.trans h
      refine s_sub E (lv' := [(0, .ref (q 7)), (1, .ref (q 11))]) [0, 1] rfl ?_
      obtain rfl := Option.some.inj h
      exact hK
    · have h := (if_neg c5).symm.trans h
      refine s_aload_n E 0 rfl dX1_copyFrom_50 rfl ?_
      refine s_get E (v := .ref (q 9)) 7 1 in_X1 rfl rfl (by decide) m_f_X1_15 rfl dX1_copyFrom_51 ?_
      refine s_iload_n E 2 rfl dX1_copyFrom_54 rfl ?_
      refine s_aload_n E 1 rfl dX1_copyFrom_55 rfl ?_
      refine s_get E (v := .ref (q 13)) 11 1 in_X1 rfl rfl (by decide) m_f_X1_15 rfl dX1_copyFrom_56 ?_
      refine s_iload_n E 2 rfl dX1_copyFrom_59 rfl ?_
      obtain ⟨b6, h⟩ := chk_some h
      refine s_iald E (f := σ 13) (v := (σ 13 y2.toNatClampNeg)) 13 rfl b6 rfl dX1_copyFrom_60 ?_
      obtain ⟨b7, h⟩ := chk_some h
      refine s_iast E (w' := (wX cI q (up2 σ 9 (y2.toNatClampNeg) (σ 13 y2.toNatClampNeg)))) 9 rfl b7 rfl dX1_copyFrom_61 ?_
      refine s_aload_n E 0 rfl dX1_copyFrom_62 rfl ?_
      refine s_get E (v := .ref (q 10)) 7 2 in_X1 rfl rfl (by decide) m_f_X1_18 rfl dX1_copyFrom_63 ?_
      refine s_iload_n E 2 rfl dX1_copyFrom_66 rfl ?_
      refine s_aload_n E 1 rfl dX1_copyFrom_67 rfl ?_
      refine s_get E (v := .ref (q 14)) 11 2 in_X1 rfl rfl (by decide) m_f_X1_18 rfl dX1_copyFrom_68 ?_
      refine s_iload_n E 2 rfl dX1_copyFrom_71 rfl ?_
      obtain ⟨b8, h⟩ := chk_some h
      refine s_iald E (f := σ 14) (v := (σ 14 y2.toNatClampNeg)) 14 rfl b8 rfl dX1_copyFrom_72 ?_
      obtain ⟨b9, h⟩ := chk_some h
      refine s_iast E (w' := (wX cI q (up2 (up2 σ 9 (y2.toNatClampNeg) (σ 13 y2.toNatClampNeg)) 10 (y2.toNatClampNeg) (σ 14 y2.toNatClampNeg)))) 10 rfl b9 rfl dX1_copyFrom_73 ?_
      refine s_iinc E (v := (y2 + 1)) (lv' := [(0, .ref (q 7)), (1, .ref (q 11)), (2, .int (y2 + 1))]) 2 rfl dX1_copyFrom_74 ki_1 rfl rfl rfl rfl (by decide) ?_
      refine s_goto E 44 dX1_copyFrom_77 (by decide) ?_
      exact ih (up2 (up2 σ 9 (y2.toNatClampNeg) (σ 13 y2.toNatClampNeg)) 10 (y2.toNatClampNeg) (σ 14 y2.toNatClampNeg)) (y2 + 1) z h hK
def f_X1_copyFrom_7_11 (σ : Nat → Nat → Int32) : Option (Nat → Nat → Int32) :=
  ((f_X1_copyFrom_7_11_L18 fuel (up2 (up2 σ 7 3 (σ 11 3)) 7 4 (σ 11 4)) 0).bind fun u4 => ((f_X1_copyFrom_7_11_L44 fuel u4 0).bind fun u10 => (some u10)))
set_option maxRecDepth 100000 in
set_option maxHeartbeats 4000000 in
theorem c_X1_copyFrom_7_11 (q : Nat → Nat) (σ : Nat → Nat → Int32) (z : (Nat → Nat → Int32)) (h : f_X1_copyFrom_7_11 σ = some z) : CT l dC dI cI cZ A yX1_copyFrom cX1_copyFrom 3 none rm_X1_copyFrom_7_11 [.ref (q 7), .ref (q 11)] (wX cI q σ) (wX cI q z) none := by
  refine b_met (by decide) (Nat.le_of_ble_eq_true rfl) ?_
  intro p e s m below meth c E
  have E : EV p s m _ meth c dC dI cI cZ cX1_copyFrom 3 RX1 none := E
  show GG p l e rm_X1_copyFrom_7_11 s m _ below meth c _ A dC dI 3 (wX cI q σ) 0 [(0, .ref (q 7)), (1, .ref (q 11))] []
  unfold f_X1_copyFrom_7_11 at h
  refine s_aload_n E 0 rfl dX1_copyFrom_0 rfl ?_
  refine s_aload_n E 1 rfl dX1_copyFrom_1 rfl ?_
  refine s_get E (v := .int (σ 11 3)) 11 3 in_X1 rfl rfl (by decide) m_f_X1_21 rfl dX1_copyFrom_2 ?_
  refine s_put E (w' := (wX cI q (up2 σ 7 3 (σ 11 3)))) (v := .int (σ 11 3)) 7 3 tyX1 tyX1_ok nmX1 in_X1 rfl rfl (by decide) m_f_X1_21 rfl (tyX1_ok 3 (by decide)) rfl rfl (Nat.le_of_ble_eq_true rfl) rfl dX1_copyFrom_5 ?_
  refine s_aload_n E 0 rfl dX1_copyFrom_8 rfl ?_
  refine s_aload_n E 1 rfl dX1_copyFrom_9 rfl ?_
  refine s_get E (v := .int (σ 11 4)) 11 4 in_X1 rfl rfl (by decide) m_f_X1_25 rfl dX1_copyFrom_10 ?_
  refine s_put E (w' := (wX cI q (up2 (up2 σ 7 3 (σ 11 3)) 7 4 (σ 11 4)))) (v := .int (σ 11 4)) 7 4 tyX1 tyX1_ok nmX1 in_X1 rfl rfl (by decide) m_f_X1_25 rfl (tyX1_ok 4 (by decide)) rfl rfl (Nat.le_of_ble_eq_true rfl) rfl dX1_copyFrom_13 ?_
  refine s_iconst E (v := 0) dX1_copyFrom_16 ki_0 ?_
  refine s_istore_n E (lv' := [(0, .ref (q 7)), (1, .ref (q 11)), (2, .int 0)]) dX1_copyFrom_17 rfl rfl rfl rfl (by decide) ?_
  obtain ⟨u4, e4, h⟩ := bnd_some h
  refine w_X1_copyFrom_7_11_L18 E q fuel (up2 (up2 σ 7 3 (σ 11 3)) 7 4 (σ 11 4)) 0 u4 e4 ?_
  refine s_iconst E (v := 0) dX1_copyFrom_42 ki_0 ?_
  refine s_istore_n E (lv' := [(0, .ref (q 7)), (1, .ref (q 11)), (2, .int 0)]) dX1_copyFrom_43 rfl rfl rfl rfl (by decide) ?_
  obtain ⟨u10, e10, h⟩ := bnd_some h
  refine w_X1_copyFrom_7_11_L44 E q fuel u4 0 u10 e10 ?_
  exact s_vret E (congrArg (fun t : Nat → Nat → Int32 => wX cI q t) (Option.some.inj h)) dX1_copyFrom_80
end
abbrev rm_X1_copyFrom_7_15 : Room := { frames := 0, cells := 0, slots := 0, locals := 0 }
section
def f_X1_copyFrom_7_15_L18 : Nat → (Nat → Nat → Int32) → Int32 → Option (Nat → Nat → Int32)
  | 0, _, _ => none
  | n + 1, σ, y2 =>
    (if 8 < y2 then (some σ) else (chk y2 9 (chk y2 9 (f_X1_copyFrom_7_15_L18 n (up2 σ 8 (y2.toNatClampNeg) (σ 16 y2.toNatClampNeg)) (y2 + 1)))))
set_option maxRecDepth 100000 in
set_option maxHeartbeats 4000000 in
theorem w_X1_copyFrom_7_15_L18 (E : EV p s m args meth c dC dI cI cZ cX1_copyFrom 3 RX1 none) (q : Nat → Nat) : ∀ (n : Nat) (σ : Nat → Nat → Int32) (y2 : Int32) (z : (Nat → Nat → Int32)), f_X1_copyFrom_7_15_L18 n σ y2 = some z → GG p l e rm_X1_copyFrom_7_15 s m args below meth c Q A dC dI 3 (wX cI q z) 42 [(0, .ref (q 7)), (1, .ref (q 15))] [] → GG p l e rm_X1_copyFrom_7_15 s m args below meth c Q A dC dI 3 (wX cI q σ) 18 [(0, .ref (q 7)), (1, .ref (q 15)), (2, .int y2)] [] := by
  intro n
  induction n with
  | zero =>
    intro σ y2 z h
    rw [f_X1_copyFrom_7_15_L18] at h
    cases h
  | succ n ih =>
    intro σ y2 z h hK
    rw [f_X1_copyFrom_7_15_L18] at h
    refine s_iload_n E 2 rfl dX1_copyFrom_18 rfl ?_
    refine s_bipush E (v := 8) dX1_copyFrom_19 kb_8 ?_
    refine s_icmp_gt E 42 dX1_copyFrom_21 (by decide) (fun c1 => ?_) (fun c1 => ?_)
    · have h := (if_pos c1).symm.trans h
      refine s_sub E (lv' := [(0, .ref (q 7)), (1, .ref (q 15))]) [0, 1] rfl ?_
      obtain rfl := Option.some.inj h
      exact hK
    · have h := (if_neg c1).symm.trans h
      refine s_aload_n E 0 rfl dX1_copyFrom_24 rfl ?_
      refine s_get E (v := .ref (q 8)) 7 0 in_X1 rfl rfl (by decide) m_f_X1_9 rfl dX1_copyFrom_25 ?_
      refine s_iload_n E 2 rfl dX1_copyFrom_28 rfl ?_
      refine s_aload_n E 1 rfl dX1_copyFrom_29 rfl ?_
      refine s_get E (v := .ref (q 16)) 15 0 in_X1 rfl rfl (by decide) m_f_X1_9 rfl dX1_copyFrom_30 ?_
      refine s_iload_n E 2 rfl dX1_copyFrom_33 rfl ?_
      obtain ⟨b2, h⟩ := chk_some h
      refine s_iald E (f := σ 16) (v := (σ 16 y2.toNatClampNeg)) 16 rfl b2 rfl dX1_copyFrom_34 ?_
      obtain ⟨b3, h⟩ := chk_some h
      refine s_iast E (w' := (wX cI q (up2 σ 8 (y2.toNatClampNeg) (σ 16 y2.toNatClampNeg)))) 8 rfl b3 rfl dX1_copyFrom_35 ?_
      refine s_iinc E (v := (y2 + 1)) (lv' := [(0, .ref (q 7)), (1, .ref (q 15)), (2, .int (y2 + 1))]) 2 rfl dX1_copyFrom_36 ki_1 rfl rfl rfl rfl (by decide) ?_
      refine s_goto E 18 dX1_copyFrom_39 (by decide) ?_
      exact ih (up2 σ 8 (y2.toNatClampNeg) (σ 16 y2.toNatClampNeg)) (y2 + 1) z h hK
def f_X1_copyFrom_7_15_L44 : Nat → (Nat → Nat → Int32) → Int32 → Option (Nat → Nat → Int32)
  | 0, _, _ => none
  | n + 1, σ, y2 =>
    (if 8 ≤ y2 then (some σ) else (chk y2 8 (chk y2 8 (chk y2 8 (chk y2 8 (f_X1_copyFrom_7_15_L44 n (up2 (up2 σ 9 (y2.toNatClampNeg) (σ 17 y2.toNatClampNeg)) 10 (y2.toNatClampNeg) (σ 18 y2.toNatClampNeg)) (y2 + 1)))))))
set_option maxRecDepth 100000 in
set_option maxHeartbeats 4000000 in
theorem w_X1_copyFrom_7_15_L44 (E : EV p s m args meth c dC dI cI cZ cX1_copyFrom 3 RX1 none) (q : Nat → Nat) : ∀ (n : Nat) (σ : Nat → Nat → Int32) (y2 : Int32) (z : (Nat → Nat → Int32)), f_X1_copyFrom_7_15_L44 n σ y2 = some z → GG p l e rm_X1_copyFrom_7_15 s m args below meth c Q A dC dI 3 (wX cI q z) 80 [(0, .ref (q 7)), (1, .ref (q 15))] [] → GG p l e rm_X1_copyFrom_7_15 s m args below meth c Q A dC dI 3 (wX cI q σ) 44 [(0, .ref (q 7)), (1, .ref (q 15)), (2, .int y2)] [] := by
  intro n
  induction n with
  | zero =>
    intro σ y2 z h
    rw [f_X1_copyFrom_7_15_L44] at h
    cases h
  | succ n ih =>
    intro σ y2 z h hK
    rw [f_X1_copyFrom_7_15_L44] at h
    refine s_iload_n E 2 rfl dX1_copyFrom_44 rfl ?_
    refine s_bipush E (v := 8) dX1_copyFrom_45 kb_8 ?_
    refine s_icmp_ge E 80 dX1_copyFrom_47 (by decide) (fun c5 => ?_) (fun c5 => ?_)
    · have h := (if_pos c5).symm.trans h
      refine s_sub E (lv' := [(0, .ref (q 7)), (1, .ref (q 15))]) [0, 1] rfl ?_
      obtain rfl := Option.some.inj h
      exact hK
    · have h := (if_neg c5).symm.trans h
      refine s_aload_n E 0 rfl dX1_copyFrom_50 rfl ?_
      refine s_get E (v := .ref (q 9)) 7 1 in_X1 rfl rfl (by decide) m_f_X1_15 rfl dX1_copyFrom_51 ?_
      refine s_iload_n E 2 rfl dX1_copyFrom_54 rfl ?_
      refine s_aload_n E 1 rfl dX1_copyFrom_55 rfl ?_
      refine s_get E (v := .ref (q 17)) 15 1 in_X1 rfl rfl (by decide) m_f_X1_15 rfl dX1_copyFrom_56 ?_
      refine s_iload_n E 2 rfl dX1_copyFrom_59 rfl ?_
      obtain ⟨b6, h⟩ := chk_some h
      refine s_iald E (f := σ 17) (v := (σ 17 y2.toNatClampNeg)) 17 rfl b6 rfl dX1_copyFrom_60 ?_
      obtain ⟨b7, h⟩ := chk_some h
      refine s_iast E (w' := (wX cI q (up2 σ 9 (y2.toNatClampNeg) (σ 17 y2.toNatClampNeg)))) 9 rfl b7 rfl dX1_copyFrom_61 ?_
      refine s_aload_n E 0 rfl dX1_copyFrom_62 rfl ?_
      refine s_get E (v := .ref (q 10)) 7 2 in_X1 rfl rfl (by decide) m_f_X1_18 rfl dX1_copyFrom_63 ?_
      refine s_iload_n E 2 rfl dX1_copyFrom_66 rfl ?_
      refine s_aload_n E 1 rfl dX1_copyFrom_67 rfl ?_
      refine s_get E (v := .ref (q 18)) 15 2 in_X1 rfl rfl (by decide) m_f_X1_18 rfl dX1_copyFrom_68 ?_
      refine s_iload_n E 2 rfl dX1_copyFrom_71 rfl ?_
      obtain ⟨b8, h⟩ := chk_some h
      refine s_iald E (f := σ 18) (v := (σ 18 y2.toNatClampNeg)) 18 rfl b8 rfl dX1_copyFrom_72 ?_
      obtain ⟨b9, h⟩ := chk_some h
      refine s_iast E (w' := (wX cI q (up2 (up2 σ 9 (y2.toNatClampNeg) (σ 17 y2.toNatClampNeg)) 10 (y2.toNatClampNeg) (σ 18 y2.toNatClampNeg)))) 10 rfl b9 rfl dX1_copyFrom_73 ?_
      refine s_iinc E (v := (y2 + 1)) (lv' := [(0, .ref (q 7)), (1, .ref (q 15)), (2, .int (y2 + 1))]) 2 rfl dX1_copyFrom_74 ki_1 rfl rfl rfl rfl (by decide) ?_
      refine s_goto E 44 dX1_copyFrom_77 (by decide) ?_
      exact ih (up2 (up2 σ 9 (y2.toNatClampNeg) (σ 17 y2.toNatClampNeg)) 10 (y2.toNatClampNeg) (σ 18 y2.toNatClampNeg)) (y2 + 1) z h hK
def f_X1_copyFrom_7_15 (σ : Nat → Nat → Int32) : Option (Nat → Nat → Int32) :=
  ((f_X1_copyFrom_7_15_L18 fuel (up2 (up2 σ 7 3 (σ 15 3)) 7 4 (σ 15 4)) 0).bind fun u4 => ((f_X1_copyFrom_7_15_L44 fuel u4 0).bind fun u10 => (some u10)))
set_option maxRecDepth 100000 in
set_option maxHeartbeats 4000000 in
theorem c_X1_copyFrom_7_15 (q : Nat → Nat) (σ : Nat → Nat → Int32) (z : (Nat → Nat → Int32)) (h : f_X1_copyFrom_7_15 σ = some z) : CT l dC dI cI cZ A yX1_copyFrom cX1_copyFrom 3 none rm_X1_copyFrom_7_15 [.ref (q 7), .ref (q 15)] (wX cI q σ) (wX cI q z) none := by
  refine b_met (by decide) (Nat.le_of_ble_eq_true rfl) ?_
  intro p e s m below meth c E
  have E : EV p s m _ meth c dC dI cI cZ cX1_copyFrom 3 RX1 none := E
  show GG p l e rm_X1_copyFrom_7_15 s m _ below meth c _ A dC dI 3 (wX cI q σ) 0 [(0, .ref (q 7)), (1, .ref (q 15))] []
  unfold f_X1_copyFrom_7_15 at h
  refine s_aload_n E 0 rfl dX1_copyFrom_0 rfl ?_
  refine s_aload_n E 1 rfl dX1_copyFrom_1 rfl ?_
  refine s_get E (v := .int (σ 15 3)) 15 3 in_X1 rfl rfl (by decide) m_f_X1_21 rfl dX1_copyFrom_2 ?_
  refine s_put E (w' := (wX cI q (up2 σ 7 3 (σ 15 3)))) (v := .int (σ 15 3)) 7 3 tyX1 tyX1_ok nmX1 in_X1 rfl rfl (by decide) m_f_X1_21 rfl (tyX1_ok 3 (by decide)) rfl rfl (Nat.le_of_ble_eq_true rfl) rfl dX1_copyFrom_5 ?_
  refine s_aload_n E 0 rfl dX1_copyFrom_8 rfl ?_
  refine s_aload_n E 1 rfl dX1_copyFrom_9 rfl ?_
  refine s_get E (v := .int (σ 15 4)) 15 4 in_X1 rfl rfl (by decide) m_f_X1_25 rfl dX1_copyFrom_10 ?_
  refine s_put E (w' := (wX cI q (up2 (up2 σ 7 3 (σ 15 3)) 7 4 (σ 15 4)))) (v := .int (σ 15 4)) 7 4 tyX1 tyX1_ok nmX1 in_X1 rfl rfl (by decide) m_f_X1_25 rfl (tyX1_ok 4 (by decide)) rfl rfl (Nat.le_of_ble_eq_true rfl) rfl dX1_copyFrom_13 ?_
  refine s_iconst E (v := 0) dX1_copyFrom_16 ki_0 ?_
  refine s_istore_n E (lv' := [(0, .ref (q 7)), (1, .ref (q 15)), (2, .int 0)]) dX1_copyFrom_17 rfl rfl rfl rfl (by decide) ?_
  obtain ⟨u4, e4, h⟩ := bnd_some h
  refine w_X1_copyFrom_7_15_L18 E q fuel (up2 (up2 σ 7 3 (σ 15 3)) 7 4 (σ 15 4)) 0 u4 e4 ?_
  refine s_iconst E (v := 0) dX1_copyFrom_42 ki_0 ?_
  refine s_istore_n E (lv' := [(0, .ref (q 7)), (1, .ref (q 15)), (2, .int 0)]) dX1_copyFrom_43 rfl rfl rfl rfl (by decide) ?_
  obtain ⟨u10, e10, h⟩ := bnd_some h
  refine w_X1_copyFrom_7_15_L44 E q fuel u4 0 u10 e10 ?_
  exact s_vret E (congrArg (fun t : Nat → Nat → Int32 => wX cI q t) (Option.some.inj h)) dX1_copyFrom_80
end
end
end
section
theorem zz_dummy : True := trivial
end
