section
-- ===== PART A: goes FIRST, ahead of the names: the tables' words, and 'selects' of the private methods out of them =====
/-- a private method of a class that the tables say can be made, by its rows of tables_1 -/
def lw_okq (q : MethodName × Nat) : Prop := (q.1.cls ≠ "java/lang/invoke/MethodHandle" ∧ q.1.cls ≠ "java/lang/invoke/VarHandle") ∧ Cond.instantiable q.1.cls q.2 ∈ tables_1 ∧ Cond.privateMethod q.1 ∈ tables_1 ∧ Cond.instanceMethod q.1 ∈ tables_1
theorem lw_p0 : lw_okq (⟨"ShakerSweep$State", "forgetRun", "()V"⟩, 17) := ⟨⟨by decide +kernel, by decide +kernel⟩, List.mem_of_getElem? (i := 21) (by decide +kernel), List.mem_of_getElem? (i := 141) (by decide +kernel), List.mem_of_getElem? (i := 142) (by decide +kernel)⟩
theorem lw_p1 : lw_okq (⟨"ShakerSweep$State", "forgetGains", "()V"⟩, 17) := ⟨⟨by decide +kernel, by decide +kernel⟩, List.mem_of_getElem? (i := 21) (by decide +kernel), List.mem_of_getElem? (i := 153) (by decide +kernel), List.mem_of_getElem? (i := 154) (by decide +kernel)⟩
theorem lw_p2 : lw_okq (⟨"ShakerSweep", "recorded", "(I)I"⟩, 6) := ⟨⟨by decide +kernel, by decide +kernel⟩, List.mem_of_getElem? (i := 13) (by decide +kernel), List.mem_of_getElem? (i := 350) (by decide +kernel), List.mem_of_getElem? (i := 351) (by decide +kernel)⟩
theorem lw_p3 : lw_okq (⟨"ShakerSweep$State", "reasonToRefuse", "()I"⟩, 17) := ⟨⟨by decide +kernel, by decide +kernel⟩, List.mem_of_getElem? (i := 21) (by decide +kernel), List.mem_of_getElem? (i := 443) (by decide +kernel), List.mem_of_getElem? (i := 444) (by decide +kernel)⟩
theorem lw_p4 : lw_okq (⟨"ShakerSweep$State", "rampDown", "()V"⟩, 17) := ⟨⟨by decide +kernel, by decide +kernel⟩, List.mem_of_getElem? (i := 21) (by decide +kernel), List.mem_of_getElem? (i := 459) (by decide +kernel), List.mem_of_getElem? (i := 460) (by decide +kernel)⟩
theorem lw_p5 : lw_okq (⟨"ShakerSweep$State", "measureLevels", "(I)I"⟩, 17) := ⟨⟨by decide +kernel, by decide +kernel⟩, List.mem_of_getElem? (i := 21) (by decide +kernel), List.mem_of_getElem? (i := 463) (by decide +kernel), List.mem_of_getElem? (i := 464) (by decide +kernel)⟩
theorem lw_p6 : lw_okq (⟨"ShakerSweep$State", "controlLevel", "()I"⟩, 17) := ⟨⟨by decide +kernel, by decide +kernel⟩, List.mem_of_getElem? (i := 21) (by decide +kernel), List.mem_of_getElem? (i := 479) (by decide +kernel), List.mem_of_getElem? (i := 480) (by decide +kernel)⟩
theorem lw_p7 : lw_okq (⟨"ShakerSweep$State", "countLoop", "(I)I"⟩, 17) := ⟨⟨by decide +kernel, by decide +kernel⟩, List.mem_of_getElem? (i := 21) (by decide +kernel), List.mem_of_getElem? (i := 488) (by decide +kernel), List.mem_of_getElem? (i := 489) (by decide +kernel)⟩
theorem lw_p8 : lw_okq (⟨"ShakerSweep$State", "beginAbort", "(I)V"⟩, 17) := ⟨⟨by decide +kernel, by decide +kernel⟩, List.mem_of_getElem? (i := 21) (by decide +kernel), List.mem_of_getElem? (i := 501) (by decide +kernel), List.mem_of_getElem? (i := 502) (by decide +kernel)⟩
theorem lw_p9 : lw_okq (⟨"ShakerSweep$State", "nextLine", "()I"⟩, 17) := ⟨⟨by decide +kernel, by decide +kernel⟩, List.mem_of_getElem? (i := 21) (by decide +kernel), List.mem_of_getElem? (i := 505) (by decide +kernel), List.mem_of_getElem? (i := 506) (by decide +kernel)⟩
theorem lw_p10 : lw_okq (⟨"ShakerSweep$State", "lineAhead", "()I"⟩, 17) := ⟨⟨by decide +kernel, by decide +kernel⟩, List.mem_of_getElem? (i := 21) (by decide +kernel), List.mem_of_getElem? (i := 509) (by decide +kernel), List.mem_of_getElem? (i := 510) (by decide +kernel)⟩
theorem lw_p11 : lw_okq (⟨"ShakerSweep$State", "goTo", "(II)V"⟩, 17) := ⟨⟨by decide +kernel, by decide +kernel⟩, List.mem_of_getElem? (i := 21) (by decide +kernel), List.mem_of_getElem? (i := 517) (by decide +kernel), List.mem_of_getElem? (i := 518) (by decide +kernel)⟩
theorem lw_p12 : lw_okq (⟨"ShakerSweep$Profile", "between", "(III)I"⟩, 3) := ⟨⟨by decide +kernel, by decide +kernel⟩, List.mem_of_getElem? (i := 45) (by decide +kernel), List.mem_of_getElem? (i := 525) (by decide +kernel), List.mem_of_getElem? (i := 526) (by decide +kernel)⟩
theorem lw_p13 : lw_okq (⟨"ShakerSweep$State", "wantedDrive", "(III)J"⟩, 17) := ⟨⟨by decide +kernel, by decide +kernel⟩, List.mem_of_getElem? (i := 21) (by decide +kernel), List.mem_of_getElem? (i := 529) (by decide +kernel), List.mem_of_getElem? (i := 530) (by decide +kernel)⟩
theorem lw_p14 : lw_okq (⟨"ShakerSweep$Text", "here", "()I"⟩, 7) := ⟨⟨by decide +kernel, by decide +kernel⟩, List.mem_of_getElem? (i := 242) (by decide +kernel), List.mem_of_getElem? (i := 591) (by decide +kernel), List.mem_of_getElem? (i := 592) (by decide +kernel)⟩
theorem lw_p15 : lw_okq (⟨"ShakerSweep$Text", "readFirst", "(II)Z"⟩, 7) := ⟨⟨by decide +kernel, by decide +kernel⟩, List.mem_of_getElem? (i := 242) (by decide +kernel), List.mem_of_getElem? (i := 595) (by decide +kernel), List.mem_of_getElem? (i := 596) (by decide +kernel)⟩
def lw_privs_1 : List (MethodName × Nat) := [(⟨"ShakerSweep$State", "forgetRun", "()V"⟩, 17), (⟨"ShakerSweep$State", "forgetGains", "()V"⟩, 17), (⟨"ShakerSweep", "recorded", "(I)I"⟩, 6), (⟨"ShakerSweep$State", "reasonToRefuse", "()I"⟩, 17), (⟨"ShakerSweep$State", "rampDown", "()V"⟩, 17), (⟨"ShakerSweep$State", "measureLevels", "(I)I"⟩, 17), (⟨"ShakerSweep$State", "controlLevel", "()I"⟩, 17), (⟨"ShakerSweep$State", "countLoop", "(I)I"⟩, 17), (⟨"ShakerSweep$State", "beginAbort", "(I)V"⟩, 17), (⟨"ShakerSweep$State", "nextLine", "()I"⟩, 17), (⟨"ShakerSweep$State", "lineAhead", "()I"⟩, 17), (⟨"ShakerSweep$State", "goTo", "(II)V"⟩, 17), (⟨"ShakerSweep$Profile", "between", "(III)I"⟩, 3), (⟨"ShakerSweep$State", "wantedDrive", "(III)J"⟩, 17), (⟨"ShakerSweep$Text", "here", "()I"⟩, 7), (⟨"ShakerSweep$Text", "readFirst", "(II)Z"⟩, 7)]
theorem lw_r1 : ∀ q ∈ lw_privs_1, lw_okq q := List.forall_mem_cons.mpr ⟨lw_p0, List.forall_mem_cons.mpr ⟨lw_p1, List.forall_mem_cons.mpr ⟨lw_p2, List.forall_mem_cons.mpr ⟨lw_p3, List.forall_mem_cons.mpr ⟨lw_p4, List.forall_mem_cons.mpr ⟨lw_p5, List.forall_mem_cons.mpr ⟨lw_p6, List.forall_mem_cons.mpr ⟨lw_p7, List.forall_mem_cons.mpr ⟨lw_p8, List.forall_mem_cons.mpr ⟨lw_p9, List.forall_mem_cons.mpr ⟨lw_p10, List.forall_mem_cons.mpr ⟨lw_p11, List.forall_mem_cons.mpr ⟨lw_p12, List.forall_mem_cons.mpr ⟨lw_p13, List.forall_mem_cons.mpr ⟨lw_p14, List.forall_mem_cons.mpr ⟨lw_p15, fun _ h => absurd h List.not_mem_nil⟩⟩⟩⟩⟩⟩⟩⟩⟩⟩⟩⟩⟩⟩⟩⟩
theorem lw_p16 : lw_okq (⟨"ShakerSweep$Text", "readNumber", "(II)Z"⟩, 7) := ⟨⟨by decide +kernel, by decide +kernel⟩, List.mem_of_getElem? (i := 242) (by decide +kernel), List.mem_of_getElem? (i := 599) (by decide +kernel), List.mem_of_getElem? (i := 600) (by decide +kernel)⟩
theorem lw_p17 : lw_okq (⟨"ShakerSweep$Text", "readSign", "(I)Z"⟩, 7) := ⟨⟨by decide +kernel, by decide +kernel⟩, List.mem_of_getElem? (i := 242) (by decide +kernel), List.mem_of_getElem? (i := 603) (by decide +kernel), List.mem_of_getElem? (i := 604) (by decide +kernel)⟩
theorem lw_p18 : lw_okq (⟨"ShakerSweep$Text", "readSecond", "(II)Z"⟩, 7) := ⟨⟨by decide +kernel, by decide +kernel⟩, List.mem_of_getElem? (i := 242) (by decide +kernel), List.mem_of_getElem? (i := 607) (by decide +kernel), List.mem_of_getElem? (i := 608) (by decide +kernel)⟩
theorem lw_p19 : lw_okq (⟨"ShakerSweep", "carryOutAct", "()I"⟩, 6) := ⟨⟨by decide +kernel, by decide +kernel⟩, List.mem_of_getElem? (i := 13) (by decide +kernel), List.mem_of_getElem? (i := 617) (by decide +kernel), List.mem_of_getElem? (i := 618) (by decide +kernel)⟩
theorem lw_p20 : lw_okq (⟨"ShakerSweep", "lookAtLine", "([II)I"⟩, 6) := ⟨⟨by decide +kernel, by decide +kernel⟩, List.mem_of_getElem? (i := 13) (by decide +kernel), List.mem_of_getElem? (i := 645) (by decide +kernel), List.mem_of_getElem? (i := 646) (by decide +kernel)⟩
theorem lw_p21 : lw_okq (⟨"ShakerSweep$Channel", "isResonance", "(II)Z"⟩, 18) := ⟨⟨by decide +kernel, by decide +kernel⟩, List.mem_of_getElem? (i := 63) (by decide +kernel), List.mem_of_getElem? (i := 702) (by decide +kernel), List.mem_of_getElem? (i := 703) (by decide +kernel)⟩
theorem lw_p22 : lw_okq (⟨"ShakerSweep$Channel", "gainOfLine", "(II)I"⟩, 18) := ⟨⟨by decide +kernel, by decide +kernel⟩, List.mem_of_getElem? (i := 63) (by decide +kernel), List.mem_of_getElem? (i := 706) (by decide +kernel), List.mem_of_getElem? (i := 707) (by decide +kernel)⟩
theorem lw_p23 : lw_okq (⟨"ShakerSweep$Channel", "resonancesAhead", "(II)I"⟩, 18) := ⟨⟨by decide +kernel, by decide +kernel⟩, List.mem_of_getElem? (i := 63) (by decide +kernel), List.mem_of_getElem? (i := 710) (by decide +kernel), List.mem_of_getElem? (i := 711) (by decide +kernel)⟩
theorem lw_p24 : lw_okq (⟨"ShakerSweepModel", "forgets", "()V"⟩, 8) := ⟨⟨by decide +kernel, by decide +kernel⟩, List.mem_of_getElem? (i := 738) (by decide +kernel), List.mem_of_getElem? (i := 744) (by decide +kernel), List.mem_of_getElem? (i := 745) (by decide +kernel)⟩
theorem lw_p25 : lw_okq (⟨"ShakerSweepModel", "setChannel", "(III)V"⟩, 8) := ⟨⟨by decide +kernel, by decide +kernel⟩, List.mem_of_getElem? (i := 738) (by decide +kernel), List.mem_of_getElem? (i := 748) (by decide +kernel), List.mem_of_getElem? (i := 749) (by decide +kernel)⟩
theorem lw_p26 : lw_okq (⟨"ShakerSweepModel", "forgetsGains", "()V"⟩, 8) := ⟨⟨by decide +kernel, by decide +kernel⟩, List.mem_of_getElem? (i := 738) (by decide +kernel), List.mem_of_getElem? (i := 752) (by decide +kernel), List.mem_of_getElem? (i := 753) (by decide +kernel)⟩
theorem lw_p27 : lw_okq (⟨"ShakerSweepModel", "rests", "()Z"⟩, 8) := ⟨⟨by decide +kernel, by decide +kernel⟩, List.mem_of_getElem? (i := 738) (by decide +kernel), List.mem_of_getElem? (i := 788) (by decide +kernel), List.mem_of_getElem? (i := 789) (by decide +kernel)⟩
theorem lw_p28 : lw_okq (⟨"ShakerSweepModel", "records", "()V"⟩, 8) := ⟨⟨by decide +kernel, by decide +kernel⟩, List.mem_of_getElem? (i := 738) (by decide +kernel), List.mem_of_getElem? (i := 795) (by decide +kernel), List.mem_of_getElem? (i := 796) (by decide +kernel)⟩
theorem lw_p29 : lw_okq (⟨"ShakerSweepModel", "copies", "(II)V"⟩, 8) := ⟨⟨by decide +kernel, by decide +kernel⟩, List.mem_of_getElem? (i := 738) (by decide +kernel), List.mem_of_getElem? (i := 799) (by decide +kernel), List.mem_of_getElem? (i := 800) (by decide +kernel)⟩
theorem lw_p30 : lw_okq (⟨"ShakerSweepModel", "isChannel", "(I)Z"⟩, 8) := ⟨⟨by decide +kernel, by decide +kernel⟩, List.mem_of_getElem? (i := 738) (by decide +kernel), List.mem_of_getElem? (i := 817) (by decide +kernel), List.mem_of_getElem? (i := 818) (by decide +kernel)⟩
theorem lw_p31 : lw_okq (⟨"ShakerSweepModel", "gainOf", "(II)I"⟩, 8) := ⟨⟨by decide +kernel, by decide +kernel⟩, List.mem_of_getElem? (i := 738) (by decide +kernel), List.mem_of_getElem? (i := 821) (by decide +kernel), List.mem_of_getElem? (i := 822) (by decide +kernel)⟩
def lw_privs_2 : List (MethodName × Nat) := [(⟨"ShakerSweep$Text", "readNumber", "(II)Z"⟩, 7), (⟨"ShakerSweep$Text", "readSign", "(I)Z"⟩, 7), (⟨"ShakerSweep$Text", "readSecond", "(II)Z"⟩, 7), (⟨"ShakerSweep", "carryOutAct", "()I"⟩, 6), (⟨"ShakerSweep", "lookAtLine", "([II)I"⟩, 6), (⟨"ShakerSweep$Channel", "isResonance", "(II)Z"⟩, 18), (⟨"ShakerSweep$Channel", "gainOfLine", "(II)I"⟩, 18), (⟨"ShakerSweep$Channel", "resonancesAhead", "(II)I"⟩, 18), (⟨"ShakerSweepModel", "forgets", "()V"⟩, 8), (⟨"ShakerSweepModel", "setChannel", "(III)V"⟩, 8), (⟨"ShakerSweepModel", "forgetsGains", "()V"⟩, 8), (⟨"ShakerSweepModel", "rests", "()Z"⟩, 8), (⟨"ShakerSweepModel", "records", "()V"⟩, 8), (⟨"ShakerSweepModel", "copies", "(II)V"⟩, 8), (⟨"ShakerSweepModel", "isChannel", "(I)Z"⟩, 8), (⟨"ShakerSweepModel", "gainOf", "(II)I"⟩, 8)]
theorem lw_r2 : ∀ q ∈ lw_privs_2, lw_okq q := List.forall_mem_cons.mpr ⟨lw_p16, List.forall_mem_cons.mpr ⟨lw_p17, List.forall_mem_cons.mpr ⟨lw_p18, List.forall_mem_cons.mpr ⟨lw_p19, List.forall_mem_cons.mpr ⟨lw_p20, List.forall_mem_cons.mpr ⟨lw_p21, List.forall_mem_cons.mpr ⟨lw_p22, List.forall_mem_cons.mpr ⟨lw_p23, List.forall_mem_cons.mpr ⟨lw_p24, List.forall_mem_cons.mpr ⟨lw_p25, List.forall_mem_cons.mpr ⟨lw_p26, List.forall_mem_cons.mpr ⟨lw_p27, List.forall_mem_cons.mpr ⟨lw_p28, List.forall_mem_cons.mpr ⟨lw_p29, List.forall_mem_cons.mpr ⟨lw_p30, List.forall_mem_cons.mpr ⟨lw_p31, fun _ h => absurd h List.not_mem_nil⟩⟩⟩⟩⟩⟩⟩⟩⟩⟩⟩⟩⟩⟩⟩⟩
theorem lw_p32 : lw_okq (⟨"ShakerSweepModel", "ofChannel", "(II)I"⟩, 8) := ⟨⟨by decide +kernel, by decide +kernel⟩, List.mem_of_getElem? (i := 738) (by decide +kernel), List.mem_of_getElem? (i := 825) (by decide +kernel), List.mem_of_getElem? (i := 826) (by decide +kernel)⟩
theorem lw_p33 : lw_okq (⟨"ShakerSweepModel", "whyNotSet", "(II)I"⟩, 8) := ⟨⟨by decide +kernel, by decide +kernel⟩, List.mem_of_getElem? (i := 738) (by decide +kernel), List.mem_of_getElem? (i := 837) (by decide +kernel), List.mem_of_getElem? (i := 838) (by decide +kernel)⟩
theorem lw_p34 : lw_okq (⟨"ShakerSweepModel", "setting", "(I)I"⟩, 8) := ⟨⟨by decide +kernel, by decide +kernel⟩, List.mem_of_getElem? (i := 738) (by decide +kernel), List.mem_of_getElem? (i := 847) (by decide +kernel), List.mem_of_getElem? (i := 848) (by decide +kernel)⟩
theorem lw_p35 : lw_okq (⟨"ShakerSweepModel", "refusal", "()I"⟩, 8) := ⟨⟨by decide +kernel, by decide +kernel⟩, List.mem_of_getElem? (i := 738) (by decide +kernel), List.mem_of_getElem? (i := 855) (by decide +kernel), List.mem_of_getElem? (i := 856) (by decide +kernel)⟩
theorem lw_p36 : lw_okq (⟨"ShakerSweepModel", "starts", "(I)V"⟩, 8) := ⟨⟨by decide +kernel, by decide +kernel⟩, List.mem_of_getElem? (i := 738) (by decide +kernel), List.mem_of_getElem? (i := 859) (by decide +kernel), List.mem_of_getElem? (i := 860) (by decide +kernel)⟩
theorem lw_p37 : lw_okq (⟨"ShakerSweepModel", "loops", "(I)I"⟩, 8) := ⟨⟨by decide +kernel, by decide +kernel⟩, List.mem_of_getElem? (i := 738) (by decide +kernel), List.mem_of_getElem? (i := 867) (by decide +kernel), List.mem_of_getElem? (i := 868) (by decide +kernel)⟩
theorem lw_p38 : lw_okq (⟨"ShakerSweepModel", "loop", "()V"⟩, 8) := ⟨⟨by decide +kernel, by decide +kernel⟩, List.mem_of_getElem? (i := 738) (by decide +kernel), List.mem_of_getElem? (i := 871) (by decide +kernel), List.mem_of_getElem? (i := 872) (by decide +kernel)⟩
theorem lw_p39 : lw_okq (⟨"ShakerSweepModel", "measures", "()I"⟩, 8) := ⟨⟨by decide +kernel, by decide +kernel⟩, List.mem_of_getElem? (i := 738) (by decide +kernel), List.mem_of_getElem? (i := 875) (by decide +kernel), List.mem_of_getElem? (i := 876) (by decide +kernel)⟩
theorem lw_p40 : lw_okq (⟨"ShakerSweepModel", "averagedBy", "(II)I"⟩, 8) := ⟨⟨by decide +kernel, by decide +kernel⟩, List.mem_of_getElem? (i := 738) (by decide +kernel), List.mem_of_getElem? (i := 880) (by decide +kernel), List.mem_of_getElem? (i := 881) (by decide +kernel)⟩
theorem lw_p41 : lw_okq (⟨"ShakerSweepModel", "controlLevel", "()I"⟩, 8) := ⟨⟨by decide +kernel, by decide +kernel⟩, List.mem_of_getElem? (i := 738) (by decide +kernel), List.mem_of_getElem? (i := 884) (by decide +kernel), List.mem_of_getElem? (i := 885) (by decide +kernel)⟩
theorem lw_p42 : lw_okq (⟨"ShakerSweepModel", "watches", "()I"⟩, 8) := ⟨⟨by decide +kernel, by decide +kernel⟩, List.mem_of_getElem? (i := 738) (by decide +kernel), List.mem_of_getElem? (i := 888) (by decide +kernel), List.mem_of_getElem? (i := 889) (by decide +kernel)⟩
theorem lw_p43 : lw_okq (⟨"ShakerSweepModel", "limitOf", "(II)I"⟩, 8) := ⟨⟨by decide +kernel, by decide +kernel⟩, List.mem_of_getElem? (i := 738) (by decide +kernel), List.mem_of_getElem? (i := 892) (by decide +kernel), List.mem_of_getElem? (i := 893) (by decide +kernel)⟩
theorem lw_p44 : lw_okq (⟨"ShakerSweepModel", "isLine", "(I)Z"⟩, 8) := ⟨⟨by decide +kernel, by decide +kernel⟩, List.mem_of_getElem? (i := 738) (by decide +kernel), List.mem_of_getElem? (i := 899) (by decide +kernel), List.mem_of_getElem? (i := 900) (by decide +kernel)⟩
theorem lw_p45 : lw_okq (⟨"ShakerSweepModel", "goesTo", "(II)V"⟩, 8) := ⟨⟨by decide +kernel, by decide +kernel⟩, List.mem_of_getElem? (i := 738) (by decide +kernel), List.mem_of_getElem? (i := 903) (by decide +kernel), List.mem_of_getElem? (i := 904) (by decide +kernel)⟩
theorem lw_p46 : lw_okq (⟨"ShakerSweepModel", "targetOf", "(I)I"⟩, 8) := ⟨⟨by decide +kernel, by decide +kernel⟩, List.mem_of_getElem? (i := 738) (by decide +kernel), List.mem_of_getElem? (i := 908) (by decide +kernel), List.mem_of_getElem? (i := 909) (by decide +kernel)⟩
theorem lw_p47 : lw_okq (⟨"ShakerSweepModel", "canHold", "(Z)Z"⟩, 8) := ⟨⟨by decide +kernel, by decide +kernel⟩, List.mem_of_getElem? (i := 738) (by decide +kernel), List.mem_of_getElem? (i := 918) (by decide +kernel), List.mem_of_getElem? (i := 919) (by decide +kernel)⟩
def lw_privs_3 : List (MethodName × Nat) := [(⟨"ShakerSweepModel", "ofChannel", "(II)I"⟩, 8), (⟨"ShakerSweepModel", "whyNotSet", "(II)I"⟩, 8), (⟨"ShakerSweepModel", "setting", "(I)I"⟩, 8), (⟨"ShakerSweepModel", "refusal", "()I"⟩, 8), (⟨"ShakerSweepModel", "starts", "(I)V"⟩, 8), (⟨"ShakerSweepModel", "loops", "(I)I"⟩, 8), (⟨"ShakerSweepModel", "loop", "()V"⟩, 8), (⟨"ShakerSweepModel", "measures", "()I"⟩, 8), (⟨"ShakerSweepModel", "averagedBy", "(II)I"⟩, 8), (⟨"ShakerSweepModel", "controlLevel", "()I"⟩, 8), (⟨"ShakerSweepModel", "watches", "()I"⟩, 8), (⟨"ShakerSweepModel", "limitOf", "(II)I"⟩, 8), (⟨"ShakerSweepModel", "isLine", "(I)Z"⟩, 8), (⟨"ShakerSweepModel", "goesTo", "(II)V"⟩, 8), (⟨"ShakerSweepModel", "targetOf", "(I)I"⟩, 8), (⟨"ShakerSweepModel", "canHold", "(Z)Z"⟩, 8)]
theorem lw_r3 : ∀ q ∈ lw_privs_3, lw_okq q := List.forall_mem_cons.mpr ⟨lw_p32, List.forall_mem_cons.mpr ⟨lw_p33, List.forall_mem_cons.mpr ⟨lw_p34, List.forall_mem_cons.mpr ⟨lw_p35, List.forall_mem_cons.mpr ⟨lw_p36, List.forall_mem_cons.mpr ⟨lw_p37, List.forall_mem_cons.mpr ⟨lw_p38, List.forall_mem_cons.mpr ⟨lw_p39, List.forall_mem_cons.mpr ⟨lw_p40, List.forall_mem_cons.mpr ⟨lw_p41, List.forall_mem_cons.mpr ⟨lw_p42, List.forall_mem_cons.mpr ⟨lw_p43, List.forall_mem_cons.mpr ⟨lw_p44, List.forall_mem_cons.mpr ⟨lw_p45, List.forall_mem_cons.mpr ⟨lw_p46, List.forall_mem_cons.mpr ⟨lw_p47, fun _ h => absurd h List.not_mem_nil⟩⟩⟩⟩⟩⟩⟩⟩⟩⟩⟩⟩⟩⟩⟩⟩
theorem lw_p48 : lw_okq (⟨"ShakerSweepModel", "canAbort", "()Z"⟩, 8) := ⟨⟨by decide +kernel, by decide +kernel⟩, List.mem_of_getElem? (i := 738) (by decide +kernel), List.mem_of_getElem? (i := 926) (by decide +kernel), List.mem_of_getElem? (i := 927) (by decide +kernel)⟩
theorem lw_p49 : lw_okq (⟨"ShakerSweepModel", "aborts", "()V"⟩, 8) := ⟨⟨by decide +kernel, by decide +kernel⟩, List.mem_of_getElem? (i := 738) (by decide +kernel), List.mem_of_getElem? (i := 930) (by decide +kernel), List.mem_of_getElem? (i := 931) (by decide +kernel)⟩
theorem lw_p50 : lw_okq (⟨"ShakerSweepModel", "peek", "()I"⟩, 8) := ⟨⟨by decide +kernel, by decide +kernel⟩, List.mem_of_getElem? (i := 738) (by decide +kernel), List.mem_of_getElem? (i := 946) (by decide +kernel), List.mem_of_getElem? (i := 947) (by decide +kernel)⟩
theorem lw_p51 : lw_okq (⟨"ShakerSweepModel", "takesAct", "(I)Z"⟩, 8) := ⟨⟨by decide +kernel, by decide +kernel⟩, List.mem_of_getElem? (i := 738) (by decide +kernel), List.mem_of_getElem? (i := 953) (by decide +kernel), List.mem_of_getElem? (i := 954) (by decide +kernel)⟩
theorem lw_p52 : lw_okq (⟨"ShakerSweepModel", "takesNumber", "(II)Z"⟩, 8) := ⟨⟨by decide +kernel, by decide +kernel⟩, List.mem_of_getElem? (i := 738) (by decide +kernel), List.mem_of_getElem? (i := 957) (by decide +kernel), List.mem_of_getElem? (i := 958) (by decide +kernel)⟩
theorem lw_p53 : lw_okq (⟨"ShakerSweepModel", "takes", "(I)Z"⟩, 8) := ⟨⟨by decide +kernel, by decide +kernel⟩, List.mem_of_getElem? (i := 738) (by decide +kernel), List.mem_of_getElem? (i := 961) (by decide +kernel), List.mem_of_getElem? (i := 962) (by decide +kernel)⟩
theorem lw_p54 : lw_okq (⟨"ShakerSweepModel", "does", "(I)Z"⟩, 8) := ⟨⟨by decide +kernel, by decide +kernel⟩, List.mem_of_getElem? (i := 738) (by decide +kernel), List.mem_of_getElem? (i := 970) (by decide +kernel), List.mem_of_getElem? (i := 971) (by decide +kernel)⟩
theorem lw_p55 : lw_okq (⟨"ShakerSweepModel", "gainAt", "(II)I"⟩, 8) := ⟨⟨by decide +kernel, by decide +kernel⟩, List.mem_of_getElem? (i := 738) (by decide +kernel), List.mem_of_getElem? (i := 1030) (by decide +kernel), List.mem_of_getElem? (i := 1031) (by decide +kernel)⟩
theorem lw_p56 : lw_okq (⟨"ShakerSweepModel", "isResonance", "(II)Z"⟩, 8) := ⟨⟨by decide +kernel, by decide +kernel⟩, List.mem_of_getElem? (i := 738) (by decide +kernel), List.mem_of_getElem? (i := 1034) (by decide +kernel), List.mem_of_getElem? (i := 1035) (by decide +kernel)⟩
theorem lw_p57 : lw_okq (⟨"ShakerSweepModel", "putAside", "()V"⟩, 8) := ⟨⟨by decide +kernel, by decide +kernel⟩, List.mem_of_getElem? (i := 738) (by decide +kernel), List.mem_of_getElem? (i := 1046) (by decide +kernel), List.mem_of_getElem? (i := 1047) (by decide +kernel)⟩
theorem lw_p58 : lw_okq (⟨"ShakerSweepModel", "comesBack", "()V"⟩, 8) := ⟨⟨by decide +kernel, by decide +kernel⟩, List.mem_of_getElem? (i := 738) (by decide +kernel), List.mem_of_getElem? (i := 1050) (by decide +kernel), List.mem_of_getElem? (i := 1051) (by decide +kernel)⟩
def lw_privs_4 : List (MethodName × Nat) := [(⟨"ShakerSweepModel", "canAbort", "()Z"⟩, 8), (⟨"ShakerSweepModel", "aborts", "()V"⟩, 8), (⟨"ShakerSweepModel", "peek", "()I"⟩, 8), (⟨"ShakerSweepModel", "takesAct", "(I)Z"⟩, 8), (⟨"ShakerSweepModel", "takesNumber", "(II)Z"⟩, 8), (⟨"ShakerSweepModel", "takes", "(I)Z"⟩, 8), (⟨"ShakerSweepModel", "does", "(I)Z"⟩, 8), (⟨"ShakerSweepModel", "gainAt", "(II)I"⟩, 8), (⟨"ShakerSweepModel", "isResonance", "(II)Z"⟩, 8), (⟨"ShakerSweepModel", "putAside", "()V"⟩, 8), (⟨"ShakerSweepModel", "comesBack", "()V"⟩, 8)]
theorem lw_r4 : ∀ q ∈ lw_privs_4, lw_okq q := List.forall_mem_cons.mpr ⟨lw_p48, List.forall_mem_cons.mpr ⟨lw_p49, List.forall_mem_cons.mpr ⟨lw_p50, List.forall_mem_cons.mpr ⟨lw_p51, List.forall_mem_cons.mpr ⟨lw_p52, List.forall_mem_cons.mpr ⟨lw_p53, List.forall_mem_cons.mpr ⟨lw_p54, List.forall_mem_cons.mpr ⟨lw_p55, List.forall_mem_cons.mpr ⟨lw_p56, List.forall_mem_cons.mpr ⟨lw_p57, List.forall_mem_cons.mpr ⟨lw_p58, fun _ h => absurd h List.not_mem_nil⟩⟩⟩⟩⟩⟩⟩⟩⟩⟩⟩
def lw_privs : List (MethodName × Nat) := lw_privs_1 ++ (lw_privs_2 ++ (lw_privs_3 ++ (lw_privs_4)))
def lw_tbl : List Cond := k2_sels lw_privs ++ tables_1
theorem lw_privs_ok : ∀ q ∈ lw_privs, lw_okq q := by
  show ∀ q ∈ lw_privs_1 ++ (lw_privs_2 ++ (lw_privs_3 ++ (lw_privs_4))), lw_okq q
  exact List.forall_mem_append.mpr ⟨lw_r1, List.forall_mem_append.mpr ⟨lw_r2, List.forall_mem_append.mpr ⟨lw_r3, lw_r4⟩⟩⟩
-- ===== end of PART A; then your names; then what follows =====
end
section
def RX0 : String := "ShakerSweep$Channel"
def TX0 : u_T := fun k => match k with
  | 0 => ("ShakerSweep$Channel", "control", "Z", false)
  | 1 => ("ShakerSweep$Channel", "baseGain", "I", false)
  | 2 => ("ShakerSweep$Channel", "abortLimit", "I", false)
  | 3 => ("ShakerSweep$Channel", "centres", "[I", true)
  | 4 => ("ShakerSweep$Channel", "widths", "[I", true)
  | 5 => ("ShakerSweep$Channel", "peaks", "[I", true)
  | 6 => ("ShakerSweep$Channel", "froms", "[I", true)
  | 7 => ("ShakerSweep$Channel", "tos", "[I", true)
  | 8 => ("ShakerSweep$Channel", "limits", "[I", true)
  | 9 => ("ShakerSweep$Channel", "notches", "I", false)
  | 10 => ("ShakerSweep$Channel", "levels", "[I", true)
  | 11 => ("ShakerSweep$Channel", "averagedGains", "[I", true)
  | 12 => ("ShakerSweep$Channel", "latestLevel", "I", false)
  | 13 => ("ShakerSweep$Channel", "latestGain", "I", false)
  | 14 => ("ShakerSweep$Channel", "loopsAboveNotch", "I", false)
  | 15 => ("ShakerSweep$Channel", "mostLoopsAboveNotch", "I", false)
  | 16 => ("ShakerSweep$Channel", "greatestExcess", "I", false)
  | _ => ("ShakerSweep$Channel", "loopsAboveAbort", "I", false)
def tyX0 : Nat → FieldType := fun k => match k with
  | 0 => .boolean
  | 1 => .int
  | 2 => .int
  | 3 => .array .int
  | 4 => .array .int
  | 5 => .array .int
  | 6 => .array .int
  | 7 => .array .int
  | 8 => .array .int
  | 9 => .int
  | 10 => .array .int
  | 11 => .array .int
  | 12 => .int
  | 13 => .int
  | 14 => .int
  | 15 => .int
  | 16 => .int
  | _ => .int
abbrev wsX00 : List Cond := u_ws RX0 TX0 18
theorem nmX0 : ∀ a, a < 18 → ∀ b, b < 18 → a ≠ b → (TX0 a).2.1 ≠ (TX0 b).2.1 := by decide +kernel
theorem tyX0_ok : ∀ k, k < 18 → parseFieldDescriptor (TX0 k).2.2.1 = some (tyX0 k) := by decide +kernel
abbrev cX0_init : ByteArray := prog_2_method_1_code
def yX0_init : MethodName := ⟨RX0, "<init>", "()V"⟩
abbrev cX0_become : ByteArray := prog_2_method_2_code
def yX0_become : MethodName := ⟨RX0, "become", "(ZII)V"⟩
abbrev cX0_forgetRun : ByteArray := prog_2_method_3_code
def yX0_forgetRun : MethodName := ⟨RX0, "forgetRun", "()V"⟩
abbrev cX0_forgetGains : ByteArray := prog_2_method_4_code
def yX0_forgetGains : MethodName := ⟨RX0, "forgetGains", "()V"⟩
abbrev cX0_putMode : ByteArray := prog_2_method_5_code
def yX0_putMode : MethodName := ⟨RX0, "putMode", "(IIII)I"⟩
abbrev cX0_putNotch : ByteArray := prog_2_method_6_code
def yX0_putNotch : MethodName := ⟨RX0, "putNotch", "(III)I"⟩
abbrev cX0_gainAt : ByteArray := prog_2_method_7_code
def yX0_gainAt : MethodName := ⟨RX0, "gainAt", "(I)I"⟩
abbrev cX0_limitAt : ByteArray := prog_2_method_8_code
def yX0_limitAt : MethodName := ⟨RX0, "limitAt", "(I)I"⟩
abbrev cX0_measure : ByteArray := prog_2_method_9_code
def yX0_measure : MethodName := ⟨RX0, "measure", "(IIII)V"⟩
abbrev cX0_countLoop : ByteArray := prog_2_method_10_code
def yX0_countLoop : MethodName := ⟨RX0, "countLoop", "(I)V"⟩
abbrev cX0_notchedDrive : ByteArray := prog_2_method_11_code
def yX0_notchedDrive : MethodName := ⟨RX0, "notchedDrive", "(II)I"⟩
abbrev cX0_propertyOf : ByteArray := prog_2_method_12_code
def yX0_propertyOf : MethodName := ⟨RX0, "propertyOf", "(I)I"⟩
abbrev cX0_resonanceAt : ByteArray := prog_2_method_13_code
def yX0_resonanceAt : MethodName := ⟨RX0, "resonanceAt", "(II)I"⟩
abbrev cX0_resonancesAhead : ByteArray := prog_2_method_14_code
def yX0_resonancesAhead : MethodName := ⟨RX0, "resonancesAhead", "(II)I"⟩
abbrev cX0_isResonance : ByteArray := prog_2_method_15_code
def yX0_isResonance : MethodName := ⟨RX0, "isResonance", "(II)Z"⟩
abbrev cX0_gainOfLine : ByteArray := prog_2_method_16_code
def yX0_gainOfLine : MethodName := ⟨RX0, "gainOfLine", "(II)I"⟩
abbrev cX0_copyFrom : ByteArray := prog_2_method_17_code
def yX0_copyFrom : MethodName := ⟨RX0, "copyFrom", "(LShakerSweep$Channel;)V"⟩
def RX1 : String := "ShakerSweep$History"
def TX1 : u_T := fun k => match k with
  | 0 => ("ShakerSweep$History", "states", "[LShakerSweep$State;", true)
  | 1 => ("ShakerSweep$History", "noted", "I", false)
  | _ => ("ShakerSweep$History", "count", "I", false)
def tyX1 : Nat → FieldType := fun k => match k with
  | 0 => .array (.object "ShakerSweep$State")
  | 1 => .int
  | _ => .int
abbrev wsX10 : List Cond := u_ws RX1 TX1 3
theorem nmX1 : ∀ a, a < 3 → ∀ b, b < 3 → a ≠ b → (TX1 a).2.1 ≠ (TX1 b).2.1 := by decide +kernel
theorem tyX1_ok : ∀ k, k < 3 → parseFieldDescriptor (TX1 k).2.2.1 = some (tyX1 k) := by decide +kernel
abbrev cX1_init : ByteArray := prog_3_method_1_code
def yX1_init : MethodName := ⟨RX1, "<init>", "()V"⟩
abbrev cX1_note : ByteArray := prog_3_method_2_code
def yX1_note : MethodName := ⟨RX1, "note", "(LShakerSweep$State;)V"⟩
abbrev cX1_keepNoted : ByteArray := prog_3_method_3_code
def yX1_keepNoted : MethodName := ⟨RX1, "keepNoted", "()V"⟩
abbrev cX1_takeBack : ByteArray := prog_3_method_4_code
def yX1_takeBack : MethodName := ⟨RX1, "takeBack", "(LShakerSweep$State;)I"⟩
def RX2 : String := "ShakerSweep$Lines"
def TX2 : u_T := fun k => match k with
  | 0 => ("ShakerSweep$Lines", "frequencies", "[I", true)
  | _ => ("ShakerSweep$Lines", "count", "I", false)
def tyX2 : Nat → FieldType := fun k => match k with
  | 0 => .array .int
  | _ => .int
abbrev wsX20 : List Cond := u_ws RX2 TX2 2
theorem nmX2 : ∀ a, a < 2 → ∀ b, b < 2 → a ≠ b → (TX2 a).2.1 ≠ (TX2 b).2.1 := by decide +kernel
theorem tyX2_ok : ∀ k, k < 2 → parseFieldDescriptor (TX2 k).2.2.1 = some (tyX2 k) := by decide +kernel
abbrev cX2_init : ByteArray := prog_4_method_1_code
def yX2_init : MethodName := ⟨RX2, "<init>", "()V"⟩
abbrev cX2_countOf : ByteArray := prog_4_method_2_code
def yX2_countOf : MethodName := ⟨RX2, "countOf", "(III)I"⟩
abbrev cX2_above : ByteArray := prog_4_method_3_code
def yX2_above : MethodName := ⟨RX2, "above", "(II)I"⟩
abbrev cX2_lay : ByteArray := prog_4_method_4_code
def yX2_lay : MethodName := ⟨RX2, "lay", "(III)V"⟩
abbrev cX2_copyFrom : ByteArray := prog_4_method_5_code
def yX2_copyFrom : MethodName := ⟨RX2, "copyFrom", "(LShakerSweep$Lines;)V"⟩
def RX3 : String := "ShakerSweep$Profile"
def TX3 : u_T := fun k => match k with
  | 0 => ("ShakerSweep$Profile", "frequencies", "[I", true)
  | 1 => ("ShakerSweep$Profile", "levels", "[I", true)
  | _ => ("ShakerSweep$Profile", "count", "I", false)
def tyX3 : Nat → FieldType := fun k => match k with
  | 0 => .array .int
  | 1 => .array .int
  | _ => .int
abbrev wsX30 : List Cond := u_ws RX3 TX3 3
theorem nmX3 : ∀ a, a < 3 → ∀ b, b < 3 → a ≠ b → (TX3 a).2.1 ≠ (TX3 b).2.1 := by decide +kernel
theorem tyX3_ok : ∀ k, k < 3 → parseFieldDescriptor (TX3 k).2.2.1 = some (tyX3 k) := by decide +kernel
abbrev cX3_init : ByteArray := prog_5_method_1_code
def yX3_init : MethodName := ⟨RX3, "<init>", "()V"⟩
abbrev cX3_put : ByteArray := prog_5_method_2_code
def yX3_put : MethodName := ⟨RX3, "put", "(II)I"⟩
abbrev cX3_placeOf : ByteArray := prog_5_method_3_code
def yX3_placeOf : MethodName := ⟨RX3, "placeOf", "(I)I"⟩
abbrev cX3_targetAt : ByteArray := prog_5_method_4_code
def yX3_targetAt : MethodName := ⟨RX3, "targetAt", "(I)I"⟩
abbrev cX3_between : ByteArray := prog_5_method_5_code
def yX3_between : MethodName := ⟨RX3, "between", "(III)I"⟩
abbrev cX3_copyFrom : ByteArray := prog_5_method_6_code
def yX3_copyFrom : MethodName := ⟨RX3, "copyFrom", "(LShakerSweep$Profile;)V"⟩
def RX4 : String := "ShakerSweep$State"
def TX4 : u_T := fun k => match k with
  | 0 => ("ShakerSweep$State", "lines", "LShakerSweep$Lines;", true)
  | 1 => ("ShakerSweep$State", "profile", "LShakerSweep$Profile;", true)
  | 2 => ("ShakerSweep$State", "channels", "[LShakerSweep$Channel;", true)
  | 3 => ("ShakerSweep$State", "channelCount", "I", false)
  | 4 => ("ShakerSweep$State", "settings", "[I", true)
  | 5 => ("ShakerSweep$State", "controlGains", "[I", true)
  | 6 => ("ShakerSweep$State", "drives", "[I", true)
  | 7 => ("ShakerSweep$State", "notchers", "[I", true)
  | 8 => ("ShakerSweep$State", "phase", "I", false)
  | 9 => ("ShakerSweep$State", "line", "I", false)
  | 10 => ("ShakerSweep$State", "drive", "I", false)
  | 11 => ("ShakerSweep$State", "upwards", "Z", false)
  | 12 => ("ShakerSweep$State", "finishedSweeps", "I", false)
  | 13 => ("ShakerSweep$State", "loops", "I", false)
  | 14 => ("ShakerSweep$State", "abortChannel", "I", false)
  | 15 => ("ShakerSweep$State", "abortLine", "I", false)
  | _ => ("ShakerSweep$State", "reason", "I", false)
def tyX4 : Nat → FieldType := fun k => match k with
  | 0 => .object "ShakerSweep$Lines"
  | 1 => .object "ShakerSweep$Profile"
  | 2 => .array (.object "ShakerSweep$Channel")
  | 3 => .int
  | 4 => .array .int
  | 5 => .array .int
  | 6 => .array .int
  | 7 => .array .int
  | 8 => .int
  | 9 => .int
  | 10 => .int
  | 11 => .boolean
  | 12 => .int
  | 13 => .int
  | 14 => .int
  | 15 => .int
  | _ => .int
abbrev wsX40 : List Cond := u_ws RX4 TX4 17
theorem nmX4 : ∀ a, a < 17 → ∀ b, b < 17 → a ≠ b → (TX4 a).2.1 ≠ (TX4 b).2.1 := by decide +kernel
theorem tyX4_ok : ∀ k, k < 17 → parseFieldDescriptor (TX4 k).2.2.1 = some (tyX4 k) := by decide +kernel
abbrev cX4_init : ByteArray := prog_6_method_1_code
def yX4_init : MethodName := ⟨RX4, "<init>", "()V"⟩
abbrev cX4_hasLine : ByteArray := prog_6_method_2_code
def yX4_hasLine : MethodName := ⟨RX4, "hasLine", "(I)Z"⟩
abbrev cX4_hasChannel : ByteArray := prog_6_method_3_code
def yX4_hasChannel : MethodName := ⟨RX4, "hasChannel", "(I)Z"⟩
abbrev cX4_measures : ByteArray := prog_6_method_4_code
def yX4_measures : MethodName := ⟨RX4, "measures", "()Z"⟩
abbrev cX4_rests : ByteArray := prog_6_method_5_code
def yX4_rests : MethodName := ⟨RX4, "rests", "()Z"⟩
abbrev cX4_forgetRun : ByteArray := prog_6_method_6_code
def yX4_forgetRun : MethodName := ⟨RX4, "forgetRun", "()V"⟩
abbrev cX4_forgetGains : ByteArray := prog_6_method_7_code
def yX4_forgetGains : MethodName := ⟨RX4, "forgetGains", "()V"⟩
abbrev cX4_layLines : ByteArray := prog_6_method_8_code
def yX4_layLines : MethodName := ⟨RX4, "layLines", "(III)I"⟩
abbrev cX4_putPoint : ByteArray := prog_6_method_9_code
def yX4_putPoint : MethodName := ⟨RX4, "putPoint", "(II)I"⟩
abbrev cX4_joinChannel : ByteArray := prog_6_method_10_code
def yX4_joinChannel : MethodName := ⟨RX4, "joinChannel", "(ZII)I"⟩
abbrev cX4_changeSetting : ByteArray := prog_6_method_11_code
def yX4_changeSetting : MethodName := ⟨RX4, "changeSetting", "(II)I"⟩
abbrev cX4_begin : ByteArray := prog_6_method_12_code
def yX4_begin : MethodName := ⟨RX4, "begin", "(I)I"⟩
abbrev cX4_reasonToRefuse : ByteArray := prog_6_method_13_code
def yX4_reasonToRefuse : MethodName := ⟨RX4, "reasonToRefuse", "()I"⟩
abbrev cX4_holdOrGoOn : ByteArray := prog_6_method_14_code
def yX4_holdOrGoOn : MethodName := ⟨RX4, "holdOrGoOn", "(Z)I"⟩
abbrev cX4_abortByHand : ByteArray := prog_6_method_15_code
def yX4_abortByHand : MethodName := ⟨RX4, "abortByHand", "()I"⟩
abbrev cX4_beginAbort : ByteArray := prog_6_method_16_code
def yX4_beginAbort : MethodName := ⟨RX4, "beginAbort", "(I)V"⟩
abbrev cX4_doLoops : ByteArray := prog_6_method_17_code
def yX4_doLoops : MethodName := ⟨RX4, "doLoops", "(I)I"⟩
abbrev cX4_doLoop : ByteArray := prog_6_method_18_code
def yX4_doLoop : MethodName := ⟨RX4, "doLoop", "()V"⟩
abbrev cX4_rampDown : ByteArray := prog_6_method_19_code
def yX4_rampDown : MethodName := ⟨RX4, "rampDown", "()V"⟩
abbrev cX4_measureLevels : ByteArray := prog_6_method_20_code
def yX4_measureLevels : MethodName := ⟨RX4, "measureLevels", "(I)I"⟩
abbrev cX4_controlLevel : ByteArray := prog_6_method_21_code
def yX4_controlLevel : MethodName := ⟨RX4, "controlLevel", "()I"⟩
abbrev cX4_countLoop : ByteArray := prog_6_method_22_code
def yX4_countLoop : MethodName := ⟨RX4, "countLoop", "(I)I"⟩
abbrev cX4_nextLine : ByteArray := prog_6_method_23_code
def yX4_nextLine : MethodName := ⟨RX4, "nextLine", "()I"⟩
abbrev cX4_lineAhead : ByteArray := prog_6_method_24_code
def yX4_lineAhead : MethodName := ⟨RX4, "lineAhead", "()I"⟩
abbrev cX4_goTo : ByteArray := prog_6_method_25_code
def yX4_goTo : MethodName := ⟨RX4, "goTo", "(II)V"⟩
abbrev cX4_wantedDrive : ByteArray := prog_6_method_26_code
def yX4_wantedDrive : MethodName := ⟨RX4, "wantedDrive", "(III)J"⟩
abbrev cX4_totalOf : ByteArray := prog_6_method_27_code
def yX4_totalOf : MethodName := ⟨RX4, "totalOf", "(I)I"⟩
abbrev cX4_copyFrom : ByteArray := prog_6_method_28_code
def yX4_copyFrom : MethodName := ⟨RX4, "copyFrom", "(LShakerSweep$State;)V"⟩
def RX5 : String := "ShakerSweep$Text"
def TX5 : u_T := fun k => match k with
  | 0 => ("ShakerSweep$Text", "bytes", "[I", true)
  | 1 => ("ShakerSweep$Text", "length", "I", false)
  | 2 => ("ShakerSweep$Text", "at", "I", false)
  | 3 => ("ShakerSweep$Text", "act", "I", false)
  | 4 => ("ShakerSweep$Text", "number", "I", false)
  | 5 => ("ShakerSweep$Text", "first", "I", false)
  | _ => ("ShakerSweep$Text", "second", "I", false)
def tyX5 : Nat → FieldType := fun k => match k with
  | 0 => .array .int
  | 1 => .int
  | 2 => .int
  | 3 => .int
  | 4 => .int
  | 5 => .int
  | _ => .int
abbrev wsX50 : List Cond := u_ws RX5 TX5 7
theorem nmX5 : ∀ a, a < 7 → ∀ b, b < 7 → a ≠ b → (TX5 a).2.1 ≠ (TX5 b).2.1 := by decide +kernel
theorem tyX5_ok : ∀ k, k < 7 → parseFieldDescriptor (TX5 k).2.2.1 = some (tyX5 k) := by decide +kernel
abbrev cX5_init : ByteArray := prog_7_method_1_code
def yX5_init : MethodName := ⟨RX5, "<init>", "()V"⟩
abbrev cX5_add : ByteArray := prog_7_method_2_code
def yX5_add : MethodName := ⟨RX5, "add", "(I)I"⟩
abbrev cX5_rewind : ByteArray := prog_7_method_3_code
def yX5_rewind : MethodName := ⟨RX5, "rewind", "()V"⟩
abbrev cX5_findFault : ByteArray := prog_7_method_4_code
def yX5_findFault : MethodName := ⟨RX5, "findFault", "()I"⟩
abbrev cX5_readAct : ByteArray := prog_7_method_5_code
def yX5_readAct : MethodName := ⟨RX5, "readAct", "()Z"⟩
abbrev cX5_here : ByteArray := prog_7_method_6_code
def yX5_here : MethodName := ⟨RX5, "here", "()I"⟩
abbrev cX5_readSign : ByteArray := prog_7_method_7_code
def yX5_readSign : MethodName := ⟨RX5, "readSign", "(I)Z"⟩
abbrev cX5_readFirst : ByteArray := prog_7_method_8_code
def yX5_readFirst : MethodName := ⟨RX5, "readFirst", "(II)Z"⟩
abbrev cX5_readSecond : ByteArray := prog_7_method_9_code
def yX5_readSecond : MethodName := ⟨RX5, "readSecond", "(II)Z"⟩
abbrev cX5_readNumber : ByteArray := prog_7_method_10_code
def yX5_readNumber : MethodName := ⟨RX5, "readNumber", "(II)Z"⟩
def RX6 : String := "ShakerSweep"
def TX6 : u_T := fun k => match k with
  | 0 => ("ShakerSweep", "present", "LShakerSweep$State;", true)
  | 1 => ("ShakerSweep", "forecast", "LShakerSweep$State;", true)
  | 2 => ("ShakerSweep", "history", "LShakerSweep$History;", true)
  | 3 => ("ShakerSweep", "slots", "[LShakerSweep$State;", true)
  | 4 => ("ShakerSweep", "slotFilled", "[Z", true)
  | _ => ("ShakerSweep", "text", "LShakerSweep$Text;", true)
def tyX6 : Nat → FieldType := fun k => match k with
  | 0 => .object "ShakerSweep$State"
  | 1 => .object "ShakerSweep$State"
  | 2 => .object "ShakerSweep$History"
  | 3 => .array (.object "ShakerSweep$State")
  | 4 => .array .boolean
  | _ => .object "ShakerSweep$Text"
abbrev wsX60 : List Cond := u_ws RX6 TX6 6
theorem nmX6 : ∀ a, a < 6 → ∀ b, b < 6 → a ≠ b → (TX6 a).2.1 ≠ (TX6 b).2.1 := by decide +kernel
theorem tyX6_ok : ∀ k, k < 6 → parseFieldDescriptor (TX6 k).2.2.1 = some (tyX6 k) := by decide +kernel
abbrev cX6_init : ByteArray := prog_1_method_1_code
def yX6_init : MethodName := ⟨RX6, "<init>", "()V"⟩
abbrev cX6_setLines : ByteArray := prog_1_method_2_code
def yX6_setLines : MethodName := ⟨RX6, "setLines", "(III)I"⟩
abbrev cX6_setPoint : ByteArray := prog_1_method_3_code
def yX6_setPoint : MethodName := ⟨RX6, "setPoint", "(II)I"⟩
abbrev cX6_addChannel : ByteArray := prog_1_method_4_code
def yX6_addChannel : MethodName := ⟨RX6, "addChannel", "(ZII)I"⟩
abbrev cX6_setMode : ByteArray := prog_1_method_5_code
def yX6_setMode : MethodName := ⟨RX6, "setMode", "(IIIII)I"⟩
abbrev cX6_addNotch : ByteArray := prog_1_method_6_code
def yX6_addNotch : MethodName := ⟨RX6, "addNotch", "(IIII)I"⟩
abbrev cX6_set : ByteArray := prog_1_method_7_code
def yX6_set : MethodName := ⟨RX6, "set", "(II)I"⟩
abbrev cX6_start : ByteArray := prog_1_method_8_code
def yX6_start : MethodName := ⟨RX6, "start", "(I)I"⟩
abbrev cX6_step : ByteArray := prog_1_method_9_code
def yX6_step : MethodName := ⟨RX6, "step", "(I)I"⟩
abbrev cX6_hold : ByteArray := prog_1_method_10_code
def yX6_hold : MethodName := ⟨RX6, "hold", "(Z)I"⟩
abbrev cX6_abort : ByteArray := prog_1_method_11_code
def yX6_abort : MethodName := ⟨RX6, "abort", "()I"⟩
abbrev cX6_append : ByteArray := prog_1_method_12_code
def yX6_append : MethodName := ⟨RX6, "append", "(I)I"⟩
abbrev cX6_clearText : ByteArray := prog_1_method_13_code
def yX6_clearText : MethodName := ⟨RX6, "clearText", "()I"⟩
abbrev cX6_faultPosition : ByteArray := prog_1_method_14_code
def yX6_faultPosition : MethodName := ⟨RX6, "faultPosition", "()I"⟩
abbrev cX6_run : ByteArray := prog_1_method_15_code
def yX6_run : MethodName := ⟨RX6, "run", "()I"⟩
abbrev cX6_carryOutAct : ByteArray := prog_1_method_16_code
def yX6_carryOutAct : MethodName := ⟨RX6, "carryOutAct", "()I"⟩
abbrev cX6_undo : ByteArray := prog_1_method_17_code
def yX6_undo : MethodName := ⟨RX6, "undo", "()I"⟩
abbrev cX6_save : ByteArray := prog_1_method_18_code
def yX6_save : MethodName := ⟨RX6, "save", "(I)I"⟩
abbrev cX6_restore : ByteArray := prog_1_method_19_code
def yX6_restore : MethodName := ⟨RX6, "restore", "(I)I"⟩
abbrev cX6_isSlot : ByteArray := prog_1_method_20_code
def yX6_isSlot : MethodName := ⟨RX6, "isSlot", "(I)Z"⟩
abbrev cX6_recorded : ByteArray := prog_1_method_21_code
def yX6_recorded : MethodName := ⟨RX6, "recorded", "(I)I"⟩
abbrev cX6_frequency : ByteArray := prog_1_method_22_code
def yX6_frequency : MethodName := ⟨RX6, "frequency", "(I)I"⟩
abbrev cX6_target : ByteArray := prog_1_method_23_code
def yX6_target : MethodName := ⟨RX6, "target", "(I)I"⟩
abbrev cX6_gain : ByteArray := prog_1_method_24_code
def yX6_gain : MethodName := ⟨RX6, "gain", "(II)I"⟩
abbrev cX6_limit : ByteArray := prog_1_method_25_code
def yX6_limit : MethodName := ⟨RX6, "limit", "(II)I"⟩
abbrev cX6_channel : ByteArray := prog_1_method_26_code
def yX6_channel : MethodName := ⟨RX6, "channel", "(II)I"⟩
abbrev cX6_level : ByteArray := prog_1_method_27_code
def yX6_level : MethodName := ⟨RX6, "level", "(II)I"⟩
abbrev cX6_averaged : ByteArray := prog_1_method_28_code
def yX6_averaged : MethodName := ⟨RX6, "averaged", "(II)I"⟩
abbrev cX6_controlGain : ByteArray := prog_1_method_29_code
def yX6_controlGain : MethodName := ⟨RX6, "controlGain", "(I)I"⟩
abbrev cX6_driveAt : ByteArray := prog_1_method_30_code
def yX6_driveAt : MethodName := ⟨RX6, "driveAt", "(I)I"⟩
abbrev cX6_notchedBy : ByteArray := prog_1_method_31_code
def yX6_notchedBy : MethodName := ⟨RX6, "notchedBy", "(I)I"⟩
abbrev cX6_resonance : ByteArray := prog_1_method_32_code
def yX6_resonance : MethodName := ⟨RX6, "resonance", "(II)I"⟩
abbrev cX6_total : ByteArray := prog_1_method_33_code
def yX6_total : MethodName := ⟨RX6, "total", "(I)I"⟩
abbrev cX6_lookAtLine : ByteArray := prog_1_method_34_code
def yX6_lookAtLine : MethodName := ⟨RX6, "lookAtLine", "([II)I"⟩
abbrev cX6_loopsLeft : ByteArray := prog_1_method_35_code
def yX6_loopsLeft : MethodName := ⟨RX6, "loopsLeft", "()I"⟩
abbrev cX6_wouldAbort : ByteArray := prog_1_method_36_code
def yX6_wouldAbort : MethodName := ⟨RX6, "wouldAbort", "(I)I"⟩
abbrev cX6_highest : ByteArray := prog_1_method_37_code
def yX6_highest : MethodName := ⟨RX6, "highest", "(II)I"⟩
abbrev cX6_isWithin : ByteArray := prog_1_method_38_code
def yX6_isWithin : MethodName := ⟨RX6, "isWithin", "(III)Z"⟩
abbrev cX6_isFrequency : ByteArray := prog_1_method_39_code
def yX6_isFrequency : MethodName := ⟨RX6, "isFrequency", "(I)Z"⟩
abbrev cX6_copyRow : ByteArray := prog_1_method_40_code
def yX6_copyRow : MethodName := ⟨RX6, "copyRow", "([I[I)V"⟩
abbrev cX6_measuredGain : ByteArray := prog_1_method_41_code
def yX6_measuredGain : MethodName := ⟨RX6, "measuredGain", "(II)I"⟩
abbrev cX6_averagedGain : ByteArray := prog_1_method_42_code
def yX6_averagedGain : MethodName := ⟨RX6, "averagedGain", "(III)I"⟩
def RX7 : String := "ShakerSweepModel"
def TX7 : u_T := fun k => match k with
  | 0 => ("ShakerSweepModel", "row", "[I", true)
  | 1 => ("ShakerSweepModel", "kept", "I", false)
  | 2 => ("ShakerSweepModel", "isSaved", "[Z", true)
  | 3 => ("ShakerSweepModel", "text", "[I", true)
  | 4 => ("ShakerSweepModel", "length", "I", false)
  | 5 => ("ShakerSweepModel", "measured", "[I", true)
  | 6 => ("ShakerSweepModel", "at", "I", false)
  | _ => ("ShakerSweepModel", "number", "I", false)
def tyX7 : Nat → FieldType := fun k => match k with
  | 0 => .array .int
  | 1 => .int
  | 2 => .array .boolean
  | 3 => .array .int
  | 4 => .int
  | 5 => .array .int
  | 6 => .int
  | _ => .int
abbrev wsX70 : List Cond := u_ws RX7 TX7 8
theorem nmX7 : ∀ a, a < 8 → ∀ b, b < 8 → a ≠ b → (TX7 a).2.1 ≠ (TX7 b).2.1 := by decide +kernel
theorem tyX7_ok : ∀ k, k < 8 → parseFieldDescriptor (TX7 k).2.2.1 = some (tyX7 k) := by decide +kernel
abbrev cX7_init : ByteArray := prog_9_method_1_code
def yX7_init : MethodName := ⟨RX7, "<init>", "()V"⟩
abbrev cX7_in : ByteArray := prog_9_method_2_code
def yX7_in : MethodName := ⟨RX7, "in", "(III)Z"⟩
abbrev cX7_copies : ByteArray := prog_9_method_3_code
def yX7_copies : MethodName := ⟨RX7, "copies", "(II)V"⟩
abbrev cX7_records : ByteArray := prog_9_method_4_code
def yX7_records : MethodName := ⟨RX7, "records", "()V"⟩
abbrev cX7_forgets : ByteArray := prog_9_method_5_code
def yX7_forgets : MethodName := ⟨RX7, "forgets", "()V"⟩
abbrev cX7_forgetsGains : ByteArray := prog_9_method_6_code
def yX7_forgetsGains : MethodName := ⟨RX7, "forgetsGains", "()V"⟩
abbrev cX7_ofChannel : ByteArray := prog_9_method_7_code
def yX7_ofChannel : MethodName := ⟨RX7, "ofChannel", "(II)I"⟩
abbrev cX7_setChannel : ByteArray := prog_9_method_8_code
def yX7_setChannel : MethodName := ⟨RX7, "setChannel", "(III)V"⟩
abbrev cX7_isLine : ByteArray := prog_9_method_9_code
def yX7_isLine : MethodName := ⟨RX7, "isLine", "(I)Z"⟩
abbrev cX7_isChannel : ByteArray := prog_9_method_10_code
def yX7_isChannel : MethodName := ⟨RX7, "isChannel", "(I)Z"⟩
abbrev cX7_rests : ByteArray := prog_9_method_11_code
def yX7_rests : MethodName := ⟨RX7, "rests", "()Z"⟩
abbrev cX7_setting : ByteArray := prog_9_method_12_code
def yX7_setting : MethodName := ⟨RX7, "setting", "(I)I"⟩
abbrev cX7_setLines : ByteArray := prog_9_method_13_code
def yX7_setLines : MethodName := ⟨RX7, "setLines", "(III)I"⟩
abbrev cX7_next : ByteArray := prog_9_method_14_code
def yX7_next : MethodName := ⟨RX7, "next", "(II)I"⟩
abbrev cX7_setPoint : ByteArray := prog_9_method_15_code
def yX7_setPoint : MethodName := ⟨RX7, "setPoint", "(II)I"⟩
abbrev cX7_addChannel : ByteArray := prog_9_method_16_code
def yX7_addChannel : MethodName := ⟨RX7, "addChannel", "(ZII)I"⟩
abbrev cX7_setMode : ByteArray := prog_9_method_17_code
def yX7_setMode : MethodName := ⟨RX7, "setMode", "(IIIII)I"⟩
abbrev cX7_addNotch : ByteArray := prog_9_method_18_code
def yX7_addNotch : MethodName := ⟨RX7, "addNotch", "(IIII)I"⟩
abbrev cX7_least : ByteArray := prog_9_method_19_code
def yX7_least : MethodName := ⟨RX7, "least", "(I)I"⟩
abbrev cX7_most : ByteArray := prog_9_method_20_code
def yX7_most : MethodName := ⟨RX7, "most", "(I)I"⟩
abbrev cX7_whyNotSet : ByteArray := prog_9_method_21_code
def yX7_whyNotSet : MethodName := ⟨RX7, "whyNotSet", "(II)I"⟩
abbrev cX7_set : ByteArray := prog_9_method_22_code
def yX7_set : MethodName := ⟨RX7, "set", "(II)I"⟩
abbrev cX7_targetOf : ByteArray := prog_9_method_23_code
def yX7_targetOf : MethodName := ⟨RX7, "targetOf", "(I)I"⟩
abbrev cX7_gainOf : ByteArray := prog_9_method_24_code
def yX7_gainOf : MethodName := ⟨RX7, "gainOf", "(II)I"⟩
abbrev cX7_limitOf : ByteArray := prog_9_method_25_code
def yX7_limitOf : MethodName := ⟨RX7, "limitOf", "(II)I"⟩
abbrev cX7_refusal : ByteArray := prog_9_method_26_code
def yX7_refusal : MethodName := ⟨RX7, "refusal", "()I"⟩
abbrev cX7_starts : ByteArray := prog_9_method_27_code
def yX7_starts : MethodName := ⟨RX7, "starts", "(I)V"⟩
abbrev cX7_start : ByteArray := prog_9_method_28_code
def yX7_start : MethodName := ⟨RX7, "start", "(I)I"⟩
abbrev cX7_averagedBy : ByteArray := prog_9_method_29_code
def yX7_averagedBy : MethodName := ⟨RX7, "averagedBy", "(II)I"⟩
abbrev cX7_controlLevel : ByteArray := prog_9_method_30_code
def yX7_controlLevel : MethodName := ⟨RX7, "controlLevel", "()I"⟩
abbrev cX7_measures : ByteArray := prog_9_method_31_code
def yX7_measures : MethodName := ⟨RX7, "measures", "()I"⟩
abbrev cX7_watches : ByteArray := prog_9_method_32_code
def yX7_watches : MethodName := ⟨RX7, "watches", "()I"⟩
abbrev cX7_greater : ByteArray := prog_9_method_33_code
def yX7_greater : MethodName := ⟨RX7, "greater", "(II)I"⟩
abbrev cX7_loop : ByteArray := prog_9_method_34_code
def yX7_loop : MethodName := ⟨RX7, "loop", "()V"⟩
abbrev cX7_goesTo : ByteArray := prog_9_method_35_code
def yX7_goesTo : MethodName := ⟨RX7, "goesTo", "(II)V"⟩
abbrev cX7_loops : ByteArray := prog_9_method_36_code
def yX7_loops : MethodName := ⟨RX7, "loops", "(I)I"⟩
abbrev cX7_step : ByteArray := prog_9_method_37_code
def yX7_step : MethodName := ⟨RX7, "step", "(I)I"⟩
abbrev cX7_canHold : ByteArray := prog_9_method_38_code
def yX7_canHold : MethodName := ⟨RX7, "canHold", "(Z)Z"⟩
abbrev cX7_hold : ByteArray := prog_9_method_39_code
def yX7_hold : MethodName := ⟨RX7, "hold", "(Z)I"⟩
abbrev cX7_canAbort : ByteArray := prog_9_method_40_code
def yX7_canAbort : MethodName := ⟨RX7, "canAbort", "()Z"⟩
abbrev cX7_aborts : ByteArray := prog_9_method_41_code
def yX7_aborts : MethodName := ⟨RX7, "aborts", "()V"⟩
abbrev cX7_abort : ByteArray := prog_9_method_42_code
def yX7_abort : MethodName := ⟨RX7, "abort", "()I"⟩
abbrev cX7_append : ByteArray := prog_9_method_43_code
def yX7_append : MethodName := ⟨RX7, "append", "(I)I"⟩
abbrev cX7_clearText : ByteArray := prog_9_method_44_code
def yX7_clearText : MethodName := ⟨RX7, "clearText", "()I"⟩
abbrev cX7_peek : ByteArray := prog_9_method_45_code
def yX7_peek : MethodName := ⟨RX7, "peek", "()I"⟩
abbrev cX7_takes : ByteArray := prog_9_method_46_code
def yX7_takes : MethodName := ⟨RX7, "takes", "(I)Z"⟩
abbrev cX7_takesNumber : ByteArray := prog_9_method_47_code
def yX7_takesNumber : MethodName := ⟨RX7, "takesNumber", "(II)Z"⟩
abbrev cX7_takesAct : ByteArray := prog_9_method_48_code
def yX7_takesAct : MethodName := ⟨RX7, "takesAct", "(I)Z"⟩
abbrev cX7_isLetter : ByteArray := prog_9_method_49_code
def yX7_isLetter : MethodName := ⟨RX7, "isLetter", "(I)Z"⟩
abbrev cX7_faultPosition : ByteArray := prog_9_method_50_code
def yX7_faultPosition : MethodName := ⟨RX7, "faultPosition", "()I"⟩
abbrev cX7_does : ByteArray := prog_9_method_51_code
def yX7_does : MethodName := ⟨RX7, "does", "(I)Z"⟩
abbrev cX7_run : ByteArray := prog_9_method_52_code
def yX7_run : MethodName := ⟨RX7, "run", "()I"⟩
abbrev cX7_undo : ByteArray := prog_9_method_53_code
def yX7_undo : MethodName := ⟨RX7, "undo", "()I"⟩
abbrev cX7_save : ByteArray := prog_9_method_54_code
def yX7_save : MethodName := ⟨RX7, "save", "(I)I"⟩
abbrev cX7_restore : ByteArray := prog_9_method_55_code
def yX7_restore : MethodName := ⟨RX7, "restore", "(I)I"⟩
abbrev cX7_frequency : ByteArray := prog_9_method_56_code
def yX7_frequency : MethodName := ⟨RX7, "frequency", "(I)I"⟩
abbrev cX7_target : ByteArray := prog_9_method_57_code
def yX7_target : MethodName := ⟨RX7, "target", "(I)I"⟩
abbrev cX7_gain : ByteArray := prog_9_method_58_code
def yX7_gain : MethodName := ⟨RX7, "gain", "(II)I"⟩
abbrev cX7_limit : ByteArray := prog_9_method_59_code
def yX7_limit : MethodName := ⟨RX7, "limit", "(II)I"⟩
abbrev cX7_channel : ByteArray := prog_9_method_60_code
def yX7_channel : MethodName := ⟨RX7, "channel", "(II)I"⟩
abbrev cX7_level : ByteArray := prog_9_method_61_code
def yX7_level : MethodName := ⟨RX7, "level", "(II)I"⟩
abbrev cX7_averaged : ByteArray := prog_9_method_62_code
def yX7_averaged : MethodName := ⟨RX7, "averaged", "(II)I"⟩
abbrev cX7_controlGain : ByteArray := prog_9_method_63_code
def yX7_controlGain : MethodName := ⟨RX7, "controlGain", "(I)I"⟩
abbrev cX7_driveAt : ByteArray := prog_9_method_64_code
def yX7_driveAt : MethodName := ⟨RX7, "driveAt", "(I)I"⟩
abbrev cX7_notchedBy : ByteArray := prog_9_method_65_code
def yX7_notchedBy : MethodName := ⟨RX7, "notchedBy", "(I)I"⟩
abbrev cX7_gainAt : ByteArray := prog_9_method_66_code
def yX7_gainAt : MethodName := ⟨RX7, "gainAt", "(II)I"⟩
abbrev cX7_isResonance : ByteArray := prog_9_method_67_code
def yX7_isResonance : MethodName := ⟨RX7, "isResonance", "(II)Z"⟩
abbrev cX7_resonance : ByteArray := prog_9_method_68_code
def yX7_resonance : MethodName := ⟨RX7, "resonance", "(II)I"⟩
abbrev cX7_total : ByteArray := prog_9_method_69_code
def yX7_total : MethodName := ⟨RX7, "total", "(I)I"⟩
abbrev cX7_putAside : ByteArray := prog_9_method_70_code
def yX7_putAside : MethodName := ⟨RX7, "putAside", "()V"⟩
abbrev cX7_comesBack : ByteArray := prog_9_method_71_code
def yX7_comesBack : MethodName := ⟨RX7, "comesBack", "()V"⟩
abbrev cX7_loopsLeft : ByteArray := prog_9_method_72_code
def yX7_loopsLeft : MethodName := ⟨RX7, "loopsLeft", "()I"⟩
abbrev cX7_wouldAbort : ByteArray := prog_9_method_73_code
def yX7_wouldAbort : MethodName := ⟨RX7, "wouldAbort", "(I)I"⟩
abbrev cX7_highest : ByteArray := prog_9_method_74_code
def yX7_highest : MethodName := ⟨RX7, "highest", "(II)I"⟩
def RJ9 : String := "java/lang/Math"
def TJ9 : u_T := fun k => match k with
  | _ => ("", "", "", false)
def tyJ9 : Nat → FieldType := fun k => match k with
  | _ => .int
abbrev wsJ90 : List Cond := u_ws RJ9 TJ9 0
theorem nmJ9 : ∀ a, a < 0 → ∀ b, b < 0 → a ≠ b → (TJ9 a).2.1 ≠ (TJ9 b).2.1 := by decide +kernel
theorem tyJ9_ok : ∀ k, k < 0 → parseFieldDescriptor (TJ9 k).2.2.1 = some (tyJ9 k) := by decide +kernel
abbrev cJ9_max_7cf53 : ByteArray := prog_10_method_65_code
def yJ9_max_7cf53 : MethodName := ⟨RJ9, "max", "(II)I"⟩
abbrev cJ9_max_f86c9 : ByteArray := prog_10_method_66_code
def yJ9_max_f86c9 : MethodName := ⟨RJ9, "max", "(JJ)J"⟩
abbrev cJ9_min_7cf53 : ByteArray := prog_10_method_69_code
def yJ9_min_7cf53 : MethodName := ⟨RJ9, "min", "(II)I"⟩
abbrev cJ9_min_f86c9 : ByteArray := prog_10_method_70_code
def yJ9_min_f86c9 : MethodName := ⟨RJ9, "min", "(JJ)J"⟩
def RJ10 : String := "java/lang/System"
def TJ10 : u_T := fun k => match k with
  | _ => ("", "", "", false)
def tyJ10 : Nat → FieldType := fun k => match k with
  | _ => .int
abbrev wsJ100 : List Cond := u_ws RJ10 TJ10 0
theorem nmJ10 : ∀ a, a < 0 → ∀ b, b < 0 → a ≠ b → (TJ10 a).2.1 ≠ (TJ10 b).2.1 := by decide +kernel
theorem tyJ10_ok : ∀ k, k < 0 → parseFieldDescriptor (TJ10 k).2.2.1 = some (tyJ10 k) := by decide +kernel
def RJ7 : String := "java/util/Arrays"
def TJ7 : u_T := fun k => match k with
  | _ => ("", "", "", false)
def tyJ7 : Nat → FieldType := fun k => match k with
  | _ => .int
abbrev wsJ70 : List Cond := u_ws RJ7 TJ7 0
theorem nmJ7 : ∀ a, a < 0 → ∀ b, b < 0 → a ≠ b → (TJ7 a).2.1 ≠ (TJ7 b).2.1 := by decide +kernel
theorem tyJ7_ok : ∀ k, k < 0 → parseFieldDescriptor (TJ7 k).2.2.1 = some (tyJ7 k) := by decide +kernel
abbrev cJ7_fill_53178 : ByteArray := prog_12_method_103_code
def yJ7_fill_53178 : MethodName := ⟨RJ7, "fill", "([II)V"⟩
def RL : String := "ShakerSweepLaw"
abbrev cL_law : ByteArray := code
def yL_law : MethodName := ⟨RL, "law", "([I)Z"⟩
abbrev vwCl : List vw_C := [(RX0, TX0, 18), (RX1, TX1, 3), (RX2, TX2, 2), (RX3, TX3, 3), (RX4, TX4, 17), (RX5, TX5, 7), (RX6, TX6, 6), (RX7, TX7, 8)]
end
section
/-! words of the tables, by their places -/
def isNest (w : Cond) : Bool := match w with
  | .methodLinkNest _ _ _ _ => true
  | .fieldLinkNest _ _ _ _ _ _ => true
  | _ => false
def tblA : List Cond := lw_tbl.filter (fun w => goodWord w || isNest w)
def tblG : List Cond := lw_tbl.filter goodWord
theorem tA {w : Cond} (h : w ∈ lw_tbl) (h2 : (goodWord w || isNest w) = true) : w ∈ tblA := List.mem_filter.mpr ⟨h, h2⟩
theorem mMathI : Cond.initialized "java/lang/Math" ∈ tblA := tA (List.mem_of_getElem? (i := 65) (by decide +kernel)) rfl
theorem mMaxS : Cond.static Lib.Math.max.name ∈ tblA := tA (List.mem_of_getElem? (i := 401) (by decide +kernel)) rfl
theorem mMaxC : Cond.code Lib.Math.max.name Lib.Math.max.code 2 (some .int) ∈ tblA := tA (List.mem_of_getElem? (i := 402) (by decide +kernel)) rfl
theorem mMinS : Cond.static Lib.Math.min.name ∈ tblA := tA (List.mem_of_getElem? (i := 194) (by decide +kernel)) rfl
theorem mMinC : Cond.code Lib.Math.min.name Lib.Math.min.code 2 (some .int) ∈ tblA := tA (List.mem_of_getElem? (i := 195) (by decide +kernel)) rfl
theorem mMaxLS : Cond.static Lib.MathLoose.max_long.x ∈ tblA := tA (List.mem_of_getElem? (i := 594) (by decide +kernel)) rfl
theorem mMaxLC : Cond.code Lib.MathLoose.max_long.x Lib.MathLoose.max_long.code 4 (some .long) ∈ tblA := tA (List.mem_of_getElem? (i := 595) (by decide +kernel)) rfl
theorem mMinLS : Cond.static Lib.MathLoose.min_long.x ∈ tblA := tA (List.mem_of_getElem? (i := 597) (by decide +kernel)) rfl
theorem mMinLC : Cond.code Lib.MathLoose.min_long.x Lib.MathLoose.min_long.code 4 (some .long) ∈ tblA := tA (List.mem_of_getElem? (i := 598) (by decide +kernel)) rfl
theorem mAcN : Cond.native arraycopyName ∈ tblA := tA (List.mem_of_getElem? (i := 198) (by decide +kernel)) rfl
theorem mAcS : Cond.static arraycopyName ∈ tblA := tA (List.mem_of_getElem? (i := 197) (by decide +kernel)) rfl
theorem mSysI : Cond.initialized "java/lang/System" ∈ tblA := tA (List.mem_of_getElem? (i := 66) (by decide +kernel)) rfl
theorem mf_X0_15 : Cond.fieldLink RX0 15 RX0 (TX0 4).2.1 (TX0 4).2.2.1 ∈ tblA := tA (List.mem_of_getElem? (i := 132) (by decide +kernel)) rfl
theorem mf_X0_18 : Cond.fieldLink RX0 18 RX0 (TX0 5).2.1 (TX0 5).2.2.1 ∈ tblA := tA (List.mem_of_getElem? (i := 133) (by decide +kernel)) rfl
theorem mf_X0_21 : Cond.fieldLink RX0 21 RX0 (TX0 6).2.1 (TX0 6).2.2.1 ∈ tblA := tA (List.mem_of_getElem? (i := 134) (by decide +kernel)) rfl
theorem mf_X0_24 : Cond.fieldLink RX0 24 RX0 (TX0 7).2.1 (TX0 7).2.2.1 ∈ tblA := tA (List.mem_of_getElem? (i := 135) (by decide +kernel)) rfl
theorem mf_X0_27 : Cond.fieldLink RX0 27 RX0 (TX0 8).2.1 (TX0 8).2.2.1 ∈ tblA := tA (List.mem_of_getElem? (i := 136) (by decide +kernel)) rfl
theorem mf_X0_30 : Cond.fieldLink RX0 30 RX0 (TX0 10).2.1 (TX0 10).2.2.1 ∈ tblA := tA (List.mem_of_getElem? (i := 138) (by decide +kernel)) rfl
theorem mf_X0_33 : Cond.fieldLink RX0 33 RX0 (TX0 11).2.1 (TX0 11).2.2.1 ∈ tblA := tA (List.mem_of_getElem? (i := 140) (by decide +kernel)) rfl
theorem mf_X0_36 : Cond.fieldLink RX0 36 RX0 (TX0 0).2.1 (TX0 0).2.2.1 ∈ tblA := tA (List.mem_of_getElem? (i := 127) (by decide +kernel)) rfl
theorem mf_X0_40 : Cond.fieldLink RX0 40 RX0 (TX0 1).2.1 (TX0 1).2.2.1 ∈ tblA := tA (List.mem_of_getElem? (i := 129) (by decide +kernel)) rfl
theorem mf_X0_44 : Cond.fieldLink RX0 44 RX0 (TX0 2).2.1 (TX0 2).2.2.1 ∈ tblA := tA (List.mem_of_getElem? (i := 130) (by decide +kernel)) rfl
theorem mf_X0_53 : Cond.fieldLink RX0 53 RX0 (TX0 9).2.1 (TX0 9).2.2.1 ∈ tblA := tA (List.mem_of_getElem? (i := 137) (by decide +kernel)) rfl
theorem mf_X0_62 : Cond.fieldLink RX0 62 RX0 (TX0 14).2.1 (TX0 14).2.2.1 ∈ tblA := tA (List.mem_of_getElem? (i := 146) (by decide +kernel)) rfl
theorem mf_X0_65 : Cond.fieldLink RX0 65 RX0 (TX0 15).2.1 (TX0 15).2.2.1 ∈ tblA := tA (List.mem_of_getElem? (i := 147) (by decide +kernel)) rfl
theorem mf_X0_68 : Cond.fieldLink RX0 68 RX0 (TX0 16).2.1 (TX0 16).2.2.1 ∈ tblA := tA (List.mem_of_getElem? (i := 148) (by decide +kernel)) rfl
theorem mf_X0_71 : Cond.fieldLink RX0 71 RX0 (TX0 17).2.1 (TX0 17).2.2.1 ∈ tblA := tA (List.mem_of_getElem? (i := 149) (by decide +kernel)) rfl
theorem mf_X0_9 : Cond.fieldLink RX0 9 RX0 (TX0 3).2.1 (TX0 3).2.2.1 ∈ tblA := tA (List.mem_of_getElem? (i := 131) (by decide +kernel)) rfl
theorem mf_X0_90 : Cond.fieldLink RX0 90 RX0 (TX0 12).2.1 (TX0 12).2.2.1 ∈ tblA := tA (List.mem_of_getElem? (i := 142) (by decide +kernel)) rfl
theorem mf_X0_97 : Cond.fieldLink RX0 97 RX0 (TX0 13).2.1 (TX0 13).2.2.1 ∈ tblA := tA (List.mem_of_getElem? (i := 145) (by decide +kernel)) rfl
theorem mf_X1_13 : Cond.fieldLink RX1 13 RX1 (TX1 0).2.1 (TX1 0).2.2.1 ∈ tblA := tA (List.mem_of_getElem? (i := 289) (by decide +kernel)) rfl
theorem mf_X1_18 : Cond.fieldLink RX1 18 RX1 (TX1 1).2.1 (TX1 1).2.2.1 ∈ tblA := tA (List.mem_of_getElem? (i := 290) (by decide +kernel)) rfl
theorem mf_X1_26 : Cond.fieldLink RX1 26 RX1 (TX1 2).2.1 (TX1 2).2.2.1 ∈ tblA := tA (List.mem_of_getElem? (i := 291) (by decide +kernel)) rfl
theorem mf_X2_27 : Cond.fieldLink RX2 27 RX2 (TX2 1).2.1 (TX2 1).2.2.1 ∈ tblA := tA (List.mem_of_getElem? (i := 95) (by decide +kernel)) rfl
theorem mf_X2_9 : Cond.fieldLink RX2 9 RX2 (TX2 0).2.1 (TX2 0).2.2.1 ∈ tblA := tA (List.mem_of_getElem? (i := 91) (by decide +kernel)) rfl
theorem mf_X3_15 : Cond.fieldLink RX3 15 RX3 (TX3 1).2.1 (TX3 1).2.2.1 ∈ tblA := tA (List.mem_of_getElem? (i := 110) (by decide +kernel)) rfl
theorem mf_X3_22 : Cond.fieldLink RX3 22 RX3 (TX3 2).2.1 (TX3 2).2.2.1 ∈ tblA := tA (List.mem_of_getElem? (i := 111) (by decide +kernel)) rfl
theorem mf_X3_9 : Cond.fieldLink RX3 9 RX3 (TX3 0).2.1 (TX3 0).2.2.1 ∈ tblA := tA (List.mem_of_getElem? (i := 109) (by decide +kernel)) rfl
theorem mf_X4_114 : Cond.fieldLink RX4 114 RX4 (TX4 9).2.1 (TX4 9).2.2.1 ∈ tblA := tA (List.mem_of_getElem? (i := 236) (by decide +kernel)) rfl
theorem mf_X4_12 : Cond.fieldLink RX4 12 RX4 (TX4 0).2.1 (TX4 0).2.2.1 ∈ tblA := tA (List.mem_of_getElem? (i := 219) (by decide +kernel)) rfl
theorem mf_X4_141 : Cond.fieldLink RX4 141 RX4 (TX4 10).2.1 (TX4 10).2.2.1 ∈ tblA := tA (List.mem_of_getElem? (i := 237) (by decide +kernel)) rfl
theorem mf_X4_144 : Cond.fieldLink RX4 144 RX3 (TX3 2).2.1 (TX3 2).2.2.1 ∈ tblA := tA (List.mem_of_getElem? (i := 112) (by decide +kernel)) rfl
theorem mf_X4_145 : Cond.fieldLink RX4 145 RX0 (TX0 0).2.1 (TX0 0).2.2.1 ∈ tblA := tA (List.mem_of_getElem? (i := 128) (by decide +kernel)) rfl
theorem mf_X4_158 : Cond.fieldLink RX4 158 RX2 (TX2 0).2.1 (TX2 0).2.2.1 ∈ tblA := tA (List.mem_of_getElem? (i := 92) (by decide +kernel)) rfl
theorem mf_X4_191 : Cond.fieldLink RX4 191 RX0 (TX0 12).2.1 (TX0 12).2.2.1 ∈ tblA := tA (List.mem_of_getElem? (i := 143) (by decide +kernel)) rfl
theorem mf_X4_204 : Cond.fieldLink RX4 204 RX0 (TX0 17).2.1 (TX0 17).2.2.1 ∈ tblA := tA (List.mem_of_getElem? (i := 150) (by decide +kernel)) rfl
theorem mf_X4_21 : Cond.fieldLink RX4 21 RX4 (TX4 1).2.1 (TX4 1).2.2.1 ∈ tblA := tA (List.mem_of_getElem? (i := 221) (by decide +kernel)) rfl
theorem mf_X4_27 : Cond.fieldLink RX4 27 RX4 (TX4 2).2.1 (TX4 2).2.2.1 ∈ tblA := tA (List.mem_of_getElem? (i := 223) (by decide +kernel)) rfl
theorem mf_X4_31 : Cond.fieldLink RX4 31 RX4 (TX4 4).2.1 (TX4 4).2.2.1 ∈ tblA := tA (List.mem_of_getElem? (i := 226) (by decide +kernel)) rfl
theorem mf_X4_35 : Cond.fieldLink RX4 35 RX4 (TX4 5).2.1 (TX4 5).2.2.1 ∈ tblA := tA (List.mem_of_getElem? (i := 228) (by decide +kernel)) rfl
theorem mf_X4_38 : Cond.fieldLink RX4 38 RX4 (TX4 6).2.1 (TX4 6).2.2.1 ∈ tblA := tA (List.mem_of_getElem? (i := 230) (by decide +kernel)) rfl
theorem mf_X4_41 : Cond.fieldLink RX4 41 RX4 (TX4 7).2.1 (TX4 7).2.2.1 ∈ tblA := tA (List.mem_of_getElem? (i := 232) (by decide +kernel)) rfl
theorem mf_X4_44 : Cond.fieldLink RX4 44 RX4 (TX4 8).2.1 (TX4 8).2.2.1 ∈ tblA := tA (List.mem_of_getElem? (i := 234) (by decide +kernel)) rfl
theorem mf_X4_48 : Cond.fieldLink RX4 48 RX4 (TX4 16).2.1 (TX4 16).2.2.1 ∈ tblA := tA (List.mem_of_getElem? (i := 244) (by decide +kernel)) rfl
theorem mf_X4_65 : Cond.fieldLink RX4 65 RX2 (TX2 1).2.1 (TX2 1).2.2.1 ∈ tblA := tA (List.mem_of_getElem? (i := 94) (by decide +kernel)) rfl
theorem mf_X4_72 : Cond.fieldLink RX4 72 RX4 (TX4 3).2.1 (TX4 3).2.2.1 ∈ tblA := tA (List.mem_of_getElem? (i := 225) (by decide +kernel)) rfl
theorem mf_X4_86 : Cond.fieldLink RX4 86 RX4 (TX4 11).2.1 (TX4 11).2.2.1 ∈ tblA := tA (List.mem_of_getElem? (i := 238) (by decide +kernel)) rfl
theorem mf_X4_90 : Cond.fieldLink RX4 90 RX4 (TX4 12).2.1 (TX4 12).2.2.1 ∈ tblA := tA (List.mem_of_getElem? (i := 239) (by decide +kernel)) rfl
theorem mf_X4_93 : Cond.fieldLink RX4 93 RX4 (TX4 13).2.1 (TX4 13).2.2.1 ∈ tblA := tA (List.mem_of_getElem? (i := 240) (by decide +kernel)) rfl
theorem mf_X4_96 : Cond.fieldLink RX4 96 RX4 (TX4 14).2.1 (TX4 14).2.2.1 ∈ tblA := tA (List.mem_of_getElem? (i := 241) (by decide +kernel)) rfl
theorem mf_X4_99 : Cond.fieldLink RX4 99 RX4 (TX4 15).2.1 (TX4 15).2.2.1 ∈ tblA := tA (List.mem_of_getElem? (i := 243) (by decide +kernel)) rfl
theorem mf_X5_19 : Cond.fieldLink RX5 19 RX5 (TX5 1).2.1 (TX5 1).2.2.1 ∈ tblA := tA (List.mem_of_getElem? (i := 307) (by decide +kernel)) rfl
theorem mf_X5_23 : Cond.fieldLink RX5 23 RX5 (TX5 2).2.1 (TX5 2).2.2.1 ∈ tblA := tA (List.mem_of_getElem? (i := 309) (by decide +kernel)) rfl
theorem mf_X5_37 : Cond.fieldLink RX5 37 RX5 (TX5 3).2.1 (TX5 3).2.2.1 ∈ tblA := tA (List.mem_of_getElem? (i := 310) (by decide +kernel)) rfl
theorem mf_X5_54 : Cond.fieldLink RX5 54 RX5 (TX5 4).2.1 (TX5 4).2.2.1 ∈ tblA := tA (List.mem_of_getElem? (i := 312) (by decide +kernel)) rfl
theorem mf_X5_57 : Cond.fieldLink RX5 57 RX5 (TX5 5).2.1 (TX5 5).2.2.1 ∈ tblA := tA (List.mem_of_getElem? (i := 313) (by decide +kernel)) rfl
theorem mf_X5_60 : Cond.fieldLink RX5 60 RX5 (TX5 6).2.1 (TX5 6).2.2.1 ∈ tblA := tA (List.mem_of_getElem? (i := 315) (by decide +kernel)) rfl
theorem mf_X5_9 : Cond.fieldLink RX5 9 RX5 (TX5 0).2.1 (TX5 0).2.2.1 ∈ tblA := tA (List.mem_of_getElem? (i := 306) (by decide +kernel)) rfl
theorem mf_X6_10 : Cond.fieldLink RX6 10 RX6 (TX6 0).2.1 (TX6 0).2.2.1 ∈ tblA := tA (List.mem_of_getElem? (i := 333) (by decide +kernel)) rfl
theorem mf_X6_115 : Cond.fieldLink RX6 115 RX5 (TX5 3).2.1 (TX5 3).2.2.1 ∈ tblA := tA (List.mem_of_getElem? (i := 311) (by decide +kernel)) rfl
theorem mf_X6_118 : Cond.fieldLink RX6 118 RX5 (TX5 5).2.1 (TX5 5).2.2.1 ∈ tblA := tA (List.mem_of_getElem? (i := 314) (by decide +kernel)) rfl
theorem mf_X6_121 : Cond.fieldLink RX6 121 RX5 (TX5 6).2.1 (TX5 6).2.2.1 ∈ tblA := tA (List.mem_of_getElem? (i := 316) (by decide +kernel)) rfl
theorem mf_X6_134 : Cond.fieldLink RX6 134 RX4 (TX4 8).2.1 (TX4 8).2.2.1 ∈ tblA := tA (List.mem_of_getElem? (i := 235) (by decide +kernel)) rfl
theorem mf_X6_144 : Cond.fieldLink RX6 144 RX4 (TX4 0).2.1 (TX4 0).2.2.1 ∈ tblA := tA (List.mem_of_getElem? (i := 220) (by decide +kernel)) rfl
theorem mf_X6_148 : Cond.fieldLink RX6 148 RX2 (TX2 0).2.1 (TX2 0).2.2.1 ∈ tblA := tA (List.mem_of_getElem? (i := 93) (by decide +kernel)) rfl
theorem mf_X6_16 : Cond.fieldLink RX6 16 RX6 (TX6 1).2.1 (TX6 1).2.2.1 ∈ tblA := tA (List.mem_of_getElem? (i := 334) (by decide +kernel)) rfl
theorem mf_X6_161 : Cond.fieldLink RX6 161 RX4 (TX4 1).2.1 (TX4 1).2.2.1 ∈ tblA := tA (List.mem_of_getElem? (i := 222) (by decide +kernel)) rfl
theorem mf_X6_179 : Cond.fieldLink RX6 179 RX0 (TX0 10).2.1 (TX0 10).2.2.1 ∈ tblA := tA (List.mem_of_getElem? (i := 139) (by decide +kernel)) rfl
theorem mf_X6_182 : Cond.fieldLink RX6 182 RX0 (TX0 11).2.1 (TX0 11).2.2.1 ∈ tblA := tA (List.mem_of_getElem? (i := 141) (by decide +kernel)) rfl
theorem mf_X6_185 : Cond.fieldLink RX6 185 RX4 (TX4 5).2.1 (TX4 5).2.2.1 ∈ tblA := tA (List.mem_of_getElem? (i := 229) (by decide +kernel)) rfl
theorem mf_X6_188 : Cond.fieldLink RX6 188 RX4 (TX4 6).2.1 (TX4 6).2.2.1 ∈ tblA := tA (List.mem_of_getElem? (i := 231) (by decide +kernel)) rfl
theorem mf_X6_191 : Cond.fieldLink RX6 191 RX4 (TX4 7).2.1 (TX4 7).2.2.1 ∈ tblA := tA (List.mem_of_getElem? (i := 233) (by decide +kernel)) rfl
theorem mf_X6_194 : Cond.fieldLink RX6 194 RX2 (TX2 1).2.1 (TX2 1).2.2.1 ∈ tblA := tA (List.mem_of_getElem? (i := 96) (by decide +kernel)) rfl
theorem mf_X6_200 : Cond.fieldLink RX6 200 RX4 (TX4 4).2.1 (TX4 4).2.2.1 ∈ tblA := tA (List.mem_of_getElem? (i := 227) (by decide +kernel)) rfl
theorem mf_X6_203 : Cond.fieldLink RX6 203 RX1 (TX1 2).2.1 (TX1 2).2.2.1 ∈ tblA := tA (List.mem_of_getElem? (i := 292) (by decide +kernel)) rfl
theorem mf_X6_219 : Cond.fieldLink RX6 219 RX4 (TX4 14).2.1 (TX4 14).2.2.1 ∈ tblA := tA (List.mem_of_getElem? (i := 242) (by decide +kernel)) rfl
theorem mf_X6_22 : Cond.fieldLink RX6 22 RX6 (TX6 2).2.1 (TX6 2).2.2.1 ∈ tblA := tA (List.mem_of_getElem? (i := 335) (by decide +kernel)) rfl
theorem mf_X6_222 : Cond.fieldLink RX6 222 RX0 (TX0 12).2.1 (TX0 12).2.2.1 ∈ tblA := tA (List.mem_of_getElem? (i := 144) (by decide +kernel)) rfl
theorem mf_X6_26 : Cond.fieldLink RX6 26 RX6 (TX6 3).2.1 (TX6 3).2.2.1 ∈ tblA := tA (List.mem_of_getElem? (i := 336) (by decide +kernel)) rfl
theorem mf_X6_30 : Cond.fieldLink RX6 30 RX6 (TX6 4).2.1 (TX6 4).2.2.1 ∈ tblA := tA (List.mem_of_getElem? (i := 337) (by decide +kernel)) rfl
theorem mf_X6_37 : Cond.fieldLink RX6 37 RX6 (TX6 5).2.1 (TX6 5).2.2.1 ∈ tblA := tA (List.mem_of_getElem? (i := 338) (by decide +kernel)) rfl
theorem mf_X6_65 : Cond.fieldLink RX6 65 RX4 (TX4 2).2.1 (TX4 2).2.2.1 ∈ tblA := tA (List.mem_of_getElem? (i := 224) (by decide +kernel)) rfl
theorem mf_X6_98 : Cond.fieldLink RX6 98 RX5 (TX5 1).2.1 (TX5 1).2.2.1 ∈ tblA := tA (List.mem_of_getElem? (i := 308) (by decide +kernel)) rfl
theorem mf_X7_13 : Cond.fieldLink RX7 13 RX7 (TX7 2).2.1 (TX7 2).2.2.1 ∈ tblA := tA (List.mem_of_getElem? (i := 816) (by decide +kernel)) rfl
theorem mf_X7_140 : Cond.fieldLink RX7 140 RX7 (TX7 4).2.1 (TX7 4).2.2.1 ∈ tblA := tA (List.mem_of_getElem? (i := 818) (by decide +kernel)) rfl
theorem mf_X7_143 : Cond.fieldLink RX7 143 RX7 (TX7 6).2.1 (TX7 6).2.2.1 ∈ tblA := tA (List.mem_of_getElem? (i := 820) (by decide +kernel)) rfl
theorem mf_X7_149 : Cond.fieldLink RX7 149 RX7 (TX7 7).2.1 (TX7 7).2.2.1 ∈ tblA := tA (List.mem_of_getElem? (i := 821) (by decide +kernel)) rfl
theorem mf_X7_17 : Cond.fieldLink RX7 17 RX7 (TX7 3).2.1 (TX7 3).2.2.1 ∈ tblA := tA (List.mem_of_getElem? (i := 817) (by decide +kernel)) rfl
theorem mf_X7_20 : Cond.fieldLink RX7 20 RX7 (TX7 5).2.1 (TX7 5).2.2.1 ∈ tblA := tA (List.mem_of_getElem? (i := 819) (by decide +kernel)) rfl
theorem mf_X7_29 : Cond.fieldLink RX7 29 RX7 (TX7 1).2.1 (TX7 1).2.2.1 ∈ tblA := tA (List.mem_of_getElem? (i := 815) (by decide +kernel)) rfl
theorem mf_X7_7 : Cond.fieldLink RX7 7 RX7 (TX7 0).2.1 (TX7 0).2.2.1 ∈ tblA := tA (List.mem_of_getElem? (i := 814) (by decide +kernel)) rfl
theorem mk_X0_82 : Cond.constant RX0 82 (50000) ∈ tblA := tA (List.mem_of_getElem? (i := 467) (by decide +kernel)) rfl
theorem mk_X0_87 : Cond.constant RX0 87 (200000) ∈ tblA := tA (List.mem_of_getElem? (i := 480) (by decide +kernel)) rfl
theorem mk_X0_88 : Cond.constantLong RX0 88 (1000) ∈ tblA := tA (List.mem_of_getElem? (i := 529) (by decide +kernel)) rfl
theorem mk_X4_121 : Cond.constant RX4 121 (50000) ∈ tblA := tA (List.mem_of_getElem? (i := 429) (by decide +kernel)) rfl
theorem mk_X4_126 : Cond.constant RX4 126 (200000) ∈ tblA := tA (List.mem_of_getElem? (i := 446) (by decide +kernel)) rfl
theorem mk_X4_190 : Cond.constant RX4 190 (2147483647) ∈ tblA := tA (List.mem_of_getElem? (i := 541) (by decide +kernel)) rfl
theorem mk_X4_228 : Cond.constantLong RX4 228 (100000) ∈ tblA := tA (List.mem_of_getElem? (i := 603) (by decide +kernel)) rfl
theorem mk_X4_230 : Cond.constantLong RX4 230 (1000) ∈ tblA := tA (List.mem_of_getElem? (i := 591) (by decide +kernel)) rfl
theorem mk_X4_232 : Cond.constantLong RX4 232 (2) ∈ tblA := tA (List.mem_of_getElem? (i := 592) (by decide +kernel)) rfl
theorem mk_X6_239 : Cond.constantLong RX6 239 (1000) ∈ tblA := tA (List.mem_of_getElem? (i := 533) (by decide +kernel)) rfl
theorem mk_X7_115 : Cond.constantLong RX7 115 (2) ∈ tblA := tA (List.mem_of_getElem? (i := 965) (by decide +kernel)) rfl
theorem mk_X7_120 : Cond.constantLong RX7 120 (100) ∈ tblA := tA (List.mem_of_getElem? (i := 970) (by decide +kernel)) rfl
theorem mk_X7_122 : Cond.constantLong RX7 122 (100000) ∈ tblA := tA (List.mem_of_getElem? (i := 971) (by decide +kernel)) rfl
theorem mk_X7_56 : Cond.constant RX7 56 (50000) ∈ tblA := tA (List.mem_of_getElem? (i := 865) (by decide +kernel)) rfl
theorem mk_X7_57 : Cond.constant RX7 57 (200000) ∈ tblA := tA (List.mem_of_getElem? (i := 870) (by decide +kernel)) rfl
theorem mk_X7_89 : Cond.constantLong RX7 89 (1000) ∈ tblA := tA (List.mem_of_getElem? (i := 937) (by decide +kernel)) rfl
theorem ml_L_100 : Cond.methodLink RL 100 yX7_gain ∈ tblA := tA (List.mem_of_getElem? (i := 1052) (by decide +kernel)) rfl
theorem ml_L_101 : Cond.methodLink RL 101 yX6_limit ∈ tblA := tA (List.mem_of_getElem? (i := 719) (by decide +kernel)) rfl
theorem ml_L_104 : Cond.methodLink RL 104 yX7_limit ∈ tblA := tA (List.mem_of_getElem? (i := 1056) (by decide +kernel)) rfl
theorem ml_L_105 : Cond.methodLink RL 105 yX6_channel ∈ tblA := tA (List.mem_of_getElem? (i := 724) (by decide +kernel)) rfl
theorem ml_L_108 : Cond.methodLink RL 108 yX7_channel ∈ tblA := tA (List.mem_of_getElem? (i := 1060) (by decide +kernel)) rfl
theorem ml_L_109 : Cond.methodLink RL 109 yX6_level ∈ tblA := tA (List.mem_of_getElem? (i := 732) (by decide +kernel)) rfl
theorem ml_L_112 : Cond.methodLink RL 112 yX7_level ∈ tblA := tA (List.mem_of_getElem? (i := 1064) (by decide +kernel)) rfl
theorem ml_L_113 : Cond.methodLink RL 113 yX6_averaged ∈ tblA := tA (List.mem_of_getElem? (i := 736) (by decide +kernel)) rfl
theorem ml_L_116 : Cond.methodLink RL 116 yX7_averaged ∈ tblA := tA (List.mem_of_getElem? (i := 1068) (by decide +kernel)) rfl
theorem ml_L_117 : Cond.methodLink RL 117 yX6_controlGain ∈ tblA := tA (List.mem_of_getElem? (i := 740) (by decide +kernel)) rfl
theorem ml_L_120 : Cond.methodLink RL 120 yX7_controlGain ∈ tblA := tA (List.mem_of_getElem? (i := 1072) (by decide +kernel)) rfl
theorem ml_L_121 : Cond.methodLink RL 121 yX6_driveAt ∈ tblA := tA (List.mem_of_getElem? (i := 744) (by decide +kernel)) rfl
theorem ml_L_124 : Cond.methodLink RL 124 yX7_driveAt ∈ tblA := tA (List.mem_of_getElem? (i := 1076) (by decide +kernel)) rfl
theorem ml_L_125 : Cond.methodLink RL 125 yX6_notchedBy ∈ tblA := tA (List.mem_of_getElem? (i := 748) (by decide +kernel)) rfl
theorem ml_L_128 : Cond.methodLink RL 128 yX7_notchedBy ∈ tblA := tA (List.mem_of_getElem? (i := 1080) (by decide +kernel)) rfl
theorem ml_L_129 : Cond.methodLink RL 129 yX6_resonance ∈ tblA := tA (List.mem_of_getElem? (i := 752) (by decide +kernel)) rfl
theorem ml_L_13 : Cond.methodLink RL 13 yX6_setLines ∈ tblA := tA (List.mem_of_getElem? (i := 352) (by decide +kernel)) rfl
theorem ml_L_132 : Cond.methodLink RL 132 yX7_resonance ∈ tblA := tA (List.mem_of_getElem? (i := 1084) (by decide +kernel)) rfl
theorem ml_L_133 : Cond.methodLink RL 133 yX6_total ∈ tblA := tA (List.mem_of_getElem? (i := 772) (by decide +kernel)) rfl
theorem ml_L_136 : Cond.methodLink RL 136 yX7_total ∈ tblA := tA (List.mem_of_getElem? (i := 1096) (by decide +kernel)) rfl
theorem ml_L_137 : Cond.methodLink RL 137 yX6_loopsLeft ∈ tblA := tA (List.mem_of_getElem? (i := 780) (by decide +kernel)) rfl
theorem ml_L_140 : Cond.methodLink RL 140 yX7_loopsLeft ∈ tblA := tA (List.mem_of_getElem? (i := 1100) (by decide +kernel)) rfl
theorem ml_L_141 : Cond.methodLink RL 141 yX6_wouldAbort ∈ tblA := tA (List.mem_of_getElem? (i := 786) (by decide +kernel)) rfl
theorem ml_L_144 : Cond.methodLink RL 144 yX7_wouldAbort ∈ tblA := tA (List.mem_of_getElem? (i := 1112) (by decide +kernel)) rfl
theorem ml_L_145 : Cond.methodLink RL 145 yX6_highest ∈ tblA := tA (List.mem_of_getElem? (i := 791) (by decide +kernel)) rfl
theorem ml_L_148 : Cond.methodLink RL 148 yX7_highest ∈ tblA := tA (List.mem_of_getElem? (i := 1116) (by decide +kernel)) rfl
theorem ml_L_17 : Cond.methodLink RL 17 yX7_setLines ∈ tblA := tA (List.mem_of_getElem? (i := 839) (by decide +kernel)) rfl
theorem ml_L_18 : Cond.methodLink RL 18 yX6_setPoint ∈ tblA := tA (List.mem_of_getElem? (i := 417) (by decide +kernel)) rfl
theorem ml_L_22 : Cond.methodLink RL 22 yX7_setPoint ∈ tblA := tA (List.mem_of_getElem? (i := 861) (by decide +kernel)) rfl
theorem ml_L_23 : Cond.methodLink RL 23 yX6_addChannel ∈ tblA := tA (List.mem_of_getElem? (i := 438) (by decide +kernel)) rfl
theorem ml_L_27 : Cond.methodLink RL 27 yX7_addChannel ∈ tblA := tA (List.mem_of_getElem? (i := 866) (by decide +kernel)) rfl
theorem ml_L_28 : Cond.methodLink RL 28 yX6_setMode ∈ tblA := tA (List.mem_of_getElem? (i := 453) (by decide +kernel)) rfl
theorem ml_L_32 : Cond.methodLink RL 32 yX7_setMode ∈ tblA := tA (List.mem_of_getElem? (i := 871) (by decide +kernel)) rfl
theorem ml_L_33 : Cond.methodLink RL 33 yX6_addNotch ∈ tblA := tA (List.mem_of_getElem? (i := 472) (by decide +kernel)) rfl
theorem ml_L_37 : Cond.methodLink RL 37 yX7_addNotch ∈ tblA := tA (List.mem_of_getElem? (i := 887) (by decide +kernel)) rfl
theorem ml_L_38 : Cond.methodLink RL 38 yX6_set ∈ tblA := tA (List.mem_of_getElem? (i := 481) (by decide +kernel)) rfl
theorem ml_L_41 : Cond.methodLink RL 41 yX7_set ∈ tblA := tA (List.mem_of_getElem? (i := 891) (by decide +kernel)) rfl
theorem ml_L_42 : Cond.methodLink RL 42 yX6_start ∈ tblA := tA (List.mem_of_getElem? (i := 493) (by decide +kernel)) rfl
theorem ml_L_46 : Cond.methodLink RL 46 yX7_start ∈ tblA := tA (List.mem_of_getElem? (i := 909) (by decide +kernel)) rfl
theorem ml_L_47 : Cond.methodLink RL 47 yX6_step ∈ tblA := tA (List.mem_of_getElem? (i := 505) (by decide +kernel)) rfl
theorem ml_L_50 : Cond.methodLink RL 50 yX7_step ∈ tblA := tA (List.mem_of_getElem? (i := 921) (by decide +kernel)) rfl
theorem ml_L_51 : Cond.methodLink RL 51 yX6_hold ∈ tblA := tA (List.mem_of_getElem? (i := 604) (by decide +kernel)) rfl
theorem ml_L_55 : Cond.methodLink RL 55 yX7_hold ∈ tblA := tA (List.mem_of_getElem? (i := 972) (by decide +kernel)) rfl
theorem ml_L_56 : Cond.methodLink RL 56 yX6_abort ∈ tblA := tA (List.mem_of_getElem? (i := 612) (by decide +kernel)) rfl
theorem ml_L_60 : Cond.methodLink RL 60 yX7_abort ∈ tblA := tA (List.mem_of_getElem? (i := 980) (by decide +kernel)) rfl
theorem ml_L_61 : Cond.methodLink RL 61 yX6_append ∈ tblA := tA (List.mem_of_getElem? (i := 620) (by decide +kernel)) rfl
theorem ml_L_64 : Cond.methodLink RL 64 yX7_append ∈ tblA := tA (List.mem_of_getElem? (i := 992) (by decide +kernel)) rfl
theorem ml_L_65 : Cond.methodLink RL 65 yX6_clearText ∈ tblA := tA (List.mem_of_getElem? (i := 629) (by decide +kernel)) rfl
theorem ml_L_68 : Cond.methodLink RL 68 yX7_clearText ∈ tblA := tA (List.mem_of_getElem? (i := 996) (by decide +kernel)) rfl
theorem ml_L_69 : Cond.methodLink RL 69 yX6_faultPosition ∈ tblA := tA (List.mem_of_getElem? (i := 633) (by decide +kernel)) rfl
theorem ml_L_72 : Cond.methodLink RL 72 yX7_faultPosition ∈ tblA := tA (List.mem_of_getElem? (i := 1000) (by decide +kernel)) rfl
theorem ml_L_73 : Cond.methodLink RL 73 yX6_run ∈ tblA := tA (List.mem_of_getElem? (i := 669) (by decide +kernel)) rfl
theorem ml_L_76 : Cond.methodLink RL 76 yX7_run ∈ tblA := tA (List.mem_of_getElem? (i := 1023) (by decide +kernel)) rfl
theorem ml_L_77 : Cond.methodLink RL 77 yX6_undo ∈ tblA := tA (List.mem_of_getElem? (i := 679) (by decide +kernel)) rfl
theorem ml_L_80 : Cond.methodLink RL 80 yX7_undo ∈ tblA := tA (List.mem_of_getElem? (i := 1032) (by decide +kernel)) rfl
theorem ml_L_81 : Cond.methodLink RL 81 yX6_save ∈ tblA := tA (List.mem_of_getElem? (i := 687) (by decide +kernel)) rfl
theorem ml_L_84 : Cond.methodLink RL 84 yX7_save ∈ tblA := tA (List.mem_of_getElem? (i := 1036) (by decide +kernel)) rfl
theorem ml_L_85 : Cond.methodLink RL 85 yX6_restore ∈ tblA := tA (List.mem_of_getElem? (i := 695) (by decide +kernel)) rfl
theorem ml_L_88 : Cond.methodLink RL 88 yX7_restore ∈ tblA := tA (List.mem_of_getElem? (i := 1040) (by decide +kernel)) rfl
theorem ml_L_89 : Cond.methodLink RL 89 yX6_frequency ∈ tblA := tA (List.mem_of_getElem? (i := 699) (by decide +kernel)) rfl
theorem ml_L_92 : Cond.methodLink RL 92 yX7_frequency ∈ tblA := tA (List.mem_of_getElem? (i := 1044) (by decide +kernel)) rfl
theorem ml_L_93 : Cond.methodLink RL 93 yX6_target ∈ tblA := tA (List.mem_of_getElem? (i := 708) (by decide +kernel)) rfl
theorem ml_L_96 : Cond.methodLink RL 96 yX7_target ∈ tblA := tA (List.mem_of_getElem? (i := 1048) (by decide +kernel)) rfl
theorem ml_L_97 : Cond.methodLink RL 97 yX6_gain ∈ tblA := tA (List.mem_of_getElem? (i := 714) (by decide +kernel)) rfl
theorem ml_X0_104 : Cond.methodLink RX0 104 yX0_limitAt ∈ tblA := tA (List.mem_of_getElem? (i := 554) (by decide +kernel)) rfl
theorem ml_X0_107 : Cond.methodLink RX0 107 Lib.Math.max.name ∈ tblA := tA (List.mem_of_getElem? (i := 558) (by decide +kernel)) rfl
theorem ml_X0_112 : Cond.methodLink RX0 112 yX0_isResonance ∈ tblA := tA (List.mem_of_getElem? (i := 760) (by decide +kernel)) rfl
theorem ml_X0_116 : Cond.methodLink RX0 116 yX0_resonancesAhead ∈ tblA := tA (List.mem_of_getElem? (i := 768) (by decide +kernel)) rfl
theorem ml_X0_119 : Cond.methodLink RX0 119 yX0_gainOfLine ∈ tblA := tA (List.mem_of_getElem? (i := 764) (by decide +kernel)) rfl
theorem ml_X0_47 : Cond.methodLink RX0 47 yJ7_fill_53178 ∈ tblA := tA (List.mem_of_getElem? (i := 207) (by decide +kernel)) rfl
theorem ml_X0_56 : Cond.methodLink RX0 56 yX0_forgetRun ∈ tblA := tA (List.mem_of_getElem? (i := 451) (by decide +kernel)) rfl
theorem ml_X0_59 : Cond.methodLink RX0 59 yX0_forgetGains ∈ tblA := tA (List.mem_of_getElem? (i := 452) (by decide +kernel)) rfl
theorem ml_X0_83 : Cond.methodLink RX0 83 yX0_gainAt ∈ tblA := tA (List.mem_of_getElem? (i := 468) (by decide +kernel)) rfl
theorem ml_X1_22 : Cond.methodLink RX1 22 yX4_copyFrom ∈ tblA := tA (List.mem_of_getElem? (i := 360) (by decide +kernel)) rfl
theorem ml_X1_29 : Cond.methodLink RX1 29 Lib.Math.min.name ∈ tblA := tA (List.mem_of_getElem? (i := 416) (by decide +kernel)) rfl
theorem ml_X2_15 : Cond.methodLink RX2 15 yX2_above ∈ tblA := tA (List.mem_of_getElem? (i := 397) (by decide +kernel)) rfl
theorem ml_X2_19 : Cond.methodLink RX2 19 Lib.Math.max.name ∈ tblA := tA (List.mem_of_getElem? (i := 400) (by decide +kernel)) rfl
theorem ml_X2_24 : Cond.methodLink RX2 24 Lib.Math.min.name ∈ tblA := tA (List.mem_of_getElem? (i := 407) (by decide +kernel)) rfl
theorem ml_X3_18 : Cond.methodLink RX3 18 yX3_placeOf ∈ tblA := tA (List.mem_of_getElem? (i := 434) (by decide +kernel)) rfl
theorem ml_X3_26 : Cond.methodLink RX3 26 yX3_between ∈ tblA := tA (List.mem_of_getElem? (i := 583) (by decide +kernel)) rfl
theorem ml_X4_102 : Cond.methodLink RX4 102 yX0_forgetGains ∈ tblA := tA (List.mem_of_getElem? (i := 215) (by decide +kernel)) rfl
theorem ml_X4_103 : Cond.methodLink RX4 103 yX4_rests ∈ tblA := tA (List.mem_of_getElem? (i := 386) (by decide +kernel)) rfl
theorem ml_X4_106 : Cond.methodLink RX4 106 yX2_countOf ∈ tblA := tA (List.mem_of_getElem? (i := 394) (by decide +kernel)) rfl
theorem ml_X4_110 : Cond.methodLink RX4 110 yX2_lay ∈ tblA := tA (List.mem_of_getElem? (i := 403) (by decide +kernel)) rfl
theorem ml_X4_122 : Cond.methodLink RX4 122 yX3_put ∈ tblA := tA (List.mem_of_getElem? (i := 430) (by decide +kernel)) rfl
theorem ml_X4_127 : Cond.methodLink RX4 127 yX0_become ∈ tblA := tA (List.mem_of_getElem? (i := 447) (by decide +kernel)) rfl
theorem ml_X4_137 : Cond.methodLink RX4 137 yX4_reasonToRefuse ∈ tblA := tA (List.mem_of_getElem? (i := 501) (by decide +kernel)) rfl
theorem ml_X4_148 : Cond.methodLink RX4 148 yX4_beginAbort ∈ tblA := tA (List.mem_of_getElem? (i := 559) (by decide +kernel)) rfl
theorem ml_X4_152 : Cond.methodLink RX4 152 yX4_doLoop ∈ tblA := tA (List.mem_of_getElem? (i := 513) (by decide +kernel)) rfl
theorem ml_X4_155 : Cond.methodLink RX4 155 yX4_rampDown ∈ tblA := tA (List.mem_of_getElem? (i := 517) (by decide +kernel)) rfl
theorem ml_X4_161 : Cond.methodLink RX4 161 yX4_measureLevels ∈ tblA := tA (List.mem_of_getElem? (i := 521) (by decide +kernel)) rfl
theorem ml_X4_165 : Cond.methodLink RX4 165 yX4_countLoop ∈ tblA := tA (List.mem_of_getElem? (i := 546) (by decide +kernel)) rfl
theorem ml_X4_168 : Cond.methodLink RX4 168 yX4_nextLine ∈ tblA := tA (List.mem_of_getElem? (i := 563) (by decide +kernel)) rfl
theorem ml_X4_171 : Cond.methodLink RX4 171 yX4_goTo ∈ tblA := tA (List.mem_of_getElem? (i := 575) (by decide +kernel)) rfl
theorem ml_X4_175 : Cond.methodLink RX4 175 yX0_measure ∈ tblA := tA (List.mem_of_getElem? (i := 525) (by decide +kernel)) rfl
theorem ml_X4_179 : Cond.methodLink RX4 179 yX4_controlLevel ∈ tblA := tA (List.mem_of_getElem? (i := 537) (by decide +kernel)) rfl
theorem ml_X4_194 : Cond.methodLink RX4 194 Lib.Math.max.name ∈ tblA := tA (List.mem_of_getElem? (i := 542) (by decide +kernel)) rfl
theorem ml_X4_199 : Cond.methodLink RX4 199 Lib.Math.min.name ∈ tblA := tA (List.mem_of_getElem? (i := 543) (by decide +kernel)) rfl
theorem ml_X4_202 : Cond.methodLink RX4 202 yX0_countLoop ∈ tblA := tA (List.mem_of_getElem? (i := 550) (by decide +kernel)) rfl
theorem ml_X4_207 : Cond.methodLink RX4 207 yX4_lineAhead ∈ tblA := tA (List.mem_of_getElem? (i := 567) (by decide +kernel)) rfl
theorem ml_X4_210 : Cond.methodLink RX4 210 yX4_hasLine ∈ tblA := tA (List.mem_of_getElem? (i := 571) (by decide +kernel)) rfl
theorem ml_X4_213 : Cond.methodLink RX4 213 yX3_targetAt ∈ tblA := tA (List.mem_of_getElem? (i := 579) (by decide +kernel)) rfl
theorem ml_X4_216 : Cond.methodLink RX4 216 yX4_wantedDrive ∈ tblA := tA (List.mem_of_getElem? (i := 587) (by decide +kernel)) rfl
theorem ml_X4_220 : Cond.methodLink RX4 220 Lib.MathLoose.max_long.x ∈ tblA := tA (List.mem_of_getElem? (i := 593) (by decide +kernel)) rfl
theorem ml_X4_223 : Cond.methodLink RX4 223 Lib.MathLoose.min_long.x ∈ tblA := tA (List.mem_of_getElem? (i := 596) (by decide +kernel)) rfl
theorem ml_X4_225 : Cond.methodLink RX4 225 yX0_notchedDrive ∈ tblA := tA (List.mem_of_getElem? (i := 599) (by decide +kernel)) rfl
theorem ml_X4_234 : Cond.methodLink RX4 234 yX2_copyFrom ∈ tblA := tA (List.mem_of_getElem? (i := 364) (by decide +kernel)) rfl
theorem ml_X4_238 : Cond.methodLink RX4 238 yX3_copyFrom ∈ tblA := tA (List.mem_of_getElem? (i := 369) (by decide +kernel)) rfl
theorem ml_X4_241 : Cond.methodLink RX4 241 yX0_copyFrom ∈ tblA := tA (List.mem_of_getElem? (i := 374) (by decide +kernel)) rfl
theorem ml_X4_59 : Cond.methodLink RX4 59 yX4_forgetRun ∈ tblA := tA (List.mem_of_getElem? (i := 199) (by decide +kernel)) rfl
theorem ml_X4_62 : Cond.methodLink RX4 62 yX4_forgetGains ∈ tblA := tA (List.mem_of_getElem? (i := 211) (by decide +kernel)) rfl
theorem ml_X4_75 : Cond.methodLink RX4 75 yX4_measures ∈ tblA := tA (List.mem_of_getElem? (i := 390) (by decide +kernel)) rfl
theorem ml_X4_79 : Cond.methodLink RX4 79 yX0_forgetRun ∈ tblA := tA (List.mem_of_getElem? (i := 203) (by decide +kernel)) rfl
theorem ml_X4_80 : Cond.methodLink RX4 80 yJ7_fill_53178 ∈ tblA := tA (List.mem_of_getElem? (i := 210) (by decide +kernel)) rfl
theorem ml_X5_26 : Cond.methodLink RX5 26 yX5_rewind ∈ tblA := tA (List.mem_of_getElem? (i := 641) (by decide +kernel)) rfl
theorem ml_X5_29 : Cond.methodLink RX5 29 yX5_readAct ∈ tblA := tA (List.mem_of_getElem? (i := 645) (by decide +kernel)) rfl
theorem ml_X5_33 : Cond.methodLink RX5 33 yX5_here ∈ tblA := tA (List.mem_of_getElem? (i := 649) (by decide +kernel)) rfl
theorem ml_X5_40 : Cond.methodLink RX5 40 yX5_readFirst ∈ tblA := tA (List.mem_of_getElem? (i := 653) (by decide +kernel)) rfl
theorem ml_X5_44 : Cond.methodLink RX5 44 yX5_readSign ∈ tblA := tA (List.mem_of_getElem? (i := 661) (by decide +kernel)) rfl
theorem ml_X5_48 : Cond.methodLink RX5 48 yX5_readSecond ∈ tblA := tA (List.mem_of_getElem? (i := 665) (by decide +kernel)) rfl
theorem ml_X5_51 : Cond.methodLink RX5 51 yX5_readNumber ∈ tblA := tA (List.mem_of_getElem? (i := 657) (by decide +kernel)) rfl
theorem ml_X6_102 : Cond.methodLink RX6 102 yX5_findFault ∈ tblA := tA (List.mem_of_getElem? (i := 637) (by decide +kernel)) rfl
theorem ml_X6_105 : Cond.methodLink RX6 105 yX5_rewind ∈ tblA := tA (List.mem_of_getElem? (i := 673) (by decide +kernel)) rfl
theorem ml_X6_108 : Cond.methodLink RX6 108 yX5_readAct ∈ tblA := tA (List.mem_of_getElem? (i := 674) (by decide +kernel)) rfl
theorem ml_X6_112 : Cond.methodLink RX6 112 yX6_carryOutAct ∈ tblA := tA (List.mem_of_getElem? (i := 675) (by decide +kernel)) rfl
theorem ml_X6_124 : Cond.methodLink RX6 124 yX1_takeBack ∈ tblA := tA (List.mem_of_getElem? (i := 683) (by decide +kernel)) rfl
theorem ml_X6_128 : Cond.methodLink RX6 128 yX6_isSlot ∈ tblA := tA (List.mem_of_getElem? (i := 691) (by decide +kernel)) rfl
theorem ml_X6_131 : Cond.methodLink RX6 131 yX4_copyFrom ∈ tblA := tA (List.mem_of_getElem? (i := 694) (by decide +kernel)) rfl
theorem ml_X6_137 : Cond.methodLink RX6 137 yX6_isWithin ∈ tblA := tA (List.mem_of_getElem? (i := 428) (by decide +kernel)) rfl
theorem ml_X6_141 : Cond.methodLink RX6 141 yX1_keepNoted ∈ tblA := tA (List.mem_of_getElem? (i := 412) (by decide +kernel)) rfl
theorem ml_X6_154 : Cond.methodLink RX6 154 yX6_lookAtLine ∈ tblA := tA (List.mem_of_getElem? (i := 703) (by decide +kernel)) rfl
theorem ml_X6_158 : Cond.methodLink RX6 158 yX6_isFrequency ∈ tblA := tA (List.mem_of_getElem? (i := 712) (by decide +kernel)) rfl
theorem ml_X6_165 : Cond.methodLink RX6 165 yX3_targetAt ∈ tblA := tA (List.mem_of_getElem? (i := 713) (by decide +kernel)) rfl
theorem ml_X6_170 : Cond.methodLink RX6 170 yX0_gainAt ∈ tblA := tA (List.mem_of_getElem? (i := 718) (by decide +kernel)) rfl
theorem ml_X6_173 : Cond.methodLink RX6 173 yX0_limitAt ∈ tblA := tA (List.mem_of_getElem? (i := 723) (by decide +kernel)) rfl
theorem ml_X6_176 : Cond.methodLink RX6 176 yX0_propertyOf ∈ tblA := tA (List.mem_of_getElem? (i := 728) (by decide +kernel)) rfl
theorem ml_X6_197 : Cond.methodLink RX6 197 yX0_resonanceAt ∈ tblA := tA (List.mem_of_getElem? (i := 756) (by decide +kernel)) rfl
theorem ml_X6_204 : Cond.methodLink RX6 204 yX4_totalOf ∈ tblA := tA (List.mem_of_getElem? (i := 776) (by decide +kernel)) rfl
theorem ml_X6_207 : Cond.methodLink RX6 207 yX4_hasLine ∈ tblA := tA (List.mem_of_getElem? (i := 707) (by decide +kernel)) rfl
theorem ml_X6_210 : Cond.methodLink RX6 210 yX4_rests ∈ tblA := tA (List.mem_of_getElem? (i := 784) (by decide +kernel)) rfl
theorem ml_X6_213 : Cond.methodLink RX6 213 yX4_doLoop ∈ tblA := tA (List.mem_of_getElem? (i := 785) (by decide +kernel)) rfl
theorem ml_X6_216 : Cond.methodLink RX6 216 yX4_measures ∈ tblA := tA (List.mem_of_getElem? (i := 790) (by decide +kernel)) rfl
theorem ml_X6_225 : Cond.methodLink RX6 225 Lib.Math.max.name ∈ tblA := tA (List.mem_of_getElem? (i := 795) (by decide +kernel)) rfl
theorem ml_X6_230 : Cond.methodLink RX6 230 Lib.Math.min.name ∈ tblA := tA (List.mem_of_getElem? (i := 193) (by decide +kernel)) rfl
theorem ml_X6_233 : Cond.methodLink RX6 233 arraycopyName ∈ tblA := tA (List.mem_of_getElem? (i := 196) (by decide +kernel)) rfl
theorem ml_X6_41 : Cond.methodLink RX6 41 yX1_note ∈ tblA := tA (List.mem_of_getElem? (i := 356) (by decide +kernel)) rfl
theorem ml_X6_45 : Cond.methodLink RX6 45 yX4_layLines ∈ tblA := tA (List.mem_of_getElem? (i := 379) (by decide +kernel)) rfl
theorem ml_X6_49 : Cond.methodLink RX6 49 yX6_recorded ∈ tblA := tA (List.mem_of_getElem? (i := 408) (by decide +kernel)) rfl
theorem ml_X6_53 : Cond.methodLink RX6 53 yX4_putPoint ∈ tblA := tA (List.mem_of_getElem? (i := 421) (by decide +kernel)) rfl
theorem ml_X6_57 : Cond.methodLink RX6 57 yX4_joinChannel ∈ tblA := tA (List.mem_of_getElem? (i := 442) (by decide +kernel)) rfl
theorem ml_X6_61 : Cond.methodLink RX6 61 yX4_hasChannel ∈ tblA := tA (List.mem_of_getElem? (i := 457) (by decide +kernel)) rfl
theorem ml_X6_69 : Cond.methodLink RX6 69 yX0_putMode ∈ tblA := tA (List.mem_of_getElem? (i := 461) (by decide +kernel)) rfl
theorem ml_X6_75 : Cond.methodLink RX6 75 yX0_putNotch ∈ tblA := tA (List.mem_of_getElem? (i := 476) (by decide +kernel)) rfl
theorem ml_X6_78 : Cond.methodLink RX6 78 yX4_changeSetting ∈ tblA := tA (List.mem_of_getElem? (i := 485) (by decide +kernel)) rfl
theorem ml_X6_81 : Cond.methodLink RX6 81 yX4_begin ∈ tblA := tA (List.mem_of_getElem? (i := 497) (by decide +kernel)) rfl
theorem ml_X6_84 : Cond.methodLink RX6 84 yX4_doLoops ∈ tblA := tA (List.mem_of_getElem? (i := 509) (by decide +kernel)) rfl
theorem ml_X6_87 : Cond.methodLink RX6 87 yX4_holdOrGoOn ∈ tblA := tA (List.mem_of_getElem? (i := 608) (by decide +kernel)) rfl
theorem ml_X6_91 : Cond.methodLink RX6 91 yX4_abortByHand ∈ tblA := tA (List.mem_of_getElem? (i := 616) (by decide +kernel)) rfl
theorem ml_X6_95 : Cond.methodLink RX6 95 yX5_add ∈ tblA := tA (List.mem_of_getElem? (i := 624) (by decide +kernel)) rfl
theorem ml_X7_100 : Cond.methodLink RX7 100 yX7_greater ∈ tblA := tA (List.mem_of_getElem? (i := 954) (by decide +kernel)) rfl
theorem ml_X7_103 : Cond.methodLink RX7 103 yX7_measures ∈ tblA := tA (List.mem_of_getElem? (i := 933) (by decide +kernel)) rfl
theorem ml_X7_106 : Cond.methodLink RX7 106 yX7_watches ∈ tblA := tA (List.mem_of_getElem? (i := 946) (by decide +kernel)) rfl
theorem ml_X7_109 : Cond.methodLink RX7 109 yX7_isLine ∈ tblA := tA (List.mem_of_getElem? (i := 957) (by decide +kernel)) rfl
theorem ml_X7_112 : Cond.methodLink RX7 112 yX7_goesTo ∈ tblA := tA (List.mem_of_getElem? (i := 961) (by decide +kernel)) rfl
theorem ml_X7_117 : Cond.methodLink RX7 117 yX7_targetOf ∈ tblA := tA (List.mem_of_getElem? (i := 966) (by decide +kernel)) rfl
theorem ml_X7_124 : Cond.methodLink RX7 124 yX7_loop ∈ tblA := tA (List.mem_of_getElem? (i := 929) (by decide +kernel)) rfl
theorem ml_X7_127 : Cond.methodLink RX7 127 yX7_loops ∈ tblA := tA (List.mem_of_getElem? (i := 925) (by decide +kernel)) rfl
theorem ml_X7_130 : Cond.methodLink RX7 130 yX7_canHold ∈ tblA := tA (List.mem_of_getElem? (i := 976) (by decide +kernel)) rfl
theorem ml_X7_134 : Cond.methodLink RX7 134 yX7_canAbort ∈ tblA := tA (List.mem_of_getElem? (i := 984) (by decide +kernel)) rfl
theorem ml_X7_137 : Cond.methodLink RX7 137 yX7_aborts ∈ tblA := tA (List.mem_of_getElem? (i := 988) (by decide +kernel)) rfl
theorem ml_X7_146 : Cond.methodLink RX7 146 yX7_peek ∈ tblA := tA (List.mem_of_getElem? (i := 1004) (by decide +kernel)) rfl
theorem ml_X7_152 : Cond.methodLink RX7 152 yX7_takesNumber ∈ tblA := tA (List.mem_of_getElem? (i := 1015) (by decide +kernel)) rfl
theorem ml_X7_156 : Cond.methodLink RX7 156 yX7_takes ∈ tblA := tA (List.mem_of_getElem? (i := 1019) (by decide +kernel)) rfl
theorem ml_X7_159 : Cond.methodLink RX7 159 yX7_isLetter ∈ tblA := tA (List.mem_of_getElem? (i := 1008) (by decide +kernel)) rfl
theorem ml_X7_162 : Cond.methodLink RX7 162 yX7_takesAct ∈ tblA := tA (List.mem_of_getElem? (i := 1011) (by decide +kernel)) rfl
theorem ml_X7_165 : Cond.methodLink RX7 165 yX7_faultPosition ∈ tblA := tA (List.mem_of_getElem? (i := 1027) (by decide +kernel)) rfl
theorem ml_X7_168 : Cond.methodLink RX7 168 yX7_does ∈ tblA := tA (List.mem_of_getElem? (i := 1028) (by decide +kernel)) rfl
theorem ml_X7_171 : Cond.methodLink RX7 171 yX7_gainAt ∈ tblA := tA (List.mem_of_getElem? (i := 1088) (by decide +kernel)) rfl
theorem ml_X7_174 : Cond.methodLink RX7 174 yX7_isResonance ∈ tblA := tA (List.mem_of_getElem? (i := 1092) (by decide +kernel)) rfl
theorem ml_X7_177 : Cond.methodLink RX7 177 yX7_putAside ∈ tblA := tA (List.mem_of_getElem? (i := 1104) (by decide +kernel)) rfl
theorem ml_X7_180 : Cond.methodLink RX7 180 yX7_comesBack ∈ tblA := tA (List.mem_of_getElem? (i := 1108) (by decide +kernel)) rfl
theorem ml_X7_23 : Cond.methodLink RX7 23 yX7_forgets ∈ tblA := tA (List.mem_of_getElem? (i := 802) (by decide +kernel)) rfl
theorem ml_X7_26 : Cond.methodLink RX7 26 yX7_forgetsGains ∈ tblA := tA (List.mem_of_getElem? (i := 810) (by decide +kernel)) rfl
theorem ml_X7_33 : Cond.methodLink RX7 33 yX7_copies ∈ tblA := tA (List.mem_of_getElem? (i := 857) (by decide +kernel)) rfl
theorem ml_X7_37 : Cond.methodLink RX7 37 yX7_setChannel ∈ tblA := tA (List.mem_of_getElem? (i := 806) (by decide +kernel)) rfl
theorem ml_X7_41 : Cond.methodLink RX7 41 yX7_in ∈ tblA := tA (List.mem_of_getElem? (i := 843) (by decide +kernel)) rfl
theorem ml_X7_45 : Cond.methodLink RX7 45 yX7_rests ∈ tblA := tA (List.mem_of_getElem? (i := 846) (by decide +kernel)) rfl
theorem ml_X7_49 : Cond.methodLink RX7 49 yX7_next ∈ tblA := tA (List.mem_of_getElem? (i := 850) (by decide +kernel)) rfl
theorem ml_X7_53 : Cond.methodLink RX7 53 yX7_records ∈ tblA := tA (List.mem_of_getElem? (i := 853) (by decide +kernel)) rfl
theorem ml_X7_58 : Cond.methodLink RX7 58 yX7_isChannel ∈ tblA := tA (List.mem_of_getElem? (i := 875) (by decide +kernel)) rfl
theorem ml_X7_62 : Cond.methodLink RX7 62 yX7_gainOf ∈ tblA := tA (List.mem_of_getElem? (i := 879) (by decide +kernel)) rfl
theorem ml_X7_65 : Cond.methodLink RX7 65 yX7_ofChannel ∈ tblA := tA (List.mem_of_getElem? (i := 883) (by decide +kernel)) rfl
theorem ml_X7_68 : Cond.methodLink RX7 68 yX7_least ∈ tblA := tA (List.mem_of_getElem? (i := 899) (by decide +kernel)) rfl
theorem ml_X7_72 : Cond.methodLink RX7 72 yX7_most ∈ tblA := tA (List.mem_of_getElem? (i := 902) (by decide +kernel)) rfl
theorem ml_X7_75 : Cond.methodLink RX7 75 yX7_whyNotSet ∈ tblA := tA (List.mem_of_getElem? (i := 895) (by decide +kernel)) rfl
theorem ml_X7_78 : Cond.methodLink RX7 78 yX7_setting ∈ tblA := tA (List.mem_of_getElem? (i := 905) (by decide +kernel)) rfl
theorem ml_X7_81 : Cond.methodLink RX7 81 yX7_refusal ∈ tblA := tA (List.mem_of_getElem? (i := 913) (by decide +kernel)) rfl
theorem ml_X7_85 : Cond.methodLink RX7 85 yX7_starts ∈ tblA := tA (List.mem_of_getElem? (i := 917) (by decide +kernel)) rfl
theorem ml_X7_91 : Cond.methodLink RX7 91 yX7_averagedBy ∈ tblA := tA (List.mem_of_getElem? (i := 938) (by decide +kernel)) rfl
theorem ml_X7_94 : Cond.methodLink RX7 94 yX7_controlLevel ∈ tblA := tA (List.mem_of_getElem? (i := 942) (by decide +kernel)) rfl
theorem ml_X7_97 : Cond.methodLink RX7 97 yX7_limitOf ∈ tblA := tA (List.mem_of_getElem? (i := 950) (by decide +kernel)) rfl
theorem mn_X0_100 : Cond.methodLinkNest RX0 100 yX6_averagedGain "ShakerSweep" ∈ tblA := tA (List.mem_of_getElem? (i := 534) (by decide +kernel)) rfl
theorem mn_X0_122 : Cond.methodLinkNest RX0 122 yX6_copyRow "ShakerSweep" ∈ tblA := tA (List.mem_of_getElem? (i := 378) (by decide +kernel)) rfl
theorem mn_X0_74 : Cond.methodLinkNest RX0 74 yX6_isWithin "ShakerSweep" ∈ tblA := tA (List.mem_of_getElem? (i := 465) (by decide +kernel)) rfl
theorem mn_X0_78 : Cond.methodLinkNest RX0 78 yX6_isFrequency "ShakerSweep" ∈ tblA := tA (List.mem_of_getElem? (i := 466) (by decide +kernel)) rfl
theorem mn_X0_93 : Cond.methodLinkNest RX0 93 yX6_measuredGain "ShakerSweep" ∈ tblA := tA (List.mem_of_getElem? (i := 530) (by decide +kernel)) rfl
theorem mn_X2_31 : Cond.methodLinkNest RX2 31 yX6_copyRow "ShakerSweep" ∈ tblA := tA (List.mem_of_getElem? (i := 368) (by decide +kernel)) rfl
theorem mn_X3_30 : Cond.methodLinkNest RX3 30 yX6_copyRow "ShakerSweep" ∈ tblA := tA (List.mem_of_getElem? (i := 373) (by decide +kernel)) rfl
theorem mn_X4_117 : Cond.methodLinkNest RX4 117 yX6_isFrequency "ShakerSweep" ∈ tblA := tA (List.mem_of_getElem? (i := 425) (by decide +kernel)) rfl
theorem mn_X4_131 : Cond.fieldLinkNest RX4 131 "ShakerSweep" "SETTING_LEAST" "[I" "ShakerSweep" ∈ tblA := tA (List.mem_of_getElem? (i := 489) (by decide +kernel)) rfl
theorem mn_X4_134 : Cond.fieldLinkNest RX4 134 "ShakerSweep" "SETTING_GREATEST" "[I" "ShakerSweep" ∈ tblA := tA (List.mem_of_getElem? (i := 491) (by decide +kernel)) rfl
theorem mn_X4_182 : Cond.methodLinkNest RX4 182 yX6_measuredGain "ShakerSweep" ∈ tblA := tA (List.mem_of_getElem? (i := 544) (by decide +kernel)) rfl
theorem mn_X4_185 : Cond.methodLinkNest RX4 185 yX6_averagedGain "ShakerSweep" ∈ tblA := tA (List.mem_of_getElem? (i := 545) (by decide +kernel)) rfl
theorem mn_X4_55 : Cond.methodLinkNest RX4 55 yX6_copyRow "ShakerSweep" ∈ tblA := tA (List.mem_of_getElem? (i := 190) (by decide +kernel)) rfl
theorem mn_X4_68 : Cond.methodLinkNest RX4 68 yX6_isWithin "ShakerSweep" ∈ tblA := tA (List.mem_of_getElem? (i := 383) (by decide +kernel)) rfl
theorem mn_X5_15 : Cond.methodLinkNest RX5 15 yX6_isWithin "ShakerSweep" ∈ tblA := tA (List.mem_of_getElem? (i := 628) (by decide +kernel)) rfl
end
section
theorem dX0_init_0 : decode cX0_init 0 = .ok (.aload_n 0, 1) := by decide +kernel
theorem dX0_init_1 : decode cX0_init 1 = .ok (.invokespecial 3, 3) := by decide +kernel
theorem dX0_init_4 : decode cX0_init 4 = .ok (.aload_n 0, 1) := by decide +kernel
theorem dX0_init_5 : decode cX0_init 5 = .ok (.iconst 3, 1) := by decide +kernel
theorem dX0_init_6 : decode cX0_init 6 = .ok (.newarray .int, 2) := by decide +kernel
theorem dX0_init_8 : decode cX0_init 8 = .ok (.putfield 9, 3) := by decide +kernel
theorem dX0_init_11 : decode cX0_init 11 = .ok (.aload_n 0, 1) := by decide +kernel
theorem dX0_init_12 : decode cX0_init 12 = .ok (.iconst 3, 1) := by decide +kernel
theorem dX0_init_13 : decode cX0_init 13 = .ok (.newarray .int, 2) := by decide +kernel
theorem dX0_init_15 : decode cX0_init 15 = .ok (.putfield 15, 3) := by decide +kernel
theorem dX0_init_18 : decode cX0_init 18 = .ok (.aload_n 0, 1) := by decide +kernel
theorem dX0_init_19 : decode cX0_init 19 = .ok (.iconst 3, 1) := by decide +kernel
theorem dX0_init_20 : decode cX0_init 20 = .ok (.newarray .int, 2) := by decide +kernel
theorem dX0_init_22 : decode cX0_init 22 = .ok (.putfield 18, 3) := by decide +kernel
theorem dX0_init_25 : decode cX0_init 25 = .ok (.aload_n 0, 1) := by decide +kernel
theorem dX0_init_26 : decode cX0_init 26 = .ok (.iconst 4, 1) := by decide +kernel
theorem dX0_init_27 : decode cX0_init 27 = .ok (.newarray .int, 2) := by decide +kernel
theorem dX0_init_29 : decode cX0_init 29 = .ok (.putfield 21, 3) := by decide +kernel
theorem dX0_init_32 : decode cX0_init 32 = .ok (.aload_n 0, 1) := by decide +kernel
theorem dX0_init_33 : decode cX0_init 33 = .ok (.iconst 4, 1) := by decide +kernel
theorem dX0_init_34 : decode cX0_init 34 = .ok (.newarray .int, 2) := by decide +kernel
theorem dX0_init_36 : decode cX0_init 36 = .ok (.putfield 24, 3) := by decide +kernel
theorem dX0_init_39 : decode cX0_init 39 = .ok (.aload_n 0, 1) := by decide +kernel
theorem dX0_init_40 : decode cX0_init 40 = .ok (.iconst 4, 1) := by decide +kernel
theorem dX0_init_41 : decode cX0_init 41 = .ok (.newarray .int, 2) := by decide +kernel
theorem dX0_init_43 : decode cX0_init 43 = .ok (.putfield 27, 3) := by decide +kernel
theorem dX0_init_46 : decode cX0_init 46 = .ok (.aload_n 0, 1) := by decide +kernel
theorem dX0_init_47 : decode cX0_init 47 = .ok (.bipush 100, 2) := by decide +kernel
theorem dX0_init_49 : decode cX0_init 49 = .ok (.newarray .int, 2) := by decide +kernel
theorem dX0_init_51 : decode cX0_init 51 = .ok (.putfield 30, 3) := by decide +kernel
theorem dX0_init_54 : decode cX0_init 54 = .ok (.aload_n 0, 1) := by decide +kernel
theorem dX0_init_55 : decode cX0_init 55 = .ok (.bipush 100, 2) := by decide +kernel
theorem dX0_init_57 : decode cX0_init 57 = .ok (.newarray .int, 2) := by decide +kernel
theorem dX0_init_59 : decode cX0_init 59 = .ok (.putfield 33, 3) := by decide +kernel
theorem dX0_init_62 : decode cX0_init 62 = .ok (.return_, 1) := by decide +kernel
theorem dX0_become_0 : decode cX0_become 0 = .ok (.aload_n 0, 1) := by decide +kernel
theorem dX0_become_1 : decode cX0_become 1 = .ok (.iload_n 1, 1) := by decide +kernel
theorem dX0_become_2 : decode cX0_become 2 = .ok (.putfield 36, 3) := by decide +kernel
theorem dX0_become_5 : decode cX0_become 5 = .ok (.aload_n 0, 1) := by decide +kernel
theorem dX0_become_6 : decode cX0_become 6 = .ok (.iload_n 2, 1) := by decide +kernel
theorem dX0_become_7 : decode cX0_become 7 = .ok (.putfield 40, 3) := by decide +kernel
theorem dX0_become_10 : decode cX0_become 10 = .ok (.aload_n 0, 1) := by decide +kernel
theorem dX0_become_11 : decode cX0_become 11 = .ok (.iload_n 3, 1) := by decide +kernel
theorem dX0_become_12 : decode cX0_become 12 = .ok (.putfield 44, 3) := by decide +kernel
theorem dX0_become_15 : decode cX0_become 15 = .ok (.aload_n 0, 1) := by decide +kernel
theorem dX0_become_16 : decode cX0_become 16 = .ok (.getfield 9, 3) := by decide +kernel
theorem dX0_become_19 : decode cX0_become 19 = .ok (.iconst 1, 1) := by decide +kernel
theorem dX0_become_20 : decode cX0_become 20 = .ok (.invokestatic 47, 3) := by decide +kernel
theorem dX0_become_23 : decode cX0_become 23 = .ok (.aload_n 0, 1) := by decide +kernel
theorem dX0_become_24 : decode cX0_become 24 = .ok (.getfield 15, 3) := by decide +kernel
theorem dX0_become_27 : decode cX0_become 27 = .ok (.iconst 1, 1) := by decide +kernel
theorem dX0_become_28 : decode cX0_become 28 = .ok (.invokestatic 47, 3) := by decide +kernel
theorem dX0_become_31 : decode cX0_become 31 = .ok (.aload_n 0, 1) := by decide +kernel
theorem dX0_become_32 : decode cX0_become 32 = .ok (.getfield 18, 3) := by decide +kernel
theorem dX0_become_35 : decode cX0_become 35 = .ok (.iconst 0, 1) := by decide +kernel
theorem dX0_become_36 : decode cX0_become 36 = .ok (.invokestatic 47, 3) := by decide +kernel
theorem dX0_become_39 : decode cX0_become 39 = .ok (.aload_n 0, 1) := by decide +kernel
theorem dX0_become_40 : decode cX0_become 40 = .ok (.iconst 0, 1) := by decide +kernel
theorem dX0_become_41 : decode cX0_become 41 = .ok (.putfield 53, 3) := by decide +kernel
theorem dX0_become_44 : decode cX0_become 44 = .ok (.aload_n 0, 1) := by decide +kernel
theorem dX0_become_45 : decode cX0_become 45 = .ok (.invokevirtual 56, 3) := by decide +kernel
theorem dX0_become_48 : decode cX0_become 48 = .ok (.aload_n 0, 1) := by decide +kernel
theorem dX0_become_49 : decode cX0_become 49 = .ok (.invokevirtual 59, 3) := by decide +kernel
theorem dX0_become_52 : decode cX0_become 52 = .ok (.return_, 1) := by decide +kernel
theorem dX0_forgetRun_0 : decode cX0_forgetRun 0 = .ok (.aload_n 0, 1) := by decide +kernel
theorem dX0_forgetRun_1 : decode cX0_forgetRun 1 = .ok (.getfield 30, 3) := by decide +kernel
theorem dX0_forgetRun_4 : decode cX0_forgetRun 4 = .ok (.bipush (-6), 2) := by decide +kernel
theorem dX0_forgetRun_6 : decode cX0_forgetRun 6 = .ok (.invokestatic 47, 3) := by decide +kernel
theorem dX0_forgetRun_9 : decode cX0_forgetRun 9 = .ok (.aload_n 0, 1) := by decide +kernel
theorem dX0_forgetRun_10 : decode cX0_forgetRun 10 = .ok (.iconst 0, 1) := by decide +kernel
theorem dX0_forgetRun_11 : decode cX0_forgetRun 11 = .ok (.putfield 62, 3) := by decide +kernel
theorem dX0_forgetRun_14 : decode cX0_forgetRun 14 = .ok (.aload_n 0, 1) := by decide +kernel
theorem dX0_forgetRun_15 : decode cX0_forgetRun 15 = .ok (.iconst 0, 1) := by decide +kernel
theorem dX0_forgetRun_16 : decode cX0_forgetRun 16 = .ok (.putfield 65, 3) := by decide +kernel
theorem dX0_forgetRun_19 : decode cX0_forgetRun 19 = .ok (.aload_n 0, 1) := by decide +kernel
theorem dX0_forgetRun_20 : decode cX0_forgetRun 20 = .ok (.iconst 0, 1) := by decide +kernel
theorem dX0_forgetRun_21 : decode cX0_forgetRun 21 = .ok (.putfield 68, 3) := by decide +kernel
theorem dX0_forgetRun_24 : decode cX0_forgetRun 24 = .ok (.aload_n 0, 1) := by decide +kernel
theorem dX0_forgetRun_25 : decode cX0_forgetRun 25 = .ok (.iconst 0, 1) := by decide +kernel
theorem dX0_forgetRun_26 : decode cX0_forgetRun 26 = .ok (.putfield 71, 3) := by decide +kernel
theorem dX0_forgetRun_29 : decode cX0_forgetRun 29 = .ok (.return_, 1) := by decide +kernel
theorem dX0_forgetGains_0 : decode cX0_forgetGains 0 = .ok (.aload_n 0, 1) := by decide +kernel
theorem dX0_forgetGains_1 : decode cX0_forgetGains 1 = .ok (.getfield 33, 3) := by decide +kernel
theorem dX0_forgetGains_4 : decode cX0_forgetGains 4 = .ok (.bipush (-6), 2) := by decide +kernel
theorem dX0_forgetGains_6 : decode cX0_forgetGains 6 = .ok (.invokestatic 47, 3) := by decide +kernel
theorem dX0_forgetGains_9 : decode cX0_forgetGains 9 = .ok (.return_, 1) := by decide +kernel
theorem dX0_putMode_0 : decode cX0_putMode 0 = .ok (.iload_n 1, 1) := by decide +kernel
theorem dX0_putMode_1 : decode cX0_putMode 1 = .ok (.iconst 0, 1) := by decide +kernel
theorem dX0_putMode_2 : decode cX0_putMode 2 = .ok (.iconst 2, 1) := by decide +kernel
theorem dX0_putMode_3 : decode cX0_putMode 3 = .ok (.invokestatic 74, 3) := by decide +kernel
theorem dX0_putMode_6 : decode cX0_putMode 6 = .ok (.ifCond .ne 5, 3) := by decide +kernel
theorem dX0_putMode_9 : decode cX0_putMode 9 = .ok (.iconst (-1), 1) := by decide +kernel
theorem dX0_putMode_10 : decode cX0_putMode 10 = .ok (.ireturn, 1) := by decide +kernel
theorem dX0_putMode_11 : decode cX0_putMode 11 = .ok (.iload_n 2, 1) := by decide +kernel
theorem dX0_putMode_12 : decode cX0_putMode 12 = .ok (.invokestatic 78, 3) := by decide +kernel
theorem dX0_putMode_15 : decode cX0_putMode 15 = .ok (.ifCond .eq 25, 3) := by decide +kernel
theorem dX0_putMode_18 : decode cX0_putMode 18 = .ok (.iload_n 3, 1) := by decide +kernel
theorem dX0_putMode_19 : decode cX0_putMode 19 = .ok (.iconst 1, 1) := by decide +kernel
theorem dX0_putMode_20 : decode cX0_putMode 20 = .ok (.sipush 500, 3) := by decide +kernel
theorem dX0_putMode_23 : decode cX0_putMode 23 = .ok (.invokestatic 74, 3) := by decide +kernel
theorem dX0_putMode_26 : decode cX0_putMode 26 = .ok (.ifCond .eq 14, 3) := by decide +kernel
theorem dX0_putMode_29 : decode cX0_putMode 29 = .ok (.iload 4, 2) := by decide +kernel
theorem dX0_putMode_31 : decode cX0_putMode 31 = .ok (.iconst 0, 1) := by decide +kernel
theorem dX0_putMode_32 : decode cX0_putMode 32 = .ok (.ldc 82, 2) := by decide +kernel
theorem dX0_putMode_34 : decode cX0_putMode 34 = .ok (.invokestatic 74, 3) := by decide +kernel
theorem dX0_putMode_37 : decode cX0_putMode 37 = .ok (.ifCond .ne 6, 3) := by decide +kernel
theorem dX0_putMode_40 : decode cX0_putMode 40 = .ok (.bipush (-2), 2) := by decide +kernel
theorem dX0_putMode_42 : decode cX0_putMode 42 = .ok (.ireturn, 1) := by decide +kernel
theorem dX0_putMode_43 : decode cX0_putMode 43 = .ok (.aload_n 0, 1) := by decide +kernel
theorem dX0_putMode_44 : decode cX0_putMode 44 = .ok (.getfield 9, 3) := by decide +kernel
theorem dX0_putMode_47 : decode cX0_putMode 47 = .ok (.iload_n 1, 1) := by decide +kernel
theorem dX0_putMode_48 : decode cX0_putMode 48 = .ok (.iload_n 2, 1) := by decide +kernel
theorem dX0_putMode_49 : decode cX0_putMode 49 = .ok (.iastore, 1) := by decide +kernel
theorem dX0_putMode_50 : decode cX0_putMode 50 = .ok (.aload_n 0, 1) := by decide +kernel
theorem dX0_putMode_51 : decode cX0_putMode 51 = .ok (.getfield 15, 3) := by decide +kernel
theorem dX0_putMode_54 : decode cX0_putMode 54 = .ok (.iload_n 1, 1) := by decide +kernel
theorem dX0_putMode_55 : decode cX0_putMode 55 = .ok (.iload_n 3, 1) := by decide +kernel
theorem dX0_putMode_56 : decode cX0_putMode 56 = .ok (.iastore, 1) := by decide +kernel
theorem dX0_putMode_57 : decode cX0_putMode 57 = .ok (.aload_n 0, 1) := by decide +kernel
theorem dX0_putMode_58 : decode cX0_putMode 58 = .ok (.getfield 18, 3) := by decide +kernel
theorem dX0_putMode_61 : decode cX0_putMode 61 = .ok (.iload_n 1, 1) := by decide +kernel
theorem dX0_putMode_62 : decode cX0_putMode 62 = .ok (.iload 4, 2) := by decide +kernel
theorem dX0_putMode_64 : decode cX0_putMode 64 = .ok (.iastore, 1) := by decide +kernel
theorem dX0_putMode_65 : decode cX0_putMode 65 = .ok (.aload_n 0, 1) := by decide +kernel
theorem dX0_putMode_66 : decode cX0_putMode 66 = .ok (.iload_n 2, 1) := by decide +kernel
theorem dX0_putMode_67 : decode cX0_putMode 67 = .ok (.invokevirtual 83, 3) := by decide +kernel
theorem dX0_putMode_70 : decode cX0_putMode 70 = .ok (.ireturn, 1) := by decide +kernel
theorem dX0_putNotch_0 : decode cX0_putNotch 0 = .ok (.iload_n 1, 1) := by decide +kernel
theorem dX0_putNotch_1 : decode cX0_putNotch 1 = .ok (.invokestatic 78, 3) := by decide +kernel
theorem dX0_putNotch_4 : decode cX0_putNotch 4 = .ok (.ifCond .eq 24, 3) := by decide +kernel
theorem dX0_putNotch_7 : decode cX0_putNotch 7 = .ok (.iload_n 2, 1) := by decide +kernel
theorem dX0_putNotch_8 : decode cX0_putNotch 8 = .ok (.iload_n 1, 1) := by decide +kernel
theorem dX0_putNotch_9 : decode cX0_putNotch 9 = .ok (.sipush 2000, 3) := by decide +kernel
theorem dX0_putNotch_12 : decode cX0_putNotch 12 = .ok (.invokestatic 74, 3) := by decide +kernel
theorem dX0_putNotch_15 : decode cX0_putNotch 15 = .ok (.ifCond .eq 13, 3) := by decide +kernel
theorem dX0_putNotch_18 : decode cX0_putNotch 18 = .ok (.iload_n 3, 1) := by decide +kernel
theorem dX0_putNotch_19 : decode cX0_putNotch 19 = .ok (.iconst 1, 1) := by decide +kernel
theorem dX0_putNotch_20 : decode cX0_putNotch 20 = .ok (.ldc 87, 2) := by decide +kernel
theorem dX0_putNotch_22 : decode cX0_putNotch 22 = .ok (.invokestatic 74, 3) := by decide +kernel
theorem dX0_putNotch_25 : decode cX0_putNotch 25 = .ok (.ifCond .ne 6, 3) := by decide +kernel
theorem dX0_putNotch_28 : decode cX0_putNotch 28 = .ok (.bipush (-2), 2) := by decide +kernel
theorem dX0_putNotch_30 : decode cX0_putNotch 30 = .ok (.ireturn, 1) := by decide +kernel
theorem dX0_putNotch_31 : decode cX0_putNotch 31 = .ok (.aload_n 0, 1) := by decide +kernel
theorem dX0_putNotch_32 : decode cX0_putNotch 32 = .ok (.getfield 53, 3) := by decide +kernel
theorem dX0_putNotch_35 : decode cX0_putNotch 35 = .ok (.iconst 4, 1) := by decide +kernel
theorem dX0_putNotch_36 : decode cX0_putNotch 36 = .ok (.if_icmp .lt 6, 3) := by decide +kernel
theorem dX0_putNotch_39 : decode cX0_putNotch 39 = .ok (.bipush (-4), 2) := by decide +kernel
theorem dX0_putNotch_41 : decode cX0_putNotch 41 = .ok (.ireturn, 1) := by decide +kernel
theorem dX0_putNotch_42 : decode cX0_putNotch 42 = .ok (.aload_n 0, 1) := by decide +kernel
theorem dX0_putNotch_43 : decode cX0_putNotch 43 = .ok (.getfield 21, 3) := by decide +kernel
theorem dX0_putNotch_46 : decode cX0_putNotch 46 = .ok (.aload_n 0, 1) := by decide +kernel
theorem dX0_putNotch_47 : decode cX0_putNotch 47 = .ok (.getfield 53, 3) := by decide +kernel
theorem dX0_putNotch_50 : decode cX0_putNotch 50 = .ok (.iload_n 1, 1) := by decide +kernel
theorem dX0_putNotch_51 : decode cX0_putNotch 51 = .ok (.iastore, 1) := by decide +kernel
theorem dX0_putNotch_52 : decode cX0_putNotch 52 = .ok (.aload_n 0, 1) := by decide +kernel
theorem dX0_putNotch_53 : decode cX0_putNotch 53 = .ok (.getfield 24, 3) := by decide +kernel
theorem dX0_putNotch_56 : decode cX0_putNotch 56 = .ok (.aload_n 0, 1) := by decide +kernel
theorem dX0_putNotch_57 : decode cX0_putNotch 57 = .ok (.getfield 53, 3) := by decide +kernel
theorem dX0_putNotch_60 : decode cX0_putNotch 60 = .ok (.iload_n 2, 1) := by decide +kernel
theorem dX0_putNotch_61 : decode cX0_putNotch 61 = .ok (.iastore, 1) := by decide +kernel
theorem dX0_putNotch_62 : decode cX0_putNotch 62 = .ok (.aload_n 0, 1) := by decide +kernel
theorem dX0_putNotch_63 : decode cX0_putNotch 63 = .ok (.getfield 27, 3) := by decide +kernel
theorem dX0_putNotch_66 : decode cX0_putNotch 66 = .ok (.aload_n 0, 1) := by decide +kernel
theorem dX0_putNotch_67 : decode cX0_putNotch 67 = .ok (.getfield 53, 3) := by decide +kernel
theorem dX0_putNotch_70 : decode cX0_putNotch 70 = .ok (.iload_n 3, 1) := by decide +kernel
theorem dX0_putNotch_71 : decode cX0_putNotch 71 = .ok (.iastore, 1) := by decide +kernel
theorem dX0_putNotch_72 : decode cX0_putNotch 72 = .ok (.aload_n 0, 1) := by decide +kernel
theorem dX0_putNotch_73 : decode cX0_putNotch 73 = .ok (.dup, 1) := by decide +kernel
theorem dX0_putNotch_74 : decode cX0_putNotch 74 = .ok (.getfield 53, 3) := by decide +kernel
theorem dX0_putNotch_77 : decode cX0_putNotch 77 = .ok (.iconst 1, 1) := by decide +kernel
theorem dX0_putNotch_78 : decode cX0_putNotch 78 = .ok (.iadd, 1) := by decide +kernel
theorem dX0_putNotch_79 : decode cX0_putNotch 79 = .ok (.putfield 53, 3) := by decide +kernel
theorem dX0_putNotch_82 : decode cX0_putNotch 82 = .ok (.aload_n 0, 1) := by decide +kernel
theorem dX0_putNotch_83 : decode cX0_putNotch 83 = .ok (.getfield 53, 3) := by decide +kernel
theorem dX0_putNotch_86 : decode cX0_putNotch 86 = .ok (.iconst 1, 1) := by decide +kernel
theorem dX0_putNotch_87 : decode cX0_putNotch 87 = .ok (.isub, 1) := by decide +kernel
theorem dX0_putNotch_88 : decode cX0_putNotch 88 = .ok (.ireturn, 1) := by decide +kernel
theorem dX0_gainAt_0 : decode cX0_gainAt 0 = .ok (.aload_n 0, 1) := by decide +kernel
theorem dX0_gainAt_1 : decode cX0_gainAt 1 = .ok (.getfield 40, 3) := by decide +kernel
theorem dX0_gainAt_4 : decode cX0_gainAt 4 = .ok (.i2l, 1) := by decide +kernel
theorem dX0_gainAt_5 : decode cX0_gainAt 5 = .ok (.lstore_n 2, 1) := by decide +kernel
theorem dX0_gainAt_6 : decode cX0_gainAt 6 = .ok (.iconst 0, 1) := by decide +kernel
theorem dX0_gainAt_7 : decode cX0_gainAt 7 = .ok (.istore 4, 2) := by decide +kernel
theorem dX0_gainAt_9 : decode cX0_gainAt 9 = .ok (.iload 4, 2) := by decide +kernel
theorem dX0_gainAt_11 : decode cX0_gainAt 11 = .ok (.iconst 3, 1) := by decide +kernel
theorem dX0_gainAt_12 : decode cX0_gainAt 12 = .ok (.if_icmp .ge 74, 3) := by decide +kernel
theorem dX0_gainAt_15 : decode cX0_gainAt 15 = .ok (.iload_n 1, 1) := by decide +kernel
theorem dX0_gainAt_16 : decode cX0_gainAt 16 = .ok (.aload_n 0, 1) := by decide +kernel
theorem dX0_gainAt_17 : decode cX0_gainAt 17 = .ok (.getfield 9, 3) := by decide +kernel
theorem dX0_gainAt_20 : decode cX0_gainAt 20 = .ok (.iload 4, 2) := by decide +kernel
theorem dX0_gainAt_22 : decode cX0_gainAt 22 = .ok (.iaload, 1) := by decide +kernel
theorem dX0_gainAt_23 : decode cX0_gainAt 23 = .ok (.isub, 1) := by decide +kernel
theorem dX0_gainAt_24 : decode cX0_gainAt 24 = .ok (.i2l, 1) := by decide +kernel
theorem dX0_gainAt_25 : decode cX0_gainAt 25 = .ok (.lstore 5, 2) := by decide +kernel
theorem dX0_gainAt_27 : decode cX0_gainAt 27 = .ok (.aload_n 0, 1) := by decide +kernel
theorem dX0_gainAt_28 : decode cX0_gainAt 28 = .ok (.getfield 15, 3) := by decide +kernel
theorem dX0_gainAt_31 : decode cX0_gainAt 31 = .ok (.iload 4, 2) := by decide +kernel
theorem dX0_gainAt_33 : decode cX0_gainAt 33 = .ok (.iaload, 1) := by decide +kernel
theorem dX0_gainAt_34 : decode cX0_gainAt 34 = .ok (.i2l, 1) := by decide +kernel
theorem dX0_gainAt_35 : decode cX0_gainAt 35 = .ok (.aload_n 0, 1) := by decide +kernel
theorem dX0_gainAt_36 : decode cX0_gainAt 36 = .ok (.getfield 15, 3) := by decide +kernel
theorem dX0_gainAt_39 : decode cX0_gainAt 39 = .ok (.iload 4, 2) := by decide +kernel
theorem dX0_gainAt_41 : decode cX0_gainAt 41 = .ok (.iaload, 1) := by decide +kernel
theorem dX0_gainAt_42 : decode cX0_gainAt 42 = .ok (.i2l, 1) := by decide +kernel
theorem dX0_gainAt_43 : decode cX0_gainAt 43 = .ok (.lmul, 1) := by decide +kernel
theorem dX0_gainAt_44 : decode cX0_gainAt 44 = .ok (.lstore 7, 2) := by decide +kernel
theorem dX0_gainAt_46 : decode cX0_gainAt 46 = .ok (.lload 7, 2) := by decide +kernel
theorem dX0_gainAt_48 : decode cX0_gainAt 48 = .ok (.lload 5, 2) := by decide +kernel
theorem dX0_gainAt_50 : decode cX0_gainAt 50 = .ok (.lload 5, 2) := by decide +kernel
theorem dX0_gainAt_52 : decode cX0_gainAt 52 = .ok (.lmul, 1) := by decide +kernel
theorem dX0_gainAt_53 : decode cX0_gainAt 53 = .ok (.ladd, 1) := by decide +kernel
theorem dX0_gainAt_54 : decode cX0_gainAt 54 = .ok (.lstore 9, 2) := by decide +kernel
theorem dX0_gainAt_56 : decode cX0_gainAt 56 = .ok (.lload 9, 2) := by decide +kernel
theorem dX0_gainAt_58 : decode cX0_gainAt 58 = .ok (.lconst 0, 1) := by decide +kernel
theorem dX0_gainAt_59 : decode cX0_gainAt 59 = .ok (.lcmp, 1) := by decide +kernel
theorem dX0_gainAt_60 : decode cX0_gainAt 60 = .ok (.ifCond .le 20, 3) := by decide +kernel
theorem dX0_gainAt_63 : decode cX0_gainAt 63 = .ok (.lload_n 2, 1) := by decide +kernel
theorem dX0_gainAt_64 : decode cX0_gainAt 64 = .ok (.aload_n 0, 1) := by decide +kernel
theorem dX0_gainAt_65 : decode cX0_gainAt 65 = .ok (.getfield 18, 3) := by decide +kernel
theorem dX0_gainAt_68 : decode cX0_gainAt 68 = .ok (.iload 4, 2) := by decide +kernel
theorem dX0_gainAt_70 : decode cX0_gainAt 70 = .ok (.iaload, 1) := by decide +kernel
theorem dX0_gainAt_71 : decode cX0_gainAt 71 = .ok (.i2l, 1) := by decide +kernel
theorem dX0_gainAt_72 : decode cX0_gainAt 72 = .ok (.lload 7, 2) := by decide +kernel
theorem dX0_gainAt_74 : decode cX0_gainAt 74 = .ok (.lmul, 1) := by decide +kernel
theorem dX0_gainAt_75 : decode cX0_gainAt 75 = .ok (.lload 9, 2) := by decide +kernel
theorem dX0_gainAt_77 : decode cX0_gainAt 77 = .ok (.ldiv, 1) := by decide +kernel
theorem dX0_gainAt_78 : decode cX0_gainAt 78 = .ok (.ladd, 1) := by decide +kernel
theorem dX0_gainAt_79 : decode cX0_gainAt 79 = .ok (.lstore_n 2, 1) := by decide +kernel
theorem dX0_gainAt_80 : decode cX0_gainAt 80 = .ok (.iinc 4 1, 3) := by decide +kernel
theorem dX0_gainAt_83 : decode cX0_gainAt 83 = .ok (.goto (-74), 3) := by decide +kernel
theorem dX0_gainAt_86 : decode cX0_gainAt 86 = .ok (.lload_n 2, 1) := by decide +kernel
theorem dX0_gainAt_87 : decode cX0_gainAt 87 = .ok (.l2i, 1) := by decide +kernel
theorem dX0_gainAt_88 : decode cX0_gainAt 88 = .ok (.ireturn, 1) := by decide +kernel
theorem dX0_limitAt_0 : decode cX0_limitAt 0 = .ok (.bipush (-6), 2) := by decide +kernel
theorem dX0_limitAt_2 : decode cX0_limitAt 2 = .ok (.istore_n 2, 1) := by decide +kernel
theorem dX0_limitAt_3 : decode cX0_limitAt 3 = .ok (.iconst 0, 1) := by decide +kernel
theorem dX0_limitAt_4 : decode cX0_limitAt 4 = .ok (.istore_n 3, 1) := by decide +kernel
theorem dX0_limitAt_5 : decode cX0_limitAt 5 = .ok (.iload_n 3, 1) := by decide +kernel
theorem dX0_limitAt_6 : decode cX0_limitAt 6 = .ok (.aload_n 0, 1) := by decide +kernel
theorem dX0_limitAt_7 : decode cX0_limitAt 7 = .ok (.getfield 53, 3) := by decide +kernel
theorem dX0_limitAt_10 : decode cX0_limitAt 10 = .ok (.if_icmp .ge 64, 3) := by decide +kernel
theorem dX0_limitAt_13 : decode cX0_limitAt 13 = .ok (.aload_n 0, 1) := by decide +kernel
theorem dX0_limitAt_14 : decode cX0_limitAt 14 = .ok (.getfield 21, 3) := by decide +kernel
theorem dX0_limitAt_17 : decode cX0_limitAt 17 = .ok (.iload_n 3, 1) := by decide +kernel
theorem dX0_limitAt_18 : decode cX0_limitAt 18 = .ok (.iaload, 1) := by decide +kernel
theorem dX0_limitAt_19 : decode cX0_limitAt 19 = .ok (.iload_n 1, 1) := by decide +kernel
theorem dX0_limitAt_20 : decode cX0_limitAt 20 = .ok (.if_icmp .gt 17, 3) := by decide +kernel
theorem dX0_limitAt_23 : decode cX0_limitAt 23 = .ok (.iload_n 1, 1) := by decide +kernel
theorem dX0_limitAt_24 : decode cX0_limitAt 24 = .ok (.aload_n 0, 1) := by decide +kernel
theorem dX0_limitAt_25 : decode cX0_limitAt 25 = .ok (.getfield 24, 3) := by decide +kernel
theorem dX0_limitAt_28 : decode cX0_limitAt 28 = .ok (.iload_n 3, 1) := by decide +kernel
theorem dX0_limitAt_29 : decode cX0_limitAt 29 = .ok (.iaload, 1) := by decide +kernel
theorem dX0_limitAt_30 : decode cX0_limitAt 30 = .ok (.if_icmp .gt 7, 3) := by decide +kernel
theorem dX0_limitAt_33 : decode cX0_limitAt 33 = .ok (.iconst 1, 1) := by decide +kernel
theorem dX0_limitAt_34 : decode cX0_limitAt 34 = .ok (.goto 4, 3) := by decide +kernel
theorem dX0_limitAt_37 : decode cX0_limitAt 37 = .ok (.iconst 0, 1) := by decide +kernel
theorem dX0_limitAt_38 : decode cX0_limitAt 38 = .ok (.istore 4, 2) := by decide +kernel
theorem dX0_limitAt_40 : decode cX0_limitAt 40 = .ok (.iload 4, 2) := by decide +kernel
theorem dX0_limitAt_42 : decode cX0_limitAt 42 = .ok (.ifCond .eq 26, 3) := by decide +kernel
theorem dX0_limitAt_45 : decode cX0_limitAt 45 = .ok (.iload_n 2, 1) := by decide +kernel
theorem dX0_limitAt_46 : decode cX0_limitAt 46 = .ok (.bipush (-6), 2) := by decide +kernel
theorem dX0_limitAt_48 : decode cX0_limitAt 48 = .ok (.if_icmp .eq 13, 3) := by decide +kernel
theorem dX0_limitAt_51 : decode cX0_limitAt 51 = .ok (.aload_n 0, 1) := by decide +kernel
theorem dX0_limitAt_52 : decode cX0_limitAt 52 = .ok (.getfield 27, 3) := by decide +kernel
theorem dX0_limitAt_55 : decode cX0_limitAt 55 = .ok (.iload_n 3, 1) := by decide +kernel
theorem dX0_limitAt_56 : decode cX0_limitAt 56 = .ok (.iaload, 1) := by decide +kernel
theorem dX0_limitAt_57 : decode cX0_limitAt 57 = .ok (.iload_n 2, 1) := by decide +kernel
theorem dX0_limitAt_58 : decode cX0_limitAt 58 = .ok (.if_icmp .ge 10, 3) := by decide +kernel
theorem dX0_limitAt_61 : decode cX0_limitAt 61 = .ok (.aload_n 0, 1) := by decide +kernel
theorem dX0_limitAt_62 : decode cX0_limitAt 62 = .ok (.getfield 27, 3) := by decide +kernel
theorem dX0_limitAt_65 : decode cX0_limitAt 65 = .ok (.iload_n 3, 1) := by decide +kernel
theorem dX0_limitAt_66 : decode cX0_limitAt 66 = .ok (.iaload, 1) := by decide +kernel
theorem dX0_limitAt_67 : decode cX0_limitAt 67 = .ok (.istore_n 2, 1) := by decide +kernel
theorem dX0_limitAt_68 : decode cX0_limitAt 68 = .ok (.iinc 3 1, 3) := by decide +kernel
theorem dX0_limitAt_71 : decode cX0_limitAt 71 = .ok (.goto (-66), 3) := by decide +kernel
theorem dX0_limitAt_74 : decode cX0_limitAt 74 = .ok (.iload_n 2, 1) := by decide +kernel
theorem dX0_limitAt_75 : decode cX0_limitAt 75 = .ok (.ireturn, 1) := by decide +kernel
theorem dX0_measure_0 : decode cX0_measure 0 = .ok (.aload_n 0, 1) := by decide +kernel
theorem dX0_measure_1 : decode cX0_measure 1 = .ok (.aload_n 0, 1) := by decide +kernel
theorem dX0_measure_2 : decode cX0_measure 2 = .ok (.iload_n 2, 1) := by decide +kernel
theorem dX0_measure_3 : decode cX0_measure 3 = .ok (.invokevirtual 83, 3) := by decide +kernel
theorem dX0_measure_6 : decode cX0_measure 6 = .ok (.i2l, 1) := by decide +kernel
theorem dX0_measure_7 : decode cX0_measure 7 = .ok (.iload_n 3, 1) := by decide +kernel
theorem dX0_measure_8 : decode cX0_measure 8 = .ok (.i2l, 1) := by decide +kernel
theorem dX0_measure_9 : decode cX0_measure 9 = .ok (.lmul, 1) := by decide +kernel
theorem dX0_measure_10 : decode cX0_measure 10 = .ok (.ldc2_w 88, 3) := by decide +kernel
theorem dX0_measure_13 : decode cX0_measure 13 = .ok (.ldiv, 1) := by decide +kernel
theorem dX0_measure_14 : decode cX0_measure 14 = .ok (.l2i, 1) := by decide +kernel
theorem dX0_measure_15 : decode cX0_measure 15 = .ok (.putfield 90, 3) := by decide +kernel
theorem dX0_measure_18 : decode cX0_measure 18 = .ok (.aload_n 0, 1) := by decide +kernel
theorem dX0_measure_19 : decode cX0_measure 19 = .ok (.aload_n 0, 1) := by decide +kernel
theorem dX0_measure_20 : decode cX0_measure 20 = .ok (.getfield 90, 3) := by decide +kernel
theorem dX0_measure_23 : decode cX0_measure 23 = .ok (.iload_n 3, 1) := by decide +kernel
theorem dX0_measure_24 : decode cX0_measure 24 = .ok (.invokestatic 93, 3) := by decide +kernel
theorem dX0_measure_27 : decode cX0_measure 27 = .ok (.putfield 97, 3) := by decide +kernel
theorem dX0_measure_30 : decode cX0_measure 30 = .ok (.aload_n 0, 1) := by decide +kernel
theorem dX0_measure_31 : decode cX0_measure 31 = .ok (.getfield 30, 3) := by decide +kernel
theorem dX0_measure_34 : decode cX0_measure 34 = .ok (.iload_n 1, 1) := by decide +kernel
theorem dX0_measure_35 : decode cX0_measure 35 = .ok (.aload_n 0, 1) := by decide +kernel
theorem dX0_measure_36 : decode cX0_measure 36 = .ok (.getfield 90, 3) := by decide +kernel
theorem dX0_measure_39 : decode cX0_measure 39 = .ok (.iastore, 1) := by decide +kernel
theorem dX0_measure_40 : decode cX0_measure 40 = .ok (.aload_n 0, 1) := by decide +kernel
theorem dX0_measure_41 : decode cX0_measure 41 = .ok (.getfield 33, 3) := by decide +kernel
theorem dX0_measure_44 : decode cX0_measure 44 = .ok (.iload_n 1, 1) := by decide +kernel
theorem dX0_measure_45 : decode cX0_measure 45 = .ok (.aload_n 0, 1) := by decide +kernel
theorem dX0_measure_46 : decode cX0_measure 46 = .ok (.getfield 33, 3) := by decide +kernel
theorem dX0_measure_49 : decode cX0_measure 49 = .ok (.iload_n 1, 1) := by decide +kernel
theorem dX0_measure_50 : decode cX0_measure 50 = .ok (.iaload, 1) := by decide +kernel
theorem dX0_measure_51 : decode cX0_measure 51 = .ok (.aload_n 0, 1) := by decide +kernel
theorem dX0_measure_52 : decode cX0_measure 52 = .ok (.getfield 97, 3) := by decide +kernel
theorem dX0_measure_55 : decode cX0_measure 55 = .ok (.iload 4, 2) := by decide +kernel
theorem dX0_measure_57 : decode cX0_measure 57 = .ok (.invokestatic 100, 3) := by decide +kernel
theorem dX0_measure_60 : decode cX0_measure 60 = .ok (.iastore, 1) := by decide +kernel
theorem dX0_measure_61 : decode cX0_measure 61 = .ok (.return_, 1) := by decide +kernel
theorem dX0_countLoop_0 : decode cX0_countLoop 0 = .ok (.aload_n 0, 1) := by decide +kernel
theorem dX0_countLoop_1 : decode cX0_countLoop 1 = .ok (.iload_n 1, 1) := by decide +kernel
theorem dX0_countLoop_2 : decode cX0_countLoop 2 = .ok (.invokevirtual 104, 3) := by decide +kernel
theorem dX0_countLoop_5 : decode cX0_countLoop 5 = .ok (.istore_n 2, 1) := by decide +kernel
theorem dX0_countLoop_6 : decode cX0_countLoop 6 = .ok (.iload_n 2, 1) := by decide +kernel
theorem dX0_countLoop_7 : decode cX0_countLoop 7 = .ok (.bipush (-6), 2) := by decide +kernel
theorem dX0_countLoop_9 : decode cX0_countLoop 9 = .ok (.if_icmp .eq 15, 3) := by decide +kernel
theorem dX0_countLoop_12 : decode cX0_countLoop 12 = .ok (.aload_n 0, 1) := by decide +kernel
theorem dX0_countLoop_13 : decode cX0_countLoop 13 = .ok (.getfield 90, 3) := by decide +kernel
theorem dX0_countLoop_16 : decode cX0_countLoop 16 = .ok (.iload_n 2, 1) := by decide +kernel
theorem dX0_countLoop_17 : decode cX0_countLoop 17 = .ok (.if_icmp .le 7, 3) := by decide +kernel
theorem dX0_countLoop_20 : decode cX0_countLoop 20 = .ok (.iconst 1, 1) := by decide +kernel
theorem dX0_countLoop_21 : decode cX0_countLoop 21 = .ok (.goto 4, 3) := by decide +kernel
theorem dX0_countLoop_24 : decode cX0_countLoop 24 = .ok (.iconst 0, 1) := by decide +kernel
theorem dX0_countLoop_25 : decode cX0_countLoop 25 = .ok (.istore_n 3, 1) := by decide +kernel
theorem dX0_countLoop_26 : decode cX0_countLoop 26 = .ok (.aload_n 0, 1) := by decide +kernel
theorem dX0_countLoop_27 : decode cX0_countLoop 27 = .ok (.iload_n 3, 1) := by decide +kernel
theorem dX0_countLoop_28 : decode cX0_countLoop 28 = .ok (.ifCond .eq 12, 3) := by decide +kernel
theorem dX0_countLoop_31 : decode cX0_countLoop 31 = .ok (.aload_n 0, 1) := by decide +kernel
theorem dX0_countLoop_32 : decode cX0_countLoop 32 = .ok (.getfield 62, 3) := by decide +kernel
theorem dX0_countLoop_35 : decode cX0_countLoop 35 = .ok (.iconst 1, 1) := by decide +kernel
theorem dX0_countLoop_36 : decode cX0_countLoop 36 = .ok (.iadd, 1) := by decide +kernel
theorem dX0_countLoop_37 : decode cX0_countLoop 37 = .ok (.goto 4, 3) := by decide +kernel
theorem dX0_countLoop_40 : decode cX0_countLoop 40 = .ok (.iconst 0, 1) := by decide +kernel
theorem dX0_countLoop_41 : decode cX0_countLoop 41 = .ok (.putfield 62, 3) := by decide +kernel
theorem dX0_countLoop_44 : decode cX0_countLoop 44 = .ok (.aload_n 0, 1) := by decide +kernel
theorem dX0_countLoop_45 : decode cX0_countLoop 45 = .ok (.aload_n 0, 1) := by decide +kernel
theorem dX0_countLoop_46 : decode cX0_countLoop 46 = .ok (.getfield 65, 3) := by decide +kernel
theorem dX0_countLoop_49 : decode cX0_countLoop 49 = .ok (.aload_n 0, 1) := by decide +kernel
theorem dX0_countLoop_50 : decode cX0_countLoop 50 = .ok (.getfield 62, 3) := by decide +kernel
theorem dX0_countLoop_53 : decode cX0_countLoop 53 = .ok (.invokestatic 107, 3) := by decide +kernel
theorem dX0_countLoop_56 : decode cX0_countLoop 56 = .ok (.putfield 65, 3) := by decide +kernel
theorem dX0_countLoop_59 : decode cX0_countLoop 59 = .ok (.iload_n 3, 1) := by decide +kernel
theorem dX0_countLoop_60 : decode cX0_countLoop 60 = .ok (.ifCond .eq 20, 3) := by decide +kernel
theorem dX0_countLoop_63 : decode cX0_countLoop 63 = .ok (.aload_n 0, 1) := by decide +kernel
theorem dX0_countLoop_64 : decode cX0_countLoop 64 = .ok (.aload_n 0, 1) := by decide +kernel
theorem dX0_countLoop_65 : decode cX0_countLoop 65 = .ok (.getfield 68, 3) := by decide +kernel
theorem dX0_countLoop_68 : decode cX0_countLoop 68 = .ok (.aload_n 0, 1) := by decide +kernel
theorem dX0_countLoop_69 : decode cX0_countLoop 69 = .ok (.getfield 90, 3) := by decide +kernel
theorem dX0_countLoop_72 : decode cX0_countLoop 72 = .ok (.iload_n 2, 1) := by decide +kernel
theorem dX0_countLoop_73 : decode cX0_countLoop 73 = .ok (.isub, 1) := by decide +kernel
theorem dX0_countLoop_74 : decode cX0_countLoop 74 = .ok (.invokestatic 107, 3) := by decide +kernel
theorem dX0_countLoop_77 : decode cX0_countLoop 77 = .ok (.putfield 68, 3) := by decide +kernel
theorem dX0_countLoop_80 : decode cX0_countLoop 80 = .ok (.aload_n 0, 1) := by decide +kernel
theorem dX0_countLoop_81 : decode cX0_countLoop 81 = .ok (.aload_n 0, 1) := by decide +kernel
theorem dX0_countLoop_82 : decode cX0_countLoop 82 = .ok (.getfield 90, 3) := by decide +kernel
theorem dX0_countLoop_85 : decode cX0_countLoop 85 = .ok (.aload_n 0, 1) := by decide +kernel
theorem dX0_countLoop_86 : decode cX0_countLoop 86 = .ok (.getfield 44, 3) := by decide +kernel
theorem dX0_countLoop_89 : decode cX0_countLoop 89 = .ok (.if_icmp .le 12, 3) := by decide +kernel
theorem dX0_countLoop_92 : decode cX0_countLoop 92 = .ok (.aload_n 0, 1) := by decide +kernel
theorem dX0_countLoop_93 : decode cX0_countLoop 93 = .ok (.getfield 71, 3) := by decide +kernel
theorem dX0_countLoop_96 : decode cX0_countLoop 96 = .ok (.iconst 1, 1) := by decide +kernel
theorem dX0_countLoop_97 : decode cX0_countLoop 97 = .ok (.iadd, 1) := by decide +kernel
theorem dX0_countLoop_98 : decode cX0_countLoop 98 = .ok (.goto 4, 3) := by decide +kernel
theorem dX0_countLoop_101 : decode cX0_countLoop 101 = .ok (.iconst 0, 1) := by decide +kernel
theorem dX0_countLoop_102 : decode cX0_countLoop 102 = .ok (.putfield 71, 3) := by decide +kernel
theorem dX0_countLoop_105 : decode cX0_countLoop 105 = .ok (.return_, 1) := by decide +kernel
theorem dX0_notchedDrive_0 : decode cX0_notchedDrive 0 = .ok (.aload_n 0, 1) := by decide +kernel
theorem dX0_notchedDrive_1 : decode cX0_notchedDrive 1 = .ok (.iload_n 2, 1) := by decide +kernel
theorem dX0_notchedDrive_2 : decode cX0_notchedDrive 2 = .ok (.invokevirtual 104, 3) := by decide +kernel
theorem dX0_notchedDrive_5 : decode cX0_notchedDrive 5 = .ok (.istore_n 3, 1) := by decide +kernel
theorem dX0_notchedDrive_6 : decode cX0_notchedDrive 6 = .ok (.aload_n 0, 1) := by decide +kernel
theorem dX0_notchedDrive_7 : decode cX0_notchedDrive 7 = .ok (.getfield 33, 3) := by decide +kernel
theorem dX0_notchedDrive_10 : decode cX0_notchedDrive 10 = .ok (.iload_n 1, 1) := by decide +kernel
theorem dX0_notchedDrive_11 : decode cX0_notchedDrive 11 = .ok (.iaload, 1) := by decide +kernel
theorem dX0_notchedDrive_12 : decode cX0_notchedDrive 12 = .ok (.bipush (-6), 2) := by decide +kernel
theorem dX0_notchedDrive_14 : decode cX0_notchedDrive 14 = .ok (.if_icmp .eq 12, 3) := by decide +kernel
theorem dX0_notchedDrive_17 : decode cX0_notchedDrive 17 = .ok (.aload_n 0, 1) := by decide +kernel
theorem dX0_notchedDrive_18 : decode cX0_notchedDrive 18 = .ok (.getfield 33, 3) := by decide +kernel
theorem dX0_notchedDrive_21 : decode cX0_notchedDrive 21 = .ok (.iload_n 1, 1) := by decide +kernel
theorem dX0_notchedDrive_22 : decode cX0_notchedDrive 22 = .ok (.iaload, 1) := by decide +kernel
theorem dX0_notchedDrive_23 : decode cX0_notchedDrive 23 = .ok (.goto 7, 3) := by decide +kernel
theorem dX0_notchedDrive_26 : decode cX0_notchedDrive 26 = .ok (.aload_n 0, 1) := by decide +kernel
theorem dX0_notchedDrive_27 : decode cX0_notchedDrive 27 = .ok (.getfield 97, 3) := by decide +kernel
theorem dX0_notchedDrive_30 : decode cX0_notchedDrive 30 = .ok (.istore 4, 2) := by decide +kernel
theorem dX0_notchedDrive_32 : decode cX0_notchedDrive 32 = .ok (.iload_n 3, 1) := by decide +kernel
theorem dX0_notchedDrive_33 : decode cX0_notchedDrive 33 = .ok (.bipush (-6), 2) := by decide +kernel
theorem dX0_notchedDrive_35 : decode cX0_notchedDrive 35 = .ok (.if_icmp .eq 22, 3) := by decide +kernel
theorem dX0_notchedDrive_38 : decode cX0_notchedDrive 38 = .ok (.iload 4, 2) := by decide +kernel
theorem dX0_notchedDrive_40 : decode cX0_notchedDrive 40 = .ok (.ifCond .le 17, 3) := by decide +kernel
theorem dX0_notchedDrive_43 : decode cX0_notchedDrive 43 = .ok (.iload_n 3, 1) := by decide +kernel
theorem dX0_notchedDrive_44 : decode cX0_notchedDrive 44 = .ok (.i2l, 1) := by decide +kernel
theorem dX0_notchedDrive_45 : decode cX0_notchedDrive 45 = .ok (.ldc2_w 88, 3) := by decide +kernel
theorem dX0_notchedDrive_48 : decode cX0_notchedDrive 48 = .ok (.lmul, 1) := by decide +kernel
theorem dX0_notchedDrive_49 : decode cX0_notchedDrive 49 = .ok (.iload 4, 2) := by decide +kernel
theorem dX0_notchedDrive_51 : decode cX0_notchedDrive 51 = .ok (.i2l, 1) := by decide +kernel
theorem dX0_notchedDrive_52 : decode cX0_notchedDrive 52 = .ok (.ldiv, 1) := by decide +kernel
theorem dX0_notchedDrive_53 : decode cX0_notchedDrive 53 = .ok (.l2i, 1) := by decide +kernel
theorem dX0_notchedDrive_54 : decode cX0_notchedDrive 54 = .ok (.goto 5, 3) := by decide +kernel
theorem dX0_notchedDrive_57 : decode cX0_notchedDrive 57 = .ok (.bipush (-6), 2) := by decide +kernel
theorem dX0_notchedDrive_59 : decode cX0_notchedDrive 59 = .ok (.ireturn, 1) := by decide +kernel
theorem dX0_propertyOf_0 : decode cX0_propertyOf 0 = .ok (.iload_n 1, 1) := by decide +kernel
theorem dX0_propertyOf_1 : decode cX0_propertyOf 1 = .ok (.tableswitch 86 0 6 #[43, 56, 61, 66, 71, 76, 81], 43) := by decide +kernel
theorem dX0_propertyOf_44 : decode cX0_propertyOf 44 = .ok (.aload_n 0, 1) := by decide +kernel
theorem dX0_propertyOf_45 : decode cX0_propertyOf 45 = .ok (.getfield 36, 3) := by decide +kernel
theorem dX0_propertyOf_48 : decode cX0_propertyOf 48 = .ok (.ifCond .eq 7, 3) := by decide +kernel
theorem dX0_propertyOf_51 : decode cX0_propertyOf 51 = .ok (.iconst 1, 1) := by decide +kernel
theorem dX0_propertyOf_52 : decode cX0_propertyOf 52 = .ok (.goto 4, 3) := by decide +kernel
theorem dX0_propertyOf_55 : decode cX0_propertyOf 55 = .ok (.iconst 0, 1) := by decide +kernel
theorem dX0_propertyOf_56 : decode cX0_propertyOf 56 = .ok (.ireturn, 1) := by decide +kernel
theorem dX0_propertyOf_57 : decode cX0_propertyOf 57 = .ok (.aload_n 0, 1) := by decide +kernel
theorem dX0_propertyOf_58 : decode cX0_propertyOf 58 = .ok (.getfield 40, 3) := by decide +kernel
theorem dX0_propertyOf_61 : decode cX0_propertyOf 61 = .ok (.ireturn, 1) := by decide +kernel
theorem dX0_propertyOf_62 : decode cX0_propertyOf 62 = .ok (.aload_n 0, 1) := by decide +kernel
theorem dX0_propertyOf_63 : decode cX0_propertyOf 63 = .ok (.getfield 44, 3) := by decide +kernel
theorem dX0_propertyOf_66 : decode cX0_propertyOf 66 = .ok (.ireturn, 1) := by decide +kernel
theorem dX0_propertyOf_67 : decode cX0_propertyOf 67 = .ok (.aload_n 0, 1) := by decide +kernel
theorem dX0_propertyOf_68 : decode cX0_propertyOf 68 = .ok (.getfield 53, 3) := by decide +kernel
theorem dX0_propertyOf_71 : decode cX0_propertyOf 71 = .ok (.ireturn, 1) := by decide +kernel
theorem dX0_propertyOf_72 : decode cX0_propertyOf 72 = .ok (.aload_n 0, 1) := by decide +kernel
theorem dX0_propertyOf_73 : decode cX0_propertyOf 73 = .ok (.getfield 62, 3) := by decide +kernel
theorem dX0_propertyOf_76 : decode cX0_propertyOf 76 = .ok (.ireturn, 1) := by decide +kernel
theorem dX0_propertyOf_77 : decode cX0_propertyOf 77 = .ok (.aload_n 0, 1) := by decide +kernel
theorem dX0_propertyOf_78 : decode cX0_propertyOf 78 = .ok (.getfield 65, 3) := by decide +kernel
theorem dX0_propertyOf_81 : decode cX0_propertyOf 81 = .ok (.ireturn, 1) := by decide +kernel
theorem dX0_propertyOf_82 : decode cX0_propertyOf 82 = .ok (.aload_n 0, 1) := by decide +kernel
theorem dX0_propertyOf_83 : decode cX0_propertyOf 83 = .ok (.getfield 68, 3) := by decide +kernel
theorem dX0_propertyOf_86 : decode cX0_propertyOf 86 = .ok (.ireturn, 1) := by decide +kernel
theorem dX0_propertyOf_87 : decode cX0_propertyOf 87 = .ok (.aload_n 0, 1) := by decide +kernel
theorem dX0_propertyOf_88 : decode cX0_propertyOf 88 = .ok (.getfield 71, 3) := by decide +kernel
theorem dX0_propertyOf_91 : decode cX0_propertyOf 91 = .ok (.ireturn, 1) := by decide +kernel
theorem dX0_resonanceAt_0 : decode cX0_resonanceAt 0 = .ok (.iconst 0, 1) := by decide +kernel
theorem dX0_resonanceAt_1 : decode cX0_resonanceAt 1 = .ok (.istore_n 3, 1) := by decide +kernel
theorem dX0_resonanceAt_2 : decode cX0_resonanceAt 2 = .ok (.iload_n 3, 1) := by decide +kernel
theorem dX0_resonanceAt_3 : decode cX0_resonanceAt 3 = .ok (.iload_n 2, 1) := by decide +kernel
theorem dX0_resonanceAt_4 : decode cX0_resonanceAt 4 = .ok (.if_icmp .ge 30, 3) := by decide +kernel
theorem dX0_resonanceAt_7 : decode cX0_resonanceAt 7 = .ok (.aload_n 0, 1) := by decide +kernel
theorem dX0_resonanceAt_8 : decode cX0_resonanceAt 8 = .ok (.iload_n 3, 1) := by decide +kernel
theorem dX0_resonanceAt_9 : decode cX0_resonanceAt 9 = .ok (.iload_n 2, 1) := by decide +kernel
theorem dX0_resonanceAt_10 : decode cX0_resonanceAt 10 = .ok (.invokevirtual 112, 3) := by decide +kernel
theorem dX0_resonanceAt_13 : decode cX0_resonanceAt 13 = .ok (.ifCond .eq 15, 3) := by decide +kernel
theorem dX0_resonanceAt_16 : decode cX0_resonanceAt 16 = .ok (.aload_n 0, 1) := by decide +kernel
theorem dX0_resonanceAt_17 : decode cX0_resonanceAt 17 = .ok (.iload_n 3, 1) := by decide +kernel
theorem dX0_resonanceAt_18 : decode cX0_resonanceAt 18 = .ok (.iload_n 2, 1) := by decide +kernel
theorem dX0_resonanceAt_19 : decode cX0_resonanceAt 19 = .ok (.invokevirtual 116, 3) := by decide +kernel
theorem dX0_resonanceAt_22 : decode cX0_resonanceAt 22 = .ok (.iload_n 1, 1) := by decide +kernel
theorem dX0_resonanceAt_23 : decode cX0_resonanceAt 23 = .ok (.if_icmp .ne 5, 3) := by decide +kernel
theorem dX0_resonanceAt_26 : decode cX0_resonanceAt 26 = .ok (.iload_n 3, 1) := by decide +kernel
theorem dX0_resonanceAt_27 : decode cX0_resonanceAt 27 = .ok (.ireturn, 1) := by decide +kernel
theorem dX0_resonanceAt_28 : decode cX0_resonanceAt 28 = .ok (.iinc 3 1, 3) := by decide +kernel
theorem dX0_resonanceAt_31 : decode cX0_resonanceAt 31 = .ok (.goto (-29), 3) := by decide +kernel
theorem dX0_resonanceAt_34 : decode cX0_resonanceAt 34 = .ok (.bipush (-6), 2) := by decide +kernel
theorem dX0_resonanceAt_36 : decode cX0_resonanceAt 36 = .ok (.ireturn, 1) := by decide +kernel
theorem dX0_resonancesAhead_0 : decode cX0_resonancesAhead 0 = .ok (.iconst 0, 1) := by decide +kernel
theorem dX0_resonancesAhead_1 : decode cX0_resonancesAhead 1 = .ok (.istore_n 3, 1) := by decide +kernel
theorem dX0_resonancesAhead_2 : decode cX0_resonancesAhead 2 = .ok (.iconst 0, 1) := by decide +kernel
theorem dX0_resonancesAhead_3 : decode cX0_resonancesAhead 3 = .ok (.istore 4, 2) := by decide +kernel
theorem dX0_resonancesAhead_5 : decode cX0_resonancesAhead 5 = .ok (.iload 4, 2) := by decide +kernel
theorem dX0_resonancesAhead_7 : decode cX0_resonancesAhead 7 = .ok (.iload_n 2, 1) := by decide +kernel
theorem dX0_resonancesAhead_8 : decode cX0_resonancesAhead 8 = .ok (.if_icmp .ge 72, 3) := by decide +kernel
theorem dX0_resonancesAhead_11 : decode cX0_resonancesAhead 11 = .ok (.aload_n 0, 1) := by decide +kernel
theorem dX0_resonancesAhead_12 : decode cX0_resonancesAhead 12 = .ok (.getfield 33, 3) := by decide +kernel
theorem dX0_resonancesAhead_15 : decode cX0_resonancesAhead 15 = .ok (.iload 4, 2) := by decide +kernel
theorem dX0_resonancesAhead_17 : decode cX0_resonancesAhead 17 = .ok (.iaload, 1) := by decide +kernel
theorem dX0_resonancesAhead_18 : decode cX0_resonancesAhead 18 = .ok (.aload_n 0, 1) := by decide +kernel
theorem dX0_resonancesAhead_19 : decode cX0_resonancesAhead 19 = .ok (.getfield 33, 3) := by decide +kernel
theorem dX0_resonancesAhead_22 : decode cX0_resonancesAhead 22 = .ok (.iload_n 1, 1) := by decide +kernel
theorem dX0_resonancesAhead_23 : decode cX0_resonancesAhead 23 = .ok (.iaload, 1) := by decide +kernel
theorem dX0_resonancesAhead_24 : decode cX0_resonancesAhead 24 = .ok (.if_icmp .gt 25, 3) := by decide +kernel
theorem dX0_resonancesAhead_27 : decode cX0_resonancesAhead 27 = .ok (.aload_n 0, 1) := by decide +kernel
theorem dX0_resonancesAhead_28 : decode cX0_resonancesAhead 28 = .ok (.getfield 33, 3) := by decide +kernel
theorem dX0_resonancesAhead_31 : decode cX0_resonancesAhead 31 = .ok (.iload 4, 2) := by decide +kernel
theorem dX0_resonancesAhead_33 : decode cX0_resonancesAhead 33 = .ok (.iaload, 1) := by decide +kernel
theorem dX0_resonancesAhead_34 : decode cX0_resonancesAhead 34 = .ok (.aload_n 0, 1) := by decide +kernel
theorem dX0_resonancesAhead_35 : decode cX0_resonancesAhead 35 = .ok (.getfield 33, 3) := by decide +kernel
theorem dX0_resonancesAhead_38 : decode cX0_resonancesAhead 38 = .ok (.iload_n 1, 1) := by decide +kernel
theorem dX0_resonancesAhead_39 : decode cX0_resonancesAhead 39 = .ok (.iaload, 1) := by decide +kernel
theorem dX0_resonancesAhead_40 : decode cX0_resonancesAhead 40 = .ok (.if_icmp .ne 13, 3) := by decide +kernel
theorem dX0_resonancesAhead_43 : decode cX0_resonancesAhead 43 = .ok (.iload 4, 2) := by decide +kernel
theorem dX0_resonancesAhead_45 : decode cX0_resonancesAhead 45 = .ok (.iload_n 1, 1) := by decide +kernel
theorem dX0_resonancesAhead_46 : decode cX0_resonancesAhead 46 = .ok (.if_icmp .ge 7, 3) := by decide +kernel
theorem dX0_resonancesAhead_49 : decode cX0_resonancesAhead 49 = .ok (.iconst 1, 1) := by decide +kernel
theorem dX0_resonancesAhead_50 : decode cX0_resonancesAhead 50 = .ok (.goto 4, 3) := by decide +kernel
theorem dX0_resonancesAhead_53 : decode cX0_resonancesAhead 53 = .ok (.iconst 0, 1) := by decide +kernel
theorem dX0_resonancesAhead_54 : decode cX0_resonancesAhead 54 = .ok (.istore 5, 2) := by decide +kernel
theorem dX0_resonancesAhead_56 : decode cX0_resonancesAhead 56 = .ok (.iload 5, 2) := by decide +kernel
theorem dX0_resonancesAhead_58 : decode cX0_resonancesAhead 58 = .ok (.ifCond .eq 16, 3) := by decide +kernel
theorem dX0_resonancesAhead_61 : decode cX0_resonancesAhead 61 = .ok (.aload_n 0, 1) := by decide +kernel
theorem dX0_resonancesAhead_62 : decode cX0_resonancesAhead 62 = .ok (.iload 4, 2) := by decide +kernel
theorem dX0_resonancesAhead_64 : decode cX0_resonancesAhead 64 = .ok (.iload_n 2, 1) := by decide +kernel
theorem dX0_resonancesAhead_65 : decode cX0_resonancesAhead 65 = .ok (.invokevirtual 112, 3) := by decide +kernel
theorem dX0_resonancesAhead_68 : decode cX0_resonancesAhead 68 = .ok (.ifCond .eq 6, 3) := by decide +kernel
theorem dX0_resonancesAhead_71 : decode cX0_resonancesAhead 71 = .ok (.iinc 3 1, 3) := by decide +kernel
theorem dX0_resonancesAhead_74 : decode cX0_resonancesAhead 74 = .ok (.iinc 4 1, 3) := by decide +kernel
theorem dX0_resonancesAhead_77 : decode cX0_resonancesAhead 77 = .ok (.goto (-72), 3) := by decide +kernel
theorem dX0_resonancesAhead_80 : decode cX0_resonancesAhead 80 = .ok (.iload_n 3, 1) := by decide +kernel
theorem dX0_resonancesAhead_81 : decode cX0_resonancesAhead 81 = .ok (.ireturn, 1) := by decide +kernel
theorem dX0_isResonance_0 : decode cX0_isResonance 0 = .ok (.aload_n 0, 1) := by decide +kernel
theorem dX0_isResonance_1 : decode cX0_isResonance 1 = .ok (.getfield 33, 3) := by decide +kernel
theorem dX0_isResonance_4 : decode cX0_isResonance 4 = .ok (.iload_n 1, 1) := by decide +kernel
theorem dX0_isResonance_5 : decode cX0_isResonance 5 = .ok (.iaload, 1) := by decide +kernel
theorem dX0_isResonance_6 : decode cX0_isResonance 6 = .ok (.istore_n 3, 1) := by decide +kernel
theorem dX0_isResonance_7 : decode cX0_isResonance 7 = .ok (.iload_n 3, 1) := by decide +kernel
theorem dX0_isResonance_8 : decode cX0_isResonance 8 = .ok (.bipush (-6), 2) := by decide +kernel
theorem dX0_isResonance_10 : decode cX0_isResonance 10 = .ok (.if_icmp .eq 31, 3) := by decide +kernel
theorem dX0_isResonance_13 : decode cX0_isResonance 13 = .ok (.iload_n 3, 1) := by decide +kernel
theorem dX0_isResonance_14 : decode cX0_isResonance 14 = .ok (.aload_n 0, 1) := by decide +kernel
theorem dX0_isResonance_15 : decode cX0_isResonance 15 = .ok (.iload_n 1, 1) := by decide +kernel
theorem dX0_isResonance_16 : decode cX0_isResonance 16 = .ok (.iconst 1, 1) := by decide +kernel
theorem dX0_isResonance_17 : decode cX0_isResonance 17 = .ok (.isub, 1) := by decide +kernel
theorem dX0_isResonance_18 : decode cX0_isResonance 18 = .ok (.iload_n 2, 1) := by decide +kernel
theorem dX0_isResonance_19 : decode cX0_isResonance 19 = .ok (.invokevirtual 119, 3) := by decide +kernel
theorem dX0_isResonance_22 : decode cX0_isResonance 22 = .ok (.if_icmp .le 19, 3) := by decide +kernel
theorem dX0_isResonance_25 : decode cX0_isResonance 25 = .ok (.iload_n 3, 1) := by decide +kernel
theorem dX0_isResonance_26 : decode cX0_isResonance 26 = .ok (.aload_n 0, 1) := by decide +kernel
theorem dX0_isResonance_27 : decode cX0_isResonance 27 = .ok (.iload_n 1, 1) := by decide +kernel
theorem dX0_isResonance_28 : decode cX0_isResonance 28 = .ok (.iconst 1, 1) := by decide +kernel
theorem dX0_isResonance_29 : decode cX0_isResonance 29 = .ok (.iadd, 1) := by decide +kernel
theorem dX0_isResonance_30 : decode cX0_isResonance 30 = .ok (.iload_n 2, 1) := by decide +kernel
theorem dX0_isResonance_31 : decode cX0_isResonance 31 = .ok (.invokevirtual 119, 3) := by decide +kernel
theorem dX0_isResonance_34 : decode cX0_isResonance 34 = .ok (.if_icmp .le 7, 3) := by decide +kernel
theorem dX0_isResonance_37 : decode cX0_isResonance 37 = .ok (.iconst 1, 1) := by decide +kernel
theorem dX0_isResonance_38 : decode cX0_isResonance 38 = .ok (.goto 4, 3) := by decide +kernel
theorem dX0_isResonance_41 : decode cX0_isResonance 41 = .ok (.iconst 0, 1) := by decide +kernel
theorem dX0_isResonance_42 : decode cX0_isResonance 42 = .ok (.ireturn, 1) := by decide +kernel
theorem dX0_gainOfLine_0 : decode cX0_gainOfLine 0 = .ok (.iload_n 1, 1) := by decide +kernel
theorem dX0_gainOfLine_1 : decode cX0_gainOfLine 1 = .ok (.iconst 0, 1) := by decide +kernel
theorem dX0_gainOfLine_2 : decode cX0_gainOfLine 2 = .ok (.iload_n 2, 1) := by decide +kernel
theorem dX0_gainOfLine_3 : decode cX0_gainOfLine 3 = .ok (.iconst 1, 1) := by decide +kernel
theorem dX0_gainOfLine_4 : decode cX0_gainOfLine 4 = .ok (.isub, 1) := by decide +kernel
theorem dX0_gainOfLine_5 : decode cX0_gainOfLine 5 = .ok (.invokestatic 74, 3) := by decide +kernel
theorem dX0_gainOfLine_8 : decode cX0_gainOfLine 8 = .ok (.ifCond .eq 12, 3) := by decide +kernel
theorem dX0_gainOfLine_11 : decode cX0_gainOfLine 11 = .ok (.aload_n 0, 1) := by decide +kernel
theorem dX0_gainOfLine_12 : decode cX0_gainOfLine 12 = .ok (.getfield 33, 3) := by decide +kernel
theorem dX0_gainOfLine_15 : decode cX0_gainOfLine 15 = .ok (.iload_n 1, 1) := by decide +kernel
theorem dX0_gainOfLine_16 : decode cX0_gainOfLine 16 = .ok (.iaload, 1) := by decide +kernel
theorem dX0_gainOfLine_17 : decode cX0_gainOfLine 17 = .ok (.goto 5, 3) := by decide +kernel
theorem dX0_gainOfLine_20 : decode cX0_gainOfLine 20 = .ok (.bipush (-6), 2) := by decide +kernel
theorem dX0_gainOfLine_22 : decode cX0_gainOfLine 22 = .ok (.ireturn, 1) := by decide +kernel
theorem dX0_copyFrom_0 : decode cX0_copyFrom 0 = .ok (.aload_n 0, 1) := by decide +kernel
theorem dX0_copyFrom_1 : decode cX0_copyFrom 1 = .ok (.aload_n 1, 1) := by decide +kernel
theorem dX0_copyFrom_2 : decode cX0_copyFrom 2 = .ok (.getfield 36, 3) := by decide +kernel
theorem dX0_copyFrom_5 : decode cX0_copyFrom 5 = .ok (.putfield 36, 3) := by decide +kernel
theorem dX0_copyFrom_8 : decode cX0_copyFrom 8 = .ok (.aload_n 0, 1) := by decide +kernel
theorem dX0_copyFrom_9 : decode cX0_copyFrom 9 = .ok (.aload_n 1, 1) := by decide +kernel
theorem dX0_copyFrom_10 : decode cX0_copyFrom 10 = .ok (.getfield 40, 3) := by decide +kernel
theorem dX0_copyFrom_13 : decode cX0_copyFrom 13 = .ok (.putfield 40, 3) := by decide +kernel
theorem dX0_copyFrom_16 : decode cX0_copyFrom 16 = .ok (.aload_n 0, 1) := by decide +kernel
theorem dX0_copyFrom_17 : decode cX0_copyFrom 17 = .ok (.aload_n 1, 1) := by decide +kernel
theorem dX0_copyFrom_18 : decode cX0_copyFrom 18 = .ok (.getfield 44, 3) := by decide +kernel
theorem dX0_copyFrom_21 : decode cX0_copyFrom 21 = .ok (.putfield 44, 3) := by decide +kernel
theorem dX0_copyFrom_24 : decode cX0_copyFrom 24 = .ok (.aload_n 1, 1) := by decide +kernel
theorem dX0_copyFrom_25 : decode cX0_copyFrom 25 = .ok (.getfield 9, 3) := by decide +kernel
theorem dX0_copyFrom_28 : decode cX0_copyFrom 28 = .ok (.aload_n 0, 1) := by decide +kernel
theorem dX0_copyFrom_29 : decode cX0_copyFrom 29 = .ok (.getfield 9, 3) := by decide +kernel
theorem dX0_copyFrom_32 : decode cX0_copyFrom 32 = .ok (.invokestatic 122, 3) := by decide +kernel
theorem dX0_copyFrom_35 : decode cX0_copyFrom 35 = .ok (.aload_n 1, 1) := by decide +kernel
theorem dX0_copyFrom_36 : decode cX0_copyFrom 36 = .ok (.getfield 15, 3) := by decide +kernel
theorem dX0_copyFrom_39 : decode cX0_copyFrom 39 = .ok (.aload_n 0, 1) := by decide +kernel
theorem dX0_copyFrom_40 : decode cX0_copyFrom 40 = .ok (.getfield 15, 3) := by decide +kernel
theorem dX0_copyFrom_43 : decode cX0_copyFrom 43 = .ok (.invokestatic 122, 3) := by decide +kernel
theorem dX0_copyFrom_46 : decode cX0_copyFrom 46 = .ok (.aload_n 1, 1) := by decide +kernel
theorem dX0_copyFrom_47 : decode cX0_copyFrom 47 = .ok (.getfield 18, 3) := by decide +kernel
theorem dX0_copyFrom_50 : decode cX0_copyFrom 50 = .ok (.aload_n 0, 1) := by decide +kernel
theorem dX0_copyFrom_51 : decode cX0_copyFrom 51 = .ok (.getfield 18, 3) := by decide +kernel
theorem dX0_copyFrom_54 : decode cX0_copyFrom 54 = .ok (.invokestatic 122, 3) := by decide +kernel
theorem dX0_copyFrom_57 : decode cX0_copyFrom 57 = .ok (.aload_n 1, 1) := by decide +kernel
theorem dX0_copyFrom_58 : decode cX0_copyFrom 58 = .ok (.getfield 21, 3) := by decide +kernel
theorem dX0_copyFrom_61 : decode cX0_copyFrom 61 = .ok (.aload_n 0, 1) := by decide +kernel
theorem dX0_copyFrom_62 : decode cX0_copyFrom 62 = .ok (.getfield 21, 3) := by decide +kernel
theorem dX0_copyFrom_65 : decode cX0_copyFrom 65 = .ok (.invokestatic 122, 3) := by decide +kernel
theorem dX0_copyFrom_68 : decode cX0_copyFrom 68 = .ok (.aload_n 1, 1) := by decide +kernel
theorem dX0_copyFrom_69 : decode cX0_copyFrom 69 = .ok (.getfield 24, 3) := by decide +kernel
theorem dX0_copyFrom_72 : decode cX0_copyFrom 72 = .ok (.aload_n 0, 1) := by decide +kernel
theorem dX0_copyFrom_73 : decode cX0_copyFrom 73 = .ok (.getfield 24, 3) := by decide +kernel
theorem dX0_copyFrom_76 : decode cX0_copyFrom 76 = .ok (.invokestatic 122, 3) := by decide +kernel
theorem dX0_copyFrom_79 : decode cX0_copyFrom 79 = .ok (.aload_n 1, 1) := by decide +kernel
theorem dX0_copyFrom_80 : decode cX0_copyFrom 80 = .ok (.getfield 27, 3) := by decide +kernel
theorem dX0_copyFrom_83 : decode cX0_copyFrom 83 = .ok (.aload_n 0, 1) := by decide +kernel
theorem dX0_copyFrom_84 : decode cX0_copyFrom 84 = .ok (.getfield 27, 3) := by decide +kernel
theorem dX0_copyFrom_87 : decode cX0_copyFrom 87 = .ok (.invokestatic 122, 3) := by decide +kernel
theorem dX0_copyFrom_90 : decode cX0_copyFrom 90 = .ok (.aload_n 0, 1) := by decide +kernel
theorem dX0_copyFrom_91 : decode cX0_copyFrom 91 = .ok (.aload_n 1, 1) := by decide +kernel
theorem dX0_copyFrom_92 : decode cX0_copyFrom 92 = .ok (.getfield 53, 3) := by decide +kernel
theorem dX0_copyFrom_95 : decode cX0_copyFrom 95 = .ok (.putfield 53, 3) := by decide +kernel
theorem dX0_copyFrom_98 : decode cX0_copyFrom 98 = .ok (.aload_n 1, 1) := by decide +kernel
theorem dX0_copyFrom_99 : decode cX0_copyFrom 99 = .ok (.getfield 30, 3) := by decide +kernel
theorem dX0_copyFrom_102 : decode cX0_copyFrom 102 = .ok (.aload_n 0, 1) := by decide +kernel
theorem dX0_copyFrom_103 : decode cX0_copyFrom 103 = .ok (.getfield 30, 3) := by decide +kernel
theorem dX0_copyFrom_106 : decode cX0_copyFrom 106 = .ok (.invokestatic 122, 3) := by decide +kernel
theorem dX0_copyFrom_109 : decode cX0_copyFrom 109 = .ok (.aload_n 1, 1) := by decide +kernel
theorem dX0_copyFrom_110 : decode cX0_copyFrom 110 = .ok (.getfield 33, 3) := by decide +kernel
theorem dX0_copyFrom_113 : decode cX0_copyFrom 113 = .ok (.aload_n 0, 1) := by decide +kernel
theorem dX0_copyFrom_114 : decode cX0_copyFrom 114 = .ok (.getfield 33, 3) := by decide +kernel
theorem dX0_copyFrom_117 : decode cX0_copyFrom 117 = .ok (.invokestatic 122, 3) := by decide +kernel
theorem dX0_copyFrom_120 : decode cX0_copyFrom 120 = .ok (.aload_n 0, 1) := by decide +kernel
theorem dX0_copyFrom_121 : decode cX0_copyFrom 121 = .ok (.aload_n 1, 1) := by decide +kernel
theorem dX0_copyFrom_122 : decode cX0_copyFrom 122 = .ok (.getfield 90, 3) := by decide +kernel
theorem dX0_copyFrom_125 : decode cX0_copyFrom 125 = .ok (.putfield 90, 3) := by decide +kernel
theorem dX0_copyFrom_128 : decode cX0_copyFrom 128 = .ok (.aload_n 0, 1) := by decide +kernel
theorem dX0_copyFrom_129 : decode cX0_copyFrom 129 = .ok (.aload_n 1, 1) := by decide +kernel
theorem dX0_copyFrom_130 : decode cX0_copyFrom 130 = .ok (.getfield 97, 3) := by decide +kernel
theorem dX0_copyFrom_133 : decode cX0_copyFrom 133 = .ok (.putfield 97, 3) := by decide +kernel
theorem dX0_copyFrom_136 : decode cX0_copyFrom 136 = .ok (.aload_n 0, 1) := by decide +kernel
theorem dX0_copyFrom_137 : decode cX0_copyFrom 137 = .ok (.aload_n 1, 1) := by decide +kernel
theorem dX0_copyFrom_138 : decode cX0_copyFrom 138 = .ok (.getfield 62, 3) := by decide +kernel
theorem dX0_copyFrom_141 : decode cX0_copyFrom 141 = .ok (.putfield 62, 3) := by decide +kernel
theorem dX0_copyFrom_144 : decode cX0_copyFrom 144 = .ok (.aload_n 0, 1) := by decide +kernel
theorem dX0_copyFrom_145 : decode cX0_copyFrom 145 = .ok (.aload_n 1, 1) := by decide +kernel
theorem dX0_copyFrom_146 : decode cX0_copyFrom 146 = .ok (.getfield 65, 3) := by decide +kernel
theorem dX0_copyFrom_149 : decode cX0_copyFrom 149 = .ok (.putfield 65, 3) := by decide +kernel
theorem dX0_copyFrom_152 : decode cX0_copyFrom 152 = .ok (.aload_n 0, 1) := by decide +kernel
theorem dX0_copyFrom_153 : decode cX0_copyFrom 153 = .ok (.aload_n 1, 1) := by decide +kernel
theorem dX0_copyFrom_154 : decode cX0_copyFrom 154 = .ok (.getfield 68, 3) := by decide +kernel
theorem dX0_copyFrom_157 : decode cX0_copyFrom 157 = .ok (.putfield 68, 3) := by decide +kernel
theorem dX0_copyFrom_160 : decode cX0_copyFrom 160 = .ok (.aload_n 0, 1) := by decide +kernel
theorem dX0_copyFrom_161 : decode cX0_copyFrom 161 = .ok (.aload_n 1, 1) := by decide +kernel
theorem dX0_copyFrom_162 : decode cX0_copyFrom 162 = .ok (.getfield 71, 3) := by decide +kernel
theorem dX0_copyFrom_165 : decode cX0_copyFrom 165 = .ok (.putfield 71, 3) := by decide +kernel
theorem dX0_copyFrom_168 : decode cX0_copyFrom 168 = .ok (.return_, 1) := by decide +kernel
theorem dX1_init_0 : decode cX1_init 0 = .ok (.aload_n 0, 1) := by decide +kernel
theorem dX1_init_1 : decode cX1_init 1 = .ok (.invokespecial 3, 3) := by decide +kernel
theorem dX1_init_4 : decode cX1_init 4 = .ok (.aload_n 0, 1) := by decide +kernel
theorem dX1_init_5 : decode cX1_init 5 = .ok (.bipush 6, 2) := by decide +kernel
theorem dX1_init_7 : decode cX1_init 7 = .ok (.anewarray 11, 3) := by decide +kernel
theorem dX1_init_10 : decode cX1_init 10 = .ok (.putfield 13, 3) := by decide +kernel
theorem dX1_init_13 : decode cX1_init 13 = .ok (.iconst 0, 1) := by decide +kernel
theorem dX1_init_14 : decode cX1_init 14 = .ok (.istore_n 1, 1) := by decide +kernel
theorem dX1_init_15 : decode cX1_init 15 = .ok (.iload_n 1, 1) := by decide +kernel
theorem dX1_init_16 : decode cX1_init 16 = .ok (.bipush 6, 2) := by decide +kernel
theorem dX1_init_18 : decode cX1_init 18 = .ok (.if_icmp .ge 22, 3) := by decide +kernel
theorem dX1_init_21 : decode cX1_init 21 = .ok (.aload_n 0, 1) := by decide +kernel
theorem dX1_init_22 : decode cX1_init 22 = .ok (.getfield 13, 3) := by decide +kernel
theorem dX1_init_25 : decode cX1_init 25 = .ok (.iload_n 1, 1) := by decide +kernel
theorem dX1_init_26 : decode cX1_init 26 = .ok (.new 11, 3) := by decide +kernel
theorem dX1_init_29 : decode cX1_init 29 = .ok (.dup, 1) := by decide +kernel
theorem dX1_init_30 : decode cX1_init 30 = .ok (.invokespecial 17, 3) := by decide +kernel
theorem dX1_init_33 : decode cX1_init 33 = .ok (.aastore, 1) := by decide +kernel
theorem dX1_init_34 : decode cX1_init 34 = .ok (.iinc 1 1, 3) := by decide +kernel
theorem dX1_init_37 : decode cX1_init 37 = .ok (.goto (-22), 3) := by decide +kernel
theorem dX1_init_40 : decode cX1_init 40 = .ok (.return_, 1) := by decide +kernel
theorem dX1_note_0 : decode cX1_note 0 = .ok (.aload_n 0, 1) := by decide +kernel
theorem dX1_note_1 : decode cX1_note 1 = .ok (.getfield 13, 3) := by decide +kernel
theorem dX1_note_4 : decode cX1_note 4 = .ok (.aload_n 0, 1) := by decide +kernel
theorem dX1_note_5 : decode cX1_note 5 = .ok (.getfield 18, 3) := by decide +kernel
theorem dX1_note_8 : decode cX1_note 8 = .ok (.aaload, 1) := by decide +kernel
theorem dX1_note_9 : decode cX1_note 9 = .ok (.aload_n 1, 1) := by decide +kernel
theorem dX1_note_10 : decode cX1_note 10 = .ok (.invokevirtual 22, 3) := by decide +kernel
theorem dX1_note_13 : decode cX1_note 13 = .ok (.return_, 1) := by decide +kernel
theorem dX1_keepNoted_0 : decode cX1_keepNoted 0 = .ok (.aload_n 0, 1) := by decide +kernel
theorem dX1_keepNoted_1 : decode cX1_keepNoted 1 = .ok (.aload_n 0, 1) := by decide +kernel
theorem dX1_keepNoted_2 : decode cX1_keepNoted 2 = .ok (.getfield 18, 3) := by decide +kernel
theorem dX1_keepNoted_5 : decode cX1_keepNoted 5 = .ok (.iconst 1, 1) := by decide +kernel
theorem dX1_keepNoted_6 : decode cX1_keepNoted 6 = .ok (.iadd, 1) := by decide +kernel
theorem dX1_keepNoted_7 : decode cX1_keepNoted 7 = .ok (.bipush 6, 2) := by decide +kernel
theorem dX1_keepNoted_9 : decode cX1_keepNoted 9 = .ok (.irem, 1) := by decide +kernel
theorem dX1_keepNoted_10 : decode cX1_keepNoted 10 = .ok (.putfield 18, 3) := by decide +kernel
theorem dX1_keepNoted_13 : decode cX1_keepNoted 13 = .ok (.aload_n 0, 1) := by decide +kernel
theorem dX1_keepNoted_14 : decode cX1_keepNoted 14 = .ok (.aload_n 0, 1) := by decide +kernel
theorem dX1_keepNoted_15 : decode cX1_keepNoted 15 = .ok (.getfield 26, 3) := by decide +kernel
theorem dX1_keepNoted_18 : decode cX1_keepNoted 18 = .ok (.iconst 1, 1) := by decide +kernel
theorem dX1_keepNoted_19 : decode cX1_keepNoted 19 = .ok (.iadd, 1) := by decide +kernel
theorem dX1_keepNoted_20 : decode cX1_keepNoted 20 = .ok (.iconst 5, 1) := by decide +kernel
theorem dX1_keepNoted_21 : decode cX1_keepNoted 21 = .ok (.invokestatic 29, 3) := by decide +kernel
theorem dX1_keepNoted_24 : decode cX1_keepNoted 24 = .ok (.putfield 26, 3) := by decide +kernel
theorem dX1_keepNoted_27 : decode cX1_keepNoted 27 = .ok (.return_, 1) := by decide +kernel
theorem dX1_takeBack_0 : decode cX1_takeBack 0 = .ok (.aload_n 0, 1) := by decide +kernel
theorem dX1_takeBack_1 : decode cX1_takeBack 1 = .ok (.getfield 26, 3) := by decide +kernel
theorem dX1_takeBack_4 : decode cX1_takeBack 4 = .ok (.ifCond .ne 6, 3) := by decide +kernel
theorem dX1_takeBack_7 : decode cX1_takeBack 7 = .ok (.bipush (-3), 2) := by decide +kernel
theorem dX1_takeBack_9 : decode cX1_takeBack 9 = .ok (.ireturn, 1) := by decide +kernel
theorem dX1_takeBack_10 : decode cX1_takeBack 10 = .ok (.aload_n 0, 1) := by decide +kernel
theorem dX1_takeBack_11 : decode cX1_takeBack 11 = .ok (.aload_n 0, 1) := by decide +kernel
theorem dX1_takeBack_12 : decode cX1_takeBack 12 = .ok (.getfield 18, 3) := by decide +kernel
theorem dX1_takeBack_15 : decode cX1_takeBack 15 = .ok (.bipush 6, 2) := by decide +kernel
theorem dX1_takeBack_17 : decode cX1_takeBack 17 = .ok (.iadd, 1) := by decide +kernel
theorem dX1_takeBack_18 : decode cX1_takeBack 18 = .ok (.iconst 1, 1) := by decide +kernel
theorem dX1_takeBack_19 : decode cX1_takeBack 19 = .ok (.isub, 1) := by decide +kernel
theorem dX1_takeBack_20 : decode cX1_takeBack 20 = .ok (.bipush 6, 2) := by decide +kernel
theorem dX1_takeBack_22 : decode cX1_takeBack 22 = .ok (.irem, 1) := by decide +kernel
theorem dX1_takeBack_23 : decode cX1_takeBack 23 = .ok (.putfield 18, 3) := by decide +kernel
theorem dX1_takeBack_26 : decode cX1_takeBack 26 = .ok (.aload_n 0, 1) := by decide +kernel
theorem dX1_takeBack_27 : decode cX1_takeBack 27 = .ok (.dup, 1) := by decide +kernel
theorem dX1_takeBack_28 : decode cX1_takeBack 28 = .ok (.getfield 26, 3) := by decide +kernel
theorem dX1_takeBack_31 : decode cX1_takeBack 31 = .ok (.iconst 1, 1) := by decide +kernel
theorem dX1_takeBack_32 : decode cX1_takeBack 32 = .ok (.isub, 1) := by decide +kernel
theorem dX1_takeBack_33 : decode cX1_takeBack 33 = .ok (.putfield 26, 3) := by decide +kernel
theorem dX1_takeBack_36 : decode cX1_takeBack 36 = .ok (.aload_n 1, 1) := by decide +kernel
theorem dX1_takeBack_37 : decode cX1_takeBack 37 = .ok (.aload_n 0, 1) := by decide +kernel
theorem dX1_takeBack_38 : decode cX1_takeBack 38 = .ok (.getfield 13, 3) := by decide +kernel
theorem dX1_takeBack_41 : decode cX1_takeBack 41 = .ok (.aload_n 0, 1) := by decide +kernel
theorem dX1_takeBack_42 : decode cX1_takeBack 42 = .ok (.getfield 18, 3) := by decide +kernel
theorem dX1_takeBack_45 : decode cX1_takeBack 45 = .ok (.aaload, 1) := by decide +kernel
theorem dX1_takeBack_46 : decode cX1_takeBack 46 = .ok (.invokevirtual 22, 3) := by decide +kernel
theorem dX1_takeBack_49 : decode cX1_takeBack 49 = .ok (.aload_n 0, 1) := by decide +kernel
theorem dX1_takeBack_50 : decode cX1_takeBack 50 = .ok (.getfield 26, 3) := by decide +kernel
theorem dX1_takeBack_53 : decode cX1_takeBack 53 = .ok (.ireturn, 1) := by decide +kernel
theorem dX2_init_0 : decode cX2_init 0 = .ok (.aload_n 0, 1) := by decide +kernel
theorem dX2_init_1 : decode cX2_init 1 = .ok (.invokespecial 3, 3) := by decide +kernel
theorem dX2_init_4 : decode cX2_init 4 = .ok (.aload_n 0, 1) := by decide +kernel
theorem dX2_init_5 : decode cX2_init 5 = .ok (.bipush 100, 2) := by decide +kernel
theorem dX2_init_7 : decode cX2_init 7 = .ok (.newarray .int, 2) := by decide +kernel
theorem dX2_init_9 : decode cX2_init 9 = .ok (.putfield 9, 3) := by decide +kernel
theorem dX2_init_12 : decode cX2_init 12 = .ok (.return_, 1) := by decide +kernel
theorem dX2_countOf_0 : decode cX2_countOf 0 = .ok (.iconst 0, 1) := by decide +kernel
theorem dX2_countOf_1 : decode cX2_countOf 1 = .ok (.istore_n 3, 1) := by decide +kernel
theorem dX2_countOf_2 : decode cX2_countOf 2 = .ok (.iload_n 0, 1) := by decide +kernel
theorem dX2_countOf_3 : decode cX2_countOf 3 = .ok (.istore 4, 2) := by decide +kernel
theorem dX2_countOf_5 : decode cX2_countOf 5 = .ok (.iload_n 3, 1) := by decide +kernel
theorem dX2_countOf_6 : decode cX2_countOf 6 = .ok (.bipush 100, 2) := by decide +kernel
theorem dX2_countOf_8 : decode cX2_countOf 8 = .ok (.if_icmp .gt 23, 3) := by decide +kernel
theorem dX2_countOf_11 : decode cX2_countOf 11 = .ok (.iload 4, 2) := by decide +kernel
theorem dX2_countOf_13 : decode cX2_countOf 13 = .ok (.iload_n 1, 1) := by decide +kernel
theorem dX2_countOf_14 : decode cX2_countOf 14 = .ok (.if_icmp .gt 17, 3) := by decide +kernel
theorem dX2_countOf_17 : decode cX2_countOf 17 = .ok (.iinc 3 1, 3) := by decide +kernel
theorem dX2_countOf_20 : decode cX2_countOf 20 = .ok (.iload 4, 2) := by decide +kernel
theorem dX2_countOf_22 : decode cX2_countOf 22 = .ok (.iload_n 2, 1) := by decide +kernel
theorem dX2_countOf_23 : decode cX2_countOf 23 = .ok (.invokestatic 15, 3) := by decide +kernel
theorem dX2_countOf_26 : decode cX2_countOf 26 = .ok (.istore 4, 2) := by decide +kernel
theorem dX2_countOf_28 : decode cX2_countOf 28 = .ok (.goto (-23), 3) := by decide +kernel
theorem dX2_countOf_31 : decode cX2_countOf 31 = .ok (.iload_n 3, 1) := by decide +kernel
theorem dX2_countOf_32 : decode cX2_countOf 32 = .ok (.ireturn, 1) := by decide +kernel
theorem dX2_above_0 : decode cX2_above 0 = .ok (.iload_n 0, 1) := by decide +kernel
theorem dX2_above_1 : decode cX2_above 1 = .ok (.iconst 1, 1) := by decide +kernel
theorem dX2_above_2 : decode cX2_above 2 = .ok (.iload_n 0, 1) := by decide +kernel
theorem dX2_above_3 : decode cX2_above 3 = .ok (.iload_n 1, 1) := by decide +kernel
theorem dX2_above_4 : decode cX2_above 4 = .ok (.imul, 1) := by decide +kernel
theorem dX2_above_5 : decode cX2_above 5 = .ok (.sipush 1000, 3) := by decide +kernel
theorem dX2_above_8 : decode cX2_above 8 = .ok (.idiv, 1) := by decide +kernel
theorem dX2_above_9 : decode cX2_above 9 = .ok (.invokestatic 19, 3) := by decide +kernel
theorem dX2_above_12 : decode cX2_above 12 = .ok (.iadd, 1) := by decide +kernel
theorem dX2_above_13 : decode cX2_above 13 = .ok (.ireturn, 1) := by decide +kernel
theorem dX2_lay_0 : decode cX2_lay 0 = .ok (.aload_n 0, 1) := by decide +kernel
theorem dX2_lay_1 : decode cX2_lay 1 = .ok (.iload_n 3, 1) := by decide +kernel
theorem dX2_lay_2 : decode cX2_lay 2 = .ok (.bipush 100, 2) := by decide +kernel
theorem dX2_lay_4 : decode cX2_lay 4 = .ok (.invokestatic 24, 3) := by decide +kernel
theorem dX2_lay_7 : decode cX2_lay 7 = .ok (.putfield 27, 3) := by decide +kernel
theorem dX2_lay_10 : decode cX2_lay 10 = .ok (.iload_n 1, 1) := by decide +kernel
theorem dX2_lay_11 : decode cX2_lay 11 = .ok (.istore 4, 2) := by decide +kernel
theorem dX2_lay_13 : decode cX2_lay 13 = .ok (.iconst 0, 1) := by decide +kernel
theorem dX2_lay_14 : decode cX2_lay 14 = .ok (.istore 5, 2) := by decide +kernel
theorem dX2_lay_16 : decode cX2_lay 16 = .ok (.iload 5, 2) := by decide +kernel
theorem dX2_lay_18 : decode cX2_lay 18 = .ok (.aload_n 0, 1) := by decide +kernel
theorem dX2_lay_19 : decode cX2_lay 19 = .ok (.getfield 27, 3) := by decide +kernel
theorem dX2_lay_22 : decode cX2_lay 22 = .ok (.if_icmp .ge 26, 3) := by decide +kernel
theorem dX2_lay_25 : decode cX2_lay 25 = .ok (.aload_n 0, 1) := by decide +kernel
theorem dX2_lay_26 : decode cX2_lay 26 = .ok (.getfield 9, 3) := by decide +kernel
theorem dX2_lay_29 : decode cX2_lay 29 = .ok (.iload 5, 2) := by decide +kernel
theorem dX2_lay_31 : decode cX2_lay 31 = .ok (.iload 4, 2) := by decide +kernel
theorem dX2_lay_33 : decode cX2_lay 33 = .ok (.iastore, 1) := by decide +kernel
theorem dX2_lay_34 : decode cX2_lay 34 = .ok (.iload 4, 2) := by decide +kernel
theorem dX2_lay_36 : decode cX2_lay 36 = .ok (.iload_n 2, 1) := by decide +kernel
theorem dX2_lay_37 : decode cX2_lay 37 = .ok (.invokestatic 15, 3) := by decide +kernel
theorem dX2_lay_40 : decode cX2_lay 40 = .ok (.istore 4, 2) := by decide +kernel
theorem dX2_lay_42 : decode cX2_lay 42 = .ok (.iinc 5 1, 3) := by decide +kernel
theorem dX2_lay_45 : decode cX2_lay 45 = .ok (.goto (-29), 3) := by decide +kernel
theorem dX2_lay_48 : decode cX2_lay 48 = .ok (.return_, 1) := by decide +kernel
theorem dX2_copyFrom_0 : decode cX2_copyFrom 0 = .ok (.aload_n 1, 1) := by decide +kernel
theorem dX2_copyFrom_1 : decode cX2_copyFrom 1 = .ok (.getfield 9, 3) := by decide +kernel
theorem dX2_copyFrom_4 : decode cX2_copyFrom 4 = .ok (.aload_n 0, 1) := by decide +kernel
theorem dX2_copyFrom_5 : decode cX2_copyFrom 5 = .ok (.getfield 9, 3) := by decide +kernel
theorem dX2_copyFrom_8 : decode cX2_copyFrom 8 = .ok (.invokestatic 31, 3) := by decide +kernel
theorem dX2_copyFrom_11 : decode cX2_copyFrom 11 = .ok (.aload_n 0, 1) := by decide +kernel
theorem dX2_copyFrom_12 : decode cX2_copyFrom 12 = .ok (.aload_n 1, 1) := by decide +kernel
theorem dX2_copyFrom_13 : decode cX2_copyFrom 13 = .ok (.getfield 27, 3) := by decide +kernel
theorem dX2_copyFrom_16 : decode cX2_copyFrom 16 = .ok (.putfield 27, 3) := by decide +kernel
theorem dX2_copyFrom_19 : decode cX2_copyFrom 19 = .ok (.return_, 1) := by decide +kernel
theorem dX3_init_0 : decode cX3_init 0 = .ok (.aload_n 0, 1) := by decide +kernel
theorem dX3_init_1 : decode cX3_init 1 = .ok (.invokespecial 3, 3) := by decide +kernel
theorem dX3_init_4 : decode cX3_init 4 = .ok (.aload_n 0, 1) := by decide +kernel
theorem dX3_init_5 : decode cX3_init 5 = .ok (.bipush 8, 2) := by decide +kernel
theorem dX3_init_7 : decode cX3_init 7 = .ok (.newarray .int, 2) := by decide +kernel
theorem dX3_init_9 : decode cX3_init 9 = .ok (.putfield 9, 3) := by decide +kernel
theorem dX3_init_12 : decode cX3_init 12 = .ok (.aload_n 0, 1) := by decide +kernel
theorem dX3_init_13 : decode cX3_init 13 = .ok (.bipush 8, 2) := by decide +kernel
theorem dX3_init_15 : decode cX3_init 15 = .ok (.newarray .int, 2) := by decide +kernel
theorem dX3_init_17 : decode cX3_init 17 = .ok (.putfield 15, 3) := by decide +kernel
theorem dX3_init_20 : decode cX3_init 20 = .ok (.return_, 1) := by decide +kernel
theorem dX3_put_0 : decode cX3_put 0 = .ok (.aload_n 0, 1) := by decide +kernel
theorem dX3_put_1 : decode cX3_put 1 = .ok (.iload_n 1, 1) := by decide +kernel
theorem dX3_put_2 : decode cX3_put 2 = .ok (.invokevirtual 18, 3) := by decide +kernel
theorem dX3_put_5 : decode cX3_put 5 = .ok (.istore_n 3, 1) := by decide +kernel
theorem dX3_put_6 : decode cX3_put 6 = .ok (.iload_n 3, 1) := by decide +kernel
theorem dX3_put_7 : decode cX3_put 7 = .ok (.aload_n 0, 1) := by decide +kernel
theorem dX3_put_8 : decode cX3_put 8 = .ok (.getfield 22, 3) := by decide +kernel
theorem dX3_put_11 : decode cX3_put 11 = .ok (.if_icmp .ge 25, 3) := by decide +kernel
theorem dX3_put_14 : decode cX3_put 14 = .ok (.aload_n 0, 1) := by decide +kernel
theorem dX3_put_15 : decode cX3_put 15 = .ok (.getfield 9, 3) := by decide +kernel
theorem dX3_put_18 : decode cX3_put 18 = .ok (.iload_n 3, 1) := by decide +kernel
theorem dX3_put_19 : decode cX3_put 19 = .ok (.iaload, 1) := by decide +kernel
theorem dX3_put_20 : decode cX3_put 20 = .ok (.iload_n 1, 1) := by decide +kernel
theorem dX3_put_21 : decode cX3_put 21 = .ok (.if_icmp .ne 15, 3) := by decide +kernel
theorem dX3_put_24 : decode cX3_put 24 = .ok (.aload_n 0, 1) := by decide +kernel
theorem dX3_put_25 : decode cX3_put 25 = .ok (.getfield 15, 3) := by decide +kernel
theorem dX3_put_28 : decode cX3_put 28 = .ok (.iload_n 3, 1) := by decide +kernel
theorem dX3_put_29 : decode cX3_put 29 = .ok (.iload_n 2, 1) := by decide +kernel
theorem dX3_put_30 : decode cX3_put 30 = .ok (.iastore, 1) := by decide +kernel
theorem dX3_put_31 : decode cX3_put 31 = .ok (.aload_n 0, 1) := by decide +kernel
theorem dX3_put_32 : decode cX3_put 32 = .ok (.getfield 22, 3) := by decide +kernel
theorem dX3_put_35 : decode cX3_put 35 = .ok (.ireturn, 1) := by decide +kernel
theorem dX3_put_36 : decode cX3_put 36 = .ok (.aload_n 0, 1) := by decide +kernel
theorem dX3_put_37 : decode cX3_put 37 = .ok (.getfield 22, 3) := by decide +kernel
theorem dX3_put_40 : decode cX3_put 40 = .ok (.bipush 8, 2) := by decide +kernel
theorem dX3_put_42 : decode cX3_put 42 = .ok (.if_icmp .lt 6, 3) := by decide +kernel
theorem dX3_put_45 : decode cX3_put 45 = .ok (.bipush (-4), 2) := by decide +kernel
theorem dX3_put_47 : decode cX3_put 47 = .ok (.ireturn, 1) := by decide +kernel
theorem dX3_put_48 : decode cX3_put 48 = .ok (.aload_n 0, 1) := by decide +kernel
theorem dX3_put_49 : decode cX3_put 49 = .ok (.getfield 22, 3) := by decide +kernel
theorem dX3_put_52 : decode cX3_put 52 = .ok (.istore 4, 2) := by decide +kernel
theorem dX3_put_54 : decode cX3_put 54 = .ok (.iload 4, 2) := by decide +kernel
theorem dX3_put_56 : decode cX3_put 56 = .ok (.iload_n 3, 1) := by decide +kernel
theorem dX3_put_57 : decode cX3_put 57 = .ok (.if_icmp .le 41, 3) := by decide +kernel
theorem dX3_put_60 : decode cX3_put 60 = .ok (.aload_n 0, 1) := by decide +kernel
theorem dX3_put_61 : decode cX3_put 61 = .ok (.getfield 9, 3) := by decide +kernel
theorem dX3_put_64 : decode cX3_put 64 = .ok (.iload 4, 2) := by decide +kernel
theorem dX3_put_66 : decode cX3_put 66 = .ok (.aload_n 0, 1) := by decide +kernel
theorem dX3_put_67 : decode cX3_put 67 = .ok (.getfield 9, 3) := by decide +kernel
theorem dX3_put_70 : decode cX3_put 70 = .ok (.iload 4, 2) := by decide +kernel
theorem dX3_put_72 : decode cX3_put 72 = .ok (.iconst 1, 1) := by decide +kernel
theorem dX3_put_73 : decode cX3_put 73 = .ok (.isub, 1) := by decide +kernel
theorem dX3_put_74 : decode cX3_put 74 = .ok (.iaload, 1) := by decide +kernel
theorem dX3_put_75 : decode cX3_put 75 = .ok (.iastore, 1) := by decide +kernel
theorem dX3_put_76 : decode cX3_put 76 = .ok (.aload_n 0, 1) := by decide +kernel
theorem dX3_put_77 : decode cX3_put 77 = .ok (.getfield 15, 3) := by decide +kernel
theorem dX3_put_80 : decode cX3_put 80 = .ok (.iload 4, 2) := by decide +kernel
theorem dX3_put_82 : decode cX3_put 82 = .ok (.aload_n 0, 1) := by decide +kernel
theorem dX3_put_83 : decode cX3_put 83 = .ok (.getfield 15, 3) := by decide +kernel
theorem dX3_put_86 : decode cX3_put 86 = .ok (.iload 4, 2) := by decide +kernel
theorem dX3_put_88 : decode cX3_put 88 = .ok (.iconst 1, 1) := by decide +kernel
theorem dX3_put_89 : decode cX3_put 89 = .ok (.isub, 1) := by decide +kernel
theorem dX3_put_90 : decode cX3_put 90 = .ok (.iaload, 1) := by decide +kernel
theorem dX3_put_91 : decode cX3_put 91 = .ok (.iastore, 1) := by decide +kernel
theorem dX3_put_92 : decode cX3_put 92 = .ok (.iinc 4 (-1), 3) := by decide +kernel
theorem dX3_put_95 : decode cX3_put 95 = .ok (.goto (-41), 3) := by decide +kernel
theorem dX3_put_98 : decode cX3_put 98 = .ok (.aload_n 0, 1) := by decide +kernel
theorem dX3_put_99 : decode cX3_put 99 = .ok (.getfield 9, 3) := by decide +kernel
theorem dX3_put_102 : decode cX3_put 102 = .ok (.iload_n 3, 1) := by decide +kernel
theorem dX3_put_103 : decode cX3_put 103 = .ok (.iload_n 1, 1) := by decide +kernel
theorem dX3_put_104 : decode cX3_put 104 = .ok (.iastore, 1) := by decide +kernel
theorem dX3_put_105 : decode cX3_put 105 = .ok (.aload_n 0, 1) := by decide +kernel
theorem dX3_put_106 : decode cX3_put 106 = .ok (.getfield 15, 3) := by decide +kernel
theorem dX3_put_109 : decode cX3_put 109 = .ok (.iload_n 3, 1) := by decide +kernel
theorem dX3_put_110 : decode cX3_put 110 = .ok (.iload_n 2, 1) := by decide +kernel
theorem dX3_put_111 : decode cX3_put 111 = .ok (.iastore, 1) := by decide +kernel
theorem dX3_put_112 : decode cX3_put 112 = .ok (.aload_n 0, 1) := by decide +kernel
theorem dX3_put_113 : decode cX3_put 113 = .ok (.dup, 1) := by decide +kernel
theorem dX3_put_114 : decode cX3_put 114 = .ok (.getfield 22, 3) := by decide +kernel
theorem dX3_put_117 : decode cX3_put 117 = .ok (.iconst 1, 1) := by decide +kernel
theorem dX3_put_118 : decode cX3_put 118 = .ok (.iadd, 1) := by decide +kernel
theorem dX3_put_119 : decode cX3_put 119 = .ok (.putfield 22, 3) := by decide +kernel
theorem dX3_put_122 : decode cX3_put 122 = .ok (.aload_n 0, 1) := by decide +kernel
theorem dX3_put_123 : decode cX3_put 123 = .ok (.getfield 22, 3) := by decide +kernel
theorem dX3_put_126 : decode cX3_put 126 = .ok (.ireturn, 1) := by decide +kernel
theorem dX3_placeOf_0 : decode cX3_placeOf 0 = .ok (.iconst 0, 1) := by decide +kernel
theorem dX3_placeOf_1 : decode cX3_placeOf 1 = .ok (.istore_n 2, 1) := by decide +kernel
theorem dX3_placeOf_2 : decode cX3_placeOf 2 = .ok (.iload_n 2, 1) := by decide +kernel
theorem dX3_placeOf_3 : decode cX3_placeOf 3 = .ok (.aload_n 0, 1) := by decide +kernel
theorem dX3_placeOf_4 : decode cX3_placeOf 4 = .ok (.getfield 22, 3) := by decide +kernel
theorem dX3_placeOf_7 : decode cX3_placeOf 7 = .ok (.if_icmp .ge 19, 3) := by decide +kernel
theorem dX3_placeOf_10 : decode cX3_placeOf 10 = .ok (.aload_n 0, 1) := by decide +kernel
theorem dX3_placeOf_11 : decode cX3_placeOf 11 = .ok (.getfield 9, 3) := by decide +kernel
theorem dX3_placeOf_14 : decode cX3_placeOf 14 = .ok (.iload_n 2, 1) := by decide +kernel
theorem dX3_placeOf_15 : decode cX3_placeOf 15 = .ok (.iaload, 1) := by decide +kernel
theorem dX3_placeOf_16 : decode cX3_placeOf 16 = .ok (.iload_n 1, 1) := by decide +kernel
theorem dX3_placeOf_17 : decode cX3_placeOf 17 = .ok (.if_icmp .ge 9, 3) := by decide +kernel
theorem dX3_placeOf_20 : decode cX3_placeOf 20 = .ok (.iinc 2 1, 3) := by decide +kernel
theorem dX3_placeOf_23 : decode cX3_placeOf 23 = .ok (.goto (-21), 3) := by decide +kernel
theorem dX3_placeOf_26 : decode cX3_placeOf 26 = .ok (.iload_n 2, 1) := by decide +kernel
theorem dX3_placeOf_27 : decode cX3_placeOf 27 = .ok (.ireturn, 1) := by decide +kernel
theorem dX3_targetAt_0 : decode cX3_targetAt 0 = .ok (.aload_n 0, 1) := by decide +kernel
theorem dX3_targetAt_1 : decode cX3_targetAt 1 = .ok (.getfield 22, 3) := by decide +kernel
theorem dX3_targetAt_4 : decode cX3_targetAt 4 = .ok (.ifCond .ne 6, 3) := by decide +kernel
theorem dX3_targetAt_7 : decode cX3_targetAt 7 = .ok (.bipush (-6), 2) := by decide +kernel
theorem dX3_targetAt_9 : decode cX3_targetAt 9 = .ok (.ireturn, 1) := by decide +kernel
theorem dX3_targetAt_10 : decode cX3_targetAt 10 = .ok (.aload_n 0, 1) := by decide +kernel
theorem dX3_targetAt_11 : decode cX3_targetAt 11 = .ok (.iload_n 1, 1) := by decide +kernel
theorem dX3_targetAt_12 : decode cX3_targetAt 12 = .ok (.invokevirtual 18, 3) := by decide +kernel
theorem dX3_targetAt_15 : decode cX3_targetAt 15 = .ok (.istore_n 2, 1) := by decide +kernel
theorem dX3_targetAt_16 : decode cX3_targetAt 16 = .ok (.iload_n 2, 1) := by decide +kernel
theorem dX3_targetAt_17 : decode cX3_targetAt 17 = .ok (.aload_n 0, 1) := by decide +kernel
theorem dX3_targetAt_18 : decode cX3_targetAt 18 = .ok (.getfield 22, 3) := by decide +kernel
theorem dX3_targetAt_21 : decode cX3_targetAt 21 = .ok (.if_icmp .ne 15, 3) := by decide +kernel
theorem dX3_targetAt_24 : decode cX3_targetAt 24 = .ok (.aload_n 0, 1) := by decide +kernel
theorem dX3_targetAt_25 : decode cX3_targetAt 25 = .ok (.getfield 15, 3) := by decide +kernel
theorem dX3_targetAt_28 : decode cX3_targetAt 28 = .ok (.aload_n 0, 1) := by decide +kernel
theorem dX3_targetAt_29 : decode cX3_targetAt 29 = .ok (.getfield 22, 3) := by decide +kernel
theorem dX3_targetAt_32 : decode cX3_targetAt 32 = .ok (.iconst 1, 1) := by decide +kernel
theorem dX3_targetAt_33 : decode cX3_targetAt 33 = .ok (.isub, 1) := by decide +kernel
theorem dX3_targetAt_34 : decode cX3_targetAt 34 = .ok (.iaload, 1) := by decide +kernel
theorem dX3_targetAt_35 : decode cX3_targetAt 35 = .ok (.ireturn, 1) := by decide +kernel
theorem dX3_targetAt_36 : decode cX3_targetAt 36 = .ok (.iload_n 2, 1) := by decide +kernel
theorem dX3_targetAt_37 : decode cX3_targetAt 37 = .ok (.ifCond .eq 13, 3) := by decide +kernel
theorem dX3_targetAt_40 : decode cX3_targetAt 40 = .ok (.aload_n 0, 1) := by decide +kernel
theorem dX3_targetAt_41 : decode cX3_targetAt 41 = .ok (.getfield 9, 3) := by decide +kernel
theorem dX3_targetAt_44 : decode cX3_targetAt 44 = .ok (.iload_n 2, 1) := by decide +kernel
theorem dX3_targetAt_45 : decode cX3_targetAt 45 = .ok (.iaload, 1) := by decide +kernel
theorem dX3_targetAt_46 : decode cX3_targetAt 46 = .ok (.iload_n 1, 1) := by decide +kernel
theorem dX3_targetAt_47 : decode cX3_targetAt 47 = .ok (.if_icmp .ne 10, 3) := by decide +kernel
theorem dX3_targetAt_50 : decode cX3_targetAt 50 = .ok (.aload_n 0, 1) := by decide +kernel
theorem dX3_targetAt_51 : decode cX3_targetAt 51 = .ok (.getfield 15, 3) := by decide +kernel
theorem dX3_targetAt_54 : decode cX3_targetAt 54 = .ok (.iload_n 2, 1) := by decide +kernel
theorem dX3_targetAt_55 : decode cX3_targetAt 55 = .ok (.iaload, 1) := by decide +kernel
theorem dX3_targetAt_56 : decode cX3_targetAt 56 = .ok (.ireturn, 1) := by decide +kernel
theorem dX3_targetAt_57 : decode cX3_targetAt 57 = .ok (.aload_n 0, 1) := by decide +kernel
theorem dX3_targetAt_58 : decode cX3_targetAt 58 = .ok (.iload_n 2, 1) := by decide +kernel
theorem dX3_targetAt_59 : decode cX3_targetAt 59 = .ok (.iconst 1, 1) := by decide +kernel
theorem dX3_targetAt_60 : decode cX3_targetAt 60 = .ok (.isub, 1) := by decide +kernel
theorem dX3_targetAt_61 : decode cX3_targetAt 61 = .ok (.iload_n 2, 1) := by decide +kernel
theorem dX3_targetAt_62 : decode cX3_targetAt 62 = .ok (.iload_n 1, 1) := by decide +kernel
theorem dX3_targetAt_63 : decode cX3_targetAt 63 = .ok (.invokevirtual 26, 3) := by decide +kernel
theorem dX3_targetAt_66 : decode cX3_targetAt 66 = .ok (.ireturn, 1) := by decide +kernel
theorem dX3_between_0 : decode cX3_between 0 = .ok (.iload_n 3, 1) := by decide +kernel
theorem dX3_between_1 : decode cX3_between 1 = .ok (.aload_n 0, 1) := by decide +kernel
theorem dX3_between_2 : decode cX3_between 2 = .ok (.getfield 9, 3) := by decide +kernel
theorem dX3_between_5 : decode cX3_between 5 = .ok (.iload_n 1, 1) := by decide +kernel
theorem dX3_between_6 : decode cX3_between 6 = .ok (.iaload, 1) := by decide +kernel
theorem dX3_between_7 : decode cX3_between 7 = .ok (.isub, 1) := by decide +kernel
theorem dX3_between_8 : decode cX3_between 8 = .ok (.istore 4, 2) := by decide +kernel
theorem dX3_between_10 : decode cX3_between 10 = .ok (.aload_n 0, 1) := by decide +kernel
theorem dX3_between_11 : decode cX3_between 11 = .ok (.getfield 9, 3) := by decide +kernel
theorem dX3_between_14 : decode cX3_between 14 = .ok (.iload_n 2, 1) := by decide +kernel
theorem dX3_between_15 : decode cX3_between 15 = .ok (.iaload, 1) := by decide +kernel
theorem dX3_between_16 : decode cX3_between 16 = .ok (.iload_n 3, 1) := by decide +kernel
theorem dX3_between_17 : decode cX3_between 17 = .ok (.isub, 1) := by decide +kernel
theorem dX3_between_18 : decode cX3_between 18 = .ok (.istore 5, 2) := by decide +kernel
theorem dX3_between_20 : decode cX3_between 20 = .ok (.iload 4, 2) := by decide +kernel
theorem dX3_between_22 : decode cX3_between 22 = .ok (.iload 5, 2) := by decide +kernel
theorem dX3_between_24 : decode cX3_between 24 = .ok (.iadd, 1) := by decide +kernel
theorem dX3_between_25 : decode cX3_between 25 = .ok (.istore 6, 2) := by decide +kernel
theorem dX3_between_27 : decode cX3_between 27 = .ok (.iload 6, 2) := by decide +kernel
theorem dX3_between_29 : decode cX3_between 29 = .ok (.ifCond .le 28, 3) := by decide +kernel
theorem dX3_between_32 : decode cX3_between 32 = .ok (.aload_n 0, 1) := by decide +kernel
theorem dX3_between_33 : decode cX3_between 33 = .ok (.getfield 15, 3) := by decide +kernel
theorem dX3_between_36 : decode cX3_between 36 = .ok (.iload_n 1, 1) := by decide +kernel
theorem dX3_between_37 : decode cX3_between 37 = .ok (.iaload, 1) := by decide +kernel
theorem dX3_between_38 : decode cX3_between 38 = .ok (.iload 5, 2) := by decide +kernel
theorem dX3_between_40 : decode cX3_between 40 = .ok (.imul, 1) := by decide +kernel
theorem dX3_between_41 : decode cX3_between 41 = .ok (.aload_n 0, 1) := by decide +kernel
theorem dX3_between_42 : decode cX3_between 42 = .ok (.getfield 15, 3) := by decide +kernel
theorem dX3_between_45 : decode cX3_between 45 = .ok (.iload_n 2, 1) := by decide +kernel
theorem dX3_between_46 : decode cX3_between 46 = .ok (.iaload, 1) := by decide +kernel
theorem dX3_between_47 : decode cX3_between 47 = .ok (.iload 4, 2) := by decide +kernel
theorem dX3_between_49 : decode cX3_between 49 = .ok (.imul, 1) := by decide +kernel
theorem dX3_between_50 : decode cX3_between 50 = .ok (.iadd, 1) := by decide +kernel
theorem dX3_between_51 : decode cX3_between 51 = .ok (.iload 6, 2) := by decide +kernel
theorem dX3_between_53 : decode cX3_between 53 = .ok (.idiv, 1) := by decide +kernel
theorem dX3_between_54 : decode cX3_between 54 = .ok (.goto 5, 3) := by decide +kernel
theorem dX3_between_57 : decode cX3_between 57 = .ok (.bipush (-6), 2) := by decide +kernel
theorem dX3_between_59 : decode cX3_between 59 = .ok (.ireturn, 1) := by decide +kernel
theorem dX3_copyFrom_0 : decode cX3_copyFrom 0 = .ok (.aload_n 1, 1) := by decide +kernel
theorem dX3_copyFrom_1 : decode cX3_copyFrom 1 = .ok (.getfield 9, 3) := by decide +kernel
theorem dX3_copyFrom_4 : decode cX3_copyFrom 4 = .ok (.aload_n 0, 1) := by decide +kernel
theorem dX3_copyFrom_5 : decode cX3_copyFrom 5 = .ok (.getfield 9, 3) := by decide +kernel
theorem dX3_copyFrom_8 : decode cX3_copyFrom 8 = .ok (.invokestatic 30, 3) := by decide +kernel
theorem dX3_copyFrom_11 : decode cX3_copyFrom 11 = .ok (.aload_n 1, 1) := by decide +kernel
theorem dX3_copyFrom_12 : decode cX3_copyFrom 12 = .ok (.getfield 15, 3) := by decide +kernel
theorem dX3_copyFrom_15 : decode cX3_copyFrom 15 = .ok (.aload_n 0, 1) := by decide +kernel
theorem dX3_copyFrom_16 : decode cX3_copyFrom 16 = .ok (.getfield 15, 3) := by decide +kernel
theorem dX3_copyFrom_19 : decode cX3_copyFrom 19 = .ok (.invokestatic 30, 3) := by decide +kernel
theorem dX3_copyFrom_22 : decode cX3_copyFrom 22 = .ok (.aload_n 0, 1) := by decide +kernel
theorem dX3_copyFrom_23 : decode cX3_copyFrom 23 = .ok (.aload_n 1, 1) := by decide +kernel
theorem dX3_copyFrom_24 : decode cX3_copyFrom 24 = .ok (.getfield 22, 3) := by decide +kernel
theorem dX3_copyFrom_27 : decode cX3_copyFrom 27 = .ok (.putfield 22, 3) := by decide +kernel
theorem dX3_copyFrom_30 : decode cX3_copyFrom 30 = .ok (.return_, 1) := by decide +kernel
theorem dX5_init_0 : decode cX5_init 0 = .ok (.aload_n 0, 1) := by decide +kernel
theorem dX5_init_1 : decode cX5_init 1 = .ok (.invokespecial 3, 3) := by decide +kernel
theorem dX5_init_4 : decode cX5_init 4 = .ok (.aload_n 0, 1) := by decide +kernel
theorem dX5_init_5 : decode cX5_init 5 = .ok (.bipush 80, 2) := by decide +kernel
theorem dX5_init_7 : decode cX5_init 7 = .ok (.newarray .int, 2) := by decide +kernel
theorem dX5_init_9 : decode cX5_init 9 = .ok (.putfield 9, 3) := by decide +kernel
theorem dX5_init_12 : decode cX5_init 12 = .ok (.return_, 1) := by decide +kernel
theorem dX5_add_0 : decode cX5_add 0 = .ok (.iload_n 1, 1) := by decide +kernel
theorem dX5_add_1 : decode cX5_add 1 = .ok (.bipush 32, 2) := by decide +kernel
theorem dX5_add_3 : decode cX5_add 3 = .ok (.bipush 126, 2) := by decide +kernel
theorem dX5_add_5 : decode cX5_add 5 = .ok (.invokestatic 15, 3) := by decide +kernel
theorem dX5_add_8 : decode cX5_add 8 = .ok (.ifCond .ne 6, 3) := by decide +kernel
theorem dX5_add_11 : decode cX5_add 11 = .ok (.bipush (-2), 2) := by decide +kernel
theorem dX5_add_13 : decode cX5_add 13 = .ok (.ireturn, 1) := by decide +kernel
theorem dX5_add_14 : decode cX5_add 14 = .ok (.aload_n 0, 1) := by decide +kernel
theorem dX5_add_15 : decode cX5_add 15 = .ok (.getfield 19, 3) := by decide +kernel
theorem dX5_add_18 : decode cX5_add 18 = .ok (.bipush 80, 2) := by decide +kernel
theorem dX5_add_20 : decode cX5_add 20 = .ok (.if_icmp .lt 6, 3) := by decide +kernel
theorem dX5_add_23 : decode cX5_add 23 = .ok (.bipush (-4), 2) := by decide +kernel
theorem dX5_add_25 : decode cX5_add 25 = .ok (.ireturn, 1) := by decide +kernel
theorem dX5_add_26 : decode cX5_add 26 = .ok (.aload_n 0, 1) := by decide +kernel
theorem dX5_add_27 : decode cX5_add 27 = .ok (.getfield 9, 3) := by decide +kernel
theorem dX5_add_30 : decode cX5_add 30 = .ok (.aload_n 0, 1) := by decide +kernel
theorem dX5_add_31 : decode cX5_add 31 = .ok (.getfield 19, 3) := by decide +kernel
theorem dX5_add_34 : decode cX5_add 34 = .ok (.iload_n 1, 1) := by decide +kernel
theorem dX5_add_35 : decode cX5_add 35 = .ok (.iastore, 1) := by decide +kernel
theorem dX5_add_36 : decode cX5_add 36 = .ok (.aload_n 0, 1) := by decide +kernel
theorem dX5_add_37 : decode cX5_add 37 = .ok (.dup, 1) := by decide +kernel
theorem dX5_add_38 : decode cX5_add 38 = .ok (.getfield 19, 3) := by decide +kernel
theorem dX5_add_41 : decode cX5_add 41 = .ok (.iconst 1, 1) := by decide +kernel
theorem dX5_add_42 : decode cX5_add 42 = .ok (.iadd, 1) := by decide +kernel
theorem dX5_add_43 : decode cX5_add 43 = .ok (.putfield 19, 3) := by decide +kernel
theorem dX5_add_46 : decode cX5_add 46 = .ok (.aload_n 0, 1) := by decide +kernel
theorem dX5_add_47 : decode cX5_add 47 = .ok (.getfield 19, 3) := by decide +kernel
theorem dX5_add_50 : decode cX5_add 50 = .ok (.ireturn, 1) := by decide +kernel
theorem dX5_rewind_0 : decode cX5_rewind 0 = .ok (.aload_n 0, 1) := by decide +kernel
theorem dX5_rewind_1 : decode cX5_rewind 1 = .ok (.iconst 0, 1) := by decide +kernel
theorem dX5_rewind_2 : decode cX5_rewind 2 = .ok (.putfield 23, 3) := by decide +kernel
theorem dX5_rewind_5 : decode cX5_rewind 5 = .ok (.return_, 1) := by decide +kernel
theorem dX5_findFault_0 : decode cX5_findFault 0 = .ok (.aload_n 0, 1) := by decide +kernel
theorem dX5_findFault_1 : decode cX5_findFault 1 = .ok (.invokevirtual 26, 3) := by decide +kernel
theorem dX5_findFault_4 : decode cX5_findFault 4 = .ok (.iconst 0, 1) := by decide +kernel
theorem dX5_findFault_5 : decode cX5_findFault 5 = .ok (.istore_n 1, 1) := by decide +kernel
theorem dX5_findFault_6 : decode cX5_findFault 6 = .ok (.iload_n 1, 1) := by decide +kernel
theorem dX5_findFault_7 : decode cX5_findFault 7 = .ok (.bipush 80, 2) := by decide +kernel
theorem dX5_findFault_9 : decode cX5_findFault 9 = .ok (.if_icmp .ge 32, 3) := by decide +kernel
theorem dX5_findFault_12 : decode cX5_findFault 12 = .ok (.aload_n 0, 1) := by decide +kernel
theorem dX5_findFault_13 : decode cX5_findFault 13 = .ok (.getfield 23, 3) := by decide +kernel
theorem dX5_findFault_16 : decode cX5_findFault 16 = .ok (.aload_n 0, 1) := by decide +kernel
theorem dX5_findFault_17 : decode cX5_findFault 17 = .ok (.getfield 19, 3) := by decide +kernel
theorem dX5_findFault_20 : decode cX5_findFault 20 = .ok (.if_icmp .ge 21, 3) := by decide +kernel
theorem dX5_findFault_23 : decode cX5_findFault 23 = .ok (.aload_n 0, 1) := by decide +kernel
theorem dX5_findFault_24 : decode cX5_findFault 24 = .ok (.invokevirtual 29, 3) := by decide +kernel
theorem dX5_findFault_27 : decode cX5_findFault 27 = .ok (.ifCond .ne 8, 3) := by decide +kernel
theorem dX5_findFault_30 : decode cX5_findFault 30 = .ok (.aload_n 0, 1) := by decide +kernel
theorem dX5_findFault_31 : decode cX5_findFault 31 = .ok (.getfield 23, 3) := by decide +kernel
theorem dX5_findFault_34 : decode cX5_findFault 34 = .ok (.ireturn, 1) := by decide +kernel
theorem dX5_findFault_35 : decode cX5_findFault 35 = .ok (.iinc 1 1, 3) := by decide +kernel
theorem dX5_findFault_38 : decode cX5_findFault 38 = .ok (.goto (-32), 3) := by decide +kernel
theorem dX5_findFault_41 : decode cX5_findFault 41 = .ok (.bipush (-6), 2) := by decide +kernel
theorem dX5_findFault_43 : decode cX5_findFault 43 = .ok (.ireturn, 1) := by decide +kernel
theorem dX5_readAct_0 : decode cX5_readAct 0 = .ok (.aload_n 0, 1) := by decide +kernel
theorem dX5_readAct_1 : decode cX5_readAct 1 = .ok (.aload_n 0, 1) := by decide +kernel
theorem dX5_readAct_2 : decode cX5_readAct 2 = .ok (.invokevirtual 33, 3) := by decide +kernel
theorem dX5_readAct_5 : decode cX5_readAct 5 = .ok (.putfield 37, 3) := by decide +kernel
theorem dX5_readAct_8 : decode cX5_readAct 8 = .ok (.aload_n 0, 1) := by decide +kernel
theorem dX5_readAct_9 : decode cX5_readAct 9 = .ok (.getfield 37, 3) := by decide +kernel
theorem dX5_readAct_12 : decode cX5_readAct 12 = .ok (.lookupswitch 201 #[(99, 148), (103, 60), (104, 131), (114, 131), (115, 96), (120, 131)], 60) := by decide +kernel
theorem dX5_readAct_72 : decode cX5_readAct 72 = .ok (.aload_n 0, 1) := by decide +kernel
theorem dX5_readAct_73 : decode cX5_readAct 73 = .ok (.dup, 1) := by decide +kernel
theorem dX5_readAct_74 : decode cX5_readAct 74 = .ok (.getfield 23, 3) := by decide +kernel
theorem dX5_readAct_77 : decode cX5_readAct 77 = .ok (.iconst 1, 1) := by decide +kernel
theorem dX5_readAct_78 : decode cX5_readAct 78 = .ok (.iadd, 1) := by decide +kernel
theorem dX5_readAct_79 : decode cX5_readAct 79 = .ok (.putfield 23, 3) := by decide +kernel
theorem dX5_readAct_82 : decode cX5_readAct 82 = .ok (.aload_n 0, 1) := by decide +kernel
theorem dX5_readAct_83 : decode cX5_readAct 83 = .ok (.iconst 1, 1) := by decide +kernel
theorem dX5_readAct_84 : decode cX5_readAct 84 = .ok (.sipush 999, 3) := by decide +kernel
theorem dX5_readAct_87 : decode cX5_readAct 87 = .ok (.invokevirtual 40, 3) := by decide +kernel
theorem dX5_readAct_90 : decode cX5_readAct 90 = .ok (.ifCond .eq 16, 3) := by decide +kernel
theorem dX5_readAct_93 : decode cX5_readAct 93 = .ok (.aload_n 0, 1) := by decide +kernel
theorem dX5_readAct_94 : decode cX5_readAct 94 = .ok (.bipush 59, 2) := by decide +kernel
theorem dX5_readAct_96 : decode cX5_readAct 96 = .ok (.invokevirtual 44, 3) := by decide +kernel
theorem dX5_readAct_99 : decode cX5_readAct 99 = .ok (.ifCond .eq 7, 3) := by decide +kernel
theorem dX5_readAct_102 : decode cX5_readAct 102 = .ok (.iconst 1, 1) := by decide +kernel
theorem dX5_readAct_103 : decode cX5_readAct 103 = .ok (.goto 4, 3) := by decide +kernel
theorem dX5_readAct_106 : decode cX5_readAct 106 = .ok (.iconst 0, 1) := by decide +kernel
theorem dX5_readAct_107 : decode cX5_readAct 107 = .ok (.ireturn, 1) := by decide +kernel
theorem dX5_readAct_108 : decode cX5_readAct 108 = .ok (.aload_n 0, 1) := by decide +kernel
theorem dX5_readAct_109 : decode cX5_readAct 109 = .ok (.dup, 1) := by decide +kernel
theorem dX5_readAct_110 : decode cX5_readAct 110 = .ok (.getfield 23, 3) := by decide +kernel
theorem dX5_readAct_113 : decode cX5_readAct 113 = .ok (.iconst 1, 1) := by decide +kernel
theorem dX5_readAct_114 : decode cX5_readAct 114 = .ok (.iadd, 1) := by decide +kernel
theorem dX5_readAct_115 : decode cX5_readAct 115 = .ok (.putfield 23, 3) := by decide +kernel
theorem dX5_readAct_118 : decode cX5_readAct 118 = .ok (.aload_n 0, 1) := by decide +kernel
theorem dX5_readAct_119 : decode cX5_readAct 119 = .ok (.iconst 1, 1) := by decide +kernel
theorem dX5_readAct_120 : decode cX5_readAct 120 = .ok (.bipush 50, 2) := by decide +kernel
theorem dX5_readAct_122 : decode cX5_readAct 122 = .ok (.invokevirtual 40, 3) := by decide +kernel
theorem dX5_readAct_125 : decode cX5_readAct 125 = .ok (.ifCond .eq 16, 3) := by decide +kernel
theorem dX5_readAct_128 : decode cX5_readAct 128 = .ok (.aload_n 0, 1) := by decide +kernel
theorem dX5_readAct_129 : decode cX5_readAct 129 = .ok (.bipush 59, 2) := by decide +kernel
theorem dX5_readAct_131 : decode cX5_readAct 131 = .ok (.invokevirtual 44, 3) := by decide +kernel
theorem dX5_readAct_134 : decode cX5_readAct 134 = .ok (.ifCond .eq 7, 3) := by decide +kernel
theorem dX5_readAct_137 : decode cX5_readAct 137 = .ok (.iconst 1, 1) := by decide +kernel
theorem dX5_readAct_138 : decode cX5_readAct 138 = .ok (.goto 4, 3) := by decide +kernel
theorem dX5_readAct_141 : decode cX5_readAct 141 = .ok (.iconst 0, 1) := by decide +kernel
theorem dX5_readAct_142 : decode cX5_readAct 142 = .ok (.ireturn, 1) := by decide +kernel
theorem dX5_readAct_143 : decode cX5_readAct 143 = .ok (.aload_n 0, 1) := by decide +kernel
theorem dX5_readAct_144 : decode cX5_readAct 144 = .ok (.dup, 1) := by decide +kernel
theorem dX5_readAct_145 : decode cX5_readAct 145 = .ok (.getfield 23, 3) := by decide +kernel
theorem dX5_readAct_148 : decode cX5_readAct 148 = .ok (.iconst 1, 1) := by decide +kernel
theorem dX5_readAct_149 : decode cX5_readAct 149 = .ok (.iadd, 1) := by decide +kernel
theorem dX5_readAct_150 : decode cX5_readAct 150 = .ok (.putfield 23, 3) := by decide +kernel
theorem dX5_readAct_153 : decode cX5_readAct 153 = .ok (.aload_n 0, 1) := by decide +kernel
theorem dX5_readAct_154 : decode cX5_readAct 154 = .ok (.bipush 59, 2) := by decide +kernel
theorem dX5_readAct_156 : decode cX5_readAct 156 = .ok (.invokevirtual 44, 3) := by decide +kernel
theorem dX5_readAct_159 : decode cX5_readAct 159 = .ok (.ireturn, 1) := by decide +kernel
theorem dX5_readAct_160 : decode cX5_readAct 160 = .ok (.aload_n 0, 1) := by decide +kernel
theorem dX5_readAct_161 : decode cX5_readAct 161 = .ok (.dup, 1) := by decide +kernel
theorem dX5_readAct_162 : decode cX5_readAct 162 = .ok (.getfield 23, 3) := by decide +kernel
theorem dX5_readAct_165 : decode cX5_readAct 165 = .ok (.iconst 1, 1) := by decide +kernel
theorem dX5_readAct_166 : decode cX5_readAct 166 = .ok (.iadd, 1) := by decide +kernel
theorem dX5_readAct_167 : decode cX5_readAct 167 = .ok (.putfield 23, 3) := by decide +kernel
theorem dX5_readAct_170 : decode cX5_readAct 170 = .ok (.aload_n 0, 1) := by decide +kernel
theorem dX5_readAct_171 : decode cX5_readAct 171 = .ok (.iconst 0, 1) := by decide +kernel
theorem dX5_readAct_172 : decode cX5_readAct 172 = .ok (.iconst 5, 1) := by decide +kernel
theorem dX5_readAct_173 : decode cX5_readAct 173 = .ok (.invokevirtual 40, 3) := by decide +kernel
theorem dX5_readAct_176 : decode cX5_readAct 176 = .ok (.ifCond .eq 35, 3) := by decide +kernel
theorem dX5_readAct_179 : decode cX5_readAct 179 = .ok (.aload_n 0, 1) := by decide +kernel
theorem dX5_readAct_180 : decode cX5_readAct 180 = .ok (.bipush 61, 2) := by decide +kernel
theorem dX5_readAct_182 : decode cX5_readAct 182 = .ok (.invokevirtual 44, 3) := by decide +kernel
theorem dX5_readAct_185 : decode cX5_readAct 185 = .ok (.ifCond .eq 26, 3) := by decide +kernel
theorem dX5_readAct_188 : decode cX5_readAct 188 = .ok (.aload_n 0, 1) := by decide +kernel
theorem dX5_readAct_189 : decode cX5_readAct 189 = .ok (.iconst 0, 1) := by decide +kernel
theorem dX5_readAct_190 : decode cX5_readAct 190 = .ok (.bipush 100, 2) := by decide +kernel
theorem dX5_readAct_192 : decode cX5_readAct 192 = .ok (.invokevirtual 48, 3) := by decide +kernel
theorem dX5_readAct_195 : decode cX5_readAct 195 = .ok (.ifCond .eq 16, 3) := by decide +kernel
theorem dX5_readAct_198 : decode cX5_readAct 198 = .ok (.aload_n 0, 1) := by decide +kernel
theorem dX5_readAct_199 : decode cX5_readAct 199 = .ok (.bipush 59, 2) := by decide +kernel
theorem dX5_readAct_201 : decode cX5_readAct 201 = .ok (.invokevirtual 44, 3) := by decide +kernel
theorem dX5_readAct_204 : decode cX5_readAct 204 = .ok (.ifCond .eq 7, 3) := by decide +kernel
theorem dX5_readAct_207 : decode cX5_readAct 207 = .ok (.iconst 1, 1) := by decide +kernel
theorem dX5_readAct_208 : decode cX5_readAct 208 = .ok (.goto 4, 3) := by decide +kernel
theorem dX5_readAct_211 : decode cX5_readAct 211 = .ok (.iconst 0, 1) := by decide +kernel
theorem dX5_readAct_212 : decode cX5_readAct 212 = .ok (.ireturn, 1) := by decide +kernel
theorem dX5_readAct_213 : decode cX5_readAct 213 = .ok (.iconst 0, 1) := by decide +kernel
theorem dX5_readAct_214 : decode cX5_readAct 214 = .ok (.ireturn, 1) := by decide +kernel
theorem dX5_here_0 : decode cX5_here 0 = .ok (.aload_n 0, 1) := by decide +kernel
theorem dX5_here_1 : decode cX5_here 1 = .ok (.getfield 23, 3) := by decide +kernel
theorem dX5_here_4 : decode cX5_here 4 = .ok (.iconst 0, 1) := by decide +kernel
theorem dX5_here_5 : decode cX5_here 5 = .ok (.aload_n 0, 1) := by decide +kernel
theorem dX5_here_6 : decode cX5_here 6 = .ok (.getfield 19, 3) := by decide +kernel
theorem dX5_here_9 : decode cX5_here 9 = .ok (.iconst 1, 1) := by decide +kernel
theorem dX5_here_10 : decode cX5_here 10 = .ok (.isub, 1) := by decide +kernel
theorem dX5_here_11 : decode cX5_here 11 = .ok (.invokestatic 15, 3) := by decide +kernel
theorem dX5_here_14 : decode cX5_here 14 = .ok (.ifCond .eq 15, 3) := by decide +kernel
theorem dX5_here_17 : decode cX5_here 17 = .ok (.aload_n 0, 1) := by decide +kernel
theorem dX5_here_18 : decode cX5_here 18 = .ok (.getfield 9, 3) := by decide +kernel
theorem dX5_here_21 : decode cX5_here 21 = .ok (.aload_n 0, 1) := by decide +kernel
theorem dX5_here_22 : decode cX5_here 22 = .ok (.getfield 23, 3) := by decide +kernel
theorem dX5_here_25 : decode cX5_here 25 = .ok (.iaload, 1) := by decide +kernel
theorem dX5_here_26 : decode cX5_here 26 = .ok (.goto 5, 3) := by decide +kernel
theorem dX5_here_29 : decode cX5_here 29 = .ok (.bipush (-6), 2) := by decide +kernel
theorem dX5_here_31 : decode cX5_here 31 = .ok (.ireturn, 1) := by decide +kernel
theorem dX5_readSign_0 : decode cX5_readSign 0 = .ok (.aload_n 0, 1) := by decide +kernel
theorem dX5_readSign_1 : decode cX5_readSign 1 = .ok (.invokevirtual 33, 3) := by decide +kernel
theorem dX5_readSign_4 : decode cX5_readSign 4 = .ok (.iload_n 1, 1) := by decide +kernel
theorem dX5_readSign_5 : decode cX5_readSign 5 = .ok (.if_icmp .eq 5, 3) := by decide +kernel
theorem dX5_readSign_8 : decode cX5_readSign 8 = .ok (.iconst 0, 1) := by decide +kernel
theorem dX5_readSign_9 : decode cX5_readSign 9 = .ok (.ireturn, 1) := by decide +kernel
theorem dX5_readSign_10 : decode cX5_readSign 10 = .ok (.aload_n 0, 1) := by decide +kernel
theorem dX5_readSign_11 : decode cX5_readSign 11 = .ok (.dup, 1) := by decide +kernel
theorem dX5_readSign_12 : decode cX5_readSign 12 = .ok (.getfield 23, 3) := by decide +kernel
theorem dX5_readSign_15 : decode cX5_readSign 15 = .ok (.iconst 1, 1) := by decide +kernel
theorem dX5_readSign_16 : decode cX5_readSign 16 = .ok (.iadd, 1) := by decide +kernel
theorem dX5_readSign_17 : decode cX5_readSign 17 = .ok (.putfield 23, 3) := by decide +kernel
theorem dX5_readSign_20 : decode cX5_readSign 20 = .ok (.iconst 1, 1) := by decide +kernel
theorem dX5_readSign_21 : decode cX5_readSign 21 = .ok (.ireturn, 1) := by decide +kernel
theorem dX5_readFirst_0 : decode cX5_readFirst 0 = .ok (.aload_n 0, 1) := by decide +kernel
theorem dX5_readFirst_1 : decode cX5_readFirst 1 = .ok (.iload_n 1, 1) := by decide +kernel
theorem dX5_readFirst_2 : decode cX5_readFirst 2 = .ok (.iload_n 2, 1) := by decide +kernel
theorem dX5_readFirst_3 : decode cX5_readFirst 3 = .ok (.invokevirtual 51, 3) := by decide +kernel
theorem dX5_readFirst_6 : decode cX5_readFirst 6 = .ok (.istore_n 3, 1) := by decide +kernel
theorem dX5_readFirst_7 : decode cX5_readFirst 7 = .ok (.aload_n 0, 1) := by decide +kernel
theorem dX5_readFirst_8 : decode cX5_readFirst 8 = .ok (.aload_n 0, 1) := by decide +kernel
theorem dX5_readFirst_9 : decode cX5_readFirst 9 = .ok (.getfield 54, 3) := by decide +kernel
theorem dX5_readFirst_12 : decode cX5_readFirst 12 = .ok (.putfield 57, 3) := by decide +kernel
theorem dX5_readFirst_15 : decode cX5_readFirst 15 = .ok (.iload_n 3, 1) := by decide +kernel
theorem dX5_readFirst_16 : decode cX5_readFirst 16 = .ok (.ireturn, 1) := by decide +kernel
theorem dX5_readSecond_0 : decode cX5_readSecond 0 = .ok (.aload_n 0, 1) := by decide +kernel
theorem dX5_readSecond_1 : decode cX5_readSecond 1 = .ok (.iload_n 1, 1) := by decide +kernel
theorem dX5_readSecond_2 : decode cX5_readSecond 2 = .ok (.iload_n 2, 1) := by decide +kernel
theorem dX5_readSecond_3 : decode cX5_readSecond 3 = .ok (.invokevirtual 51, 3) := by decide +kernel
theorem dX5_readSecond_6 : decode cX5_readSecond 6 = .ok (.istore_n 3, 1) := by decide +kernel
theorem dX5_readSecond_7 : decode cX5_readSecond 7 = .ok (.aload_n 0, 1) := by decide +kernel
theorem dX5_readSecond_8 : decode cX5_readSecond 8 = .ok (.aload_n 0, 1) := by decide +kernel
theorem dX5_readSecond_9 : decode cX5_readSecond 9 = .ok (.getfield 54, 3) := by decide +kernel
theorem dX5_readSecond_12 : decode cX5_readSecond 12 = .ok (.putfield 60, 3) := by decide +kernel
theorem dX5_readSecond_15 : decode cX5_readSecond 15 = .ok (.iload_n 3, 1) := by decide +kernel
theorem dX5_readSecond_16 : decode cX5_readSecond 16 = .ok (.ireturn, 1) := by decide +kernel
theorem dX5_readNumber_0 : decode cX5_readNumber 0 = .ok (.aload_n 0, 1) := by decide +kernel
theorem dX5_readNumber_1 : decode cX5_readNumber 1 = .ok (.getfield 23, 3) := by decide +kernel
theorem dX5_readNumber_4 : decode cX5_readNumber 4 = .ok (.istore_n 3, 1) := by decide +kernel
theorem dX5_readNumber_5 : decode cX5_readNumber 5 = .ok (.iconst 0, 1) := by decide +kernel
theorem dX5_readNumber_6 : decode cX5_readNumber 6 = .ok (.istore 4, 2) := by decide +kernel
theorem dX5_readNumber_8 : decode cX5_readNumber 8 = .ok (.aload_n 0, 1) := by decide +kernel
theorem dX5_readNumber_9 : decode cX5_readNumber 9 = .ok (.iconst 0, 1) := by decide +kernel
theorem dX5_readNumber_10 : decode cX5_readNumber 10 = .ok (.putfield 54, 3) := by decide +kernel
theorem dX5_readNumber_13 : decode cX5_readNumber 13 = .ok (.iload 4, 2) := by decide +kernel
theorem dX5_readNumber_15 : decode cX5_readNumber 15 = .ok (.iconst 3, 1) := by decide +kernel
theorem dX5_readNumber_16 : decode cX5_readNumber 16 = .ok (.if_icmp .ge 64, 3) := by decide +kernel
theorem dX5_readNumber_19 : decode cX5_readNumber 19 = .ok (.aload_n 0, 1) := by decide +kernel
theorem dX5_readNumber_20 : decode cX5_readNumber 20 = .ok (.invokevirtual 33, 3) := by decide +kernel
theorem dX5_readNumber_23 : decode cX5_readNumber 23 = .ok (.bipush 48, 2) := by decide +kernel
theorem dX5_readNumber_25 : decode cX5_readNumber 25 = .ok (.bipush 57, 2) := by decide +kernel
theorem dX5_readNumber_27 : decode cX5_readNumber 27 = .ok (.invokestatic 15, 3) := by decide +kernel
theorem dX5_readNumber_30 : decode cX5_readNumber 30 = .ok (.ifCond .eq 50, 3) := by decide +kernel
theorem dX5_readNumber_33 : decode cX5_readNumber 33 = .ok (.iload 4, 2) := by decide +kernel
theorem dX5_readNumber_35 : decode cX5_readNumber 35 = .ok (.ifCond .le 10, 3) := by decide +kernel
theorem dX5_readNumber_38 : decode cX5_readNumber 38 = .ok (.aload_n 0, 1) := by decide +kernel
theorem dX5_readNumber_39 : decode cX5_readNumber 39 = .ok (.getfield 54, 3) := by decide +kernel
theorem dX5_readNumber_42 : decode cX5_readNumber 42 = .ok (.ifCond .eq 38, 3) := by decide +kernel
theorem dX5_readNumber_45 : decode cX5_readNumber 45 = .ok (.aload_n 0, 1) := by decide +kernel
theorem dX5_readNumber_46 : decode cX5_readNumber 46 = .ok (.aload_n 0, 1) := by decide +kernel
theorem dX5_readNumber_47 : decode cX5_readNumber 47 = .ok (.getfield 54, 3) := by decide +kernel
theorem dX5_readNumber_50 : decode cX5_readNumber 50 = .ok (.bipush 10, 2) := by decide +kernel
theorem dX5_readNumber_52 : decode cX5_readNumber 52 = .ok (.imul, 1) := by decide +kernel
theorem dX5_readNumber_53 : decode cX5_readNumber 53 = .ok (.aload_n 0, 1) := by decide +kernel
theorem dX5_readNumber_54 : decode cX5_readNumber 54 = .ok (.invokevirtual 33, 3) := by decide +kernel
theorem dX5_readNumber_57 : decode cX5_readNumber 57 = .ok (.iadd, 1) := by decide +kernel
theorem dX5_readNumber_58 : decode cX5_readNumber 58 = .ok (.bipush 48, 2) := by decide +kernel
theorem dX5_readNumber_60 : decode cX5_readNumber 60 = .ok (.isub, 1) := by decide +kernel
theorem dX5_readNumber_61 : decode cX5_readNumber 61 = .ok (.putfield 54, 3) := by decide +kernel
theorem dX5_readNumber_64 : decode cX5_readNumber 64 = .ok (.iinc 4 1, 3) := by decide +kernel
theorem dX5_readNumber_67 : decode cX5_readNumber 67 = .ok (.aload_n 0, 1) := by decide +kernel
theorem dX5_readNumber_68 : decode cX5_readNumber 68 = .ok (.dup, 1) := by decide +kernel
theorem dX5_readNumber_69 : decode cX5_readNumber 69 = .ok (.getfield 23, 3) := by decide +kernel
theorem dX5_readNumber_72 : decode cX5_readNumber 72 = .ok (.iconst 1, 1) := by decide +kernel
theorem dX5_readNumber_73 : decode cX5_readNumber 73 = .ok (.iadd, 1) := by decide +kernel
theorem dX5_readNumber_74 : decode cX5_readNumber 74 = .ok (.putfield 23, 3) := by decide +kernel
theorem dX5_readNumber_77 : decode cX5_readNumber 77 = .ok (.goto (-64), 3) := by decide +kernel
theorem dX5_readNumber_80 : decode cX5_readNumber 80 = .ok (.iload 4, 2) := by decide +kernel
theorem dX5_readNumber_82 : decode cX5_readNumber 82 = .ok (.ifCond .ne 5, 3) := by decide +kernel
theorem dX5_readNumber_85 : decode cX5_readNumber 85 = .ok (.iconst 0, 1) := by decide +kernel
theorem dX5_readNumber_86 : decode cX5_readNumber 86 = .ok (.ireturn, 1) := by decide +kernel
theorem dX5_readNumber_87 : decode cX5_readNumber 87 = .ok (.aload_n 0, 1) := by decide +kernel
theorem dX5_readNumber_88 : decode cX5_readNumber 88 = .ok (.getfield 54, 3) := by decide +kernel
theorem dX5_readNumber_91 : decode cX5_readNumber 91 = .ok (.iload_n 1, 1) := by decide +kernel
theorem dX5_readNumber_92 : decode cX5_readNumber 92 = .ok (.iload_n 2, 1) := by decide +kernel
theorem dX5_readNumber_93 : decode cX5_readNumber 93 = .ok (.invokestatic 15, 3) := by decide +kernel
theorem dX5_readNumber_96 : decode cX5_readNumber 96 = .ok (.ifCond .ne 10, 3) := by decide +kernel
theorem dX5_readNumber_99 : decode cX5_readNumber 99 = .ok (.aload_n 0, 1) := by decide +kernel
theorem dX5_readNumber_100 : decode cX5_readNumber 100 = .ok (.iload_n 3, 1) := by decide +kernel
theorem dX5_readNumber_101 : decode cX5_readNumber 101 = .ok (.putfield 23, 3) := by decide +kernel
theorem dX5_readNumber_104 : decode cX5_readNumber 104 = .ok (.iconst 0, 1) := by decide +kernel
theorem dX5_readNumber_105 : decode cX5_readNumber 105 = .ok (.ireturn, 1) := by decide +kernel
theorem dX5_readNumber_106 : decode cX5_readNumber 106 = .ok (.iconst 1, 1) := by decide +kernel
theorem dX5_readNumber_107 : decode cX5_readNumber 107 = .ok (.ireturn, 1) := by decide +kernel
theorem dJ7_fill_53178_0 : decode cJ7_fill_53178 0 = .ok (.iconst 0, 1) := by decide +kernel
theorem dJ7_fill_53178_1 : decode cJ7_fill_53178 1 = .ok (.istore_n 2, 1) := by decide +kernel
theorem dJ7_fill_53178_2 : decode cJ7_fill_53178 2 = .ok (.aload_n 0, 1) := by decide +kernel
theorem dJ7_fill_53178_3 : decode cJ7_fill_53178 3 = .ok (.arraylength, 1) := by decide +kernel
theorem dJ7_fill_53178_4 : decode cJ7_fill_53178 4 = .ok (.istore_n 3, 1) := by decide +kernel
theorem dJ7_fill_53178_5 : decode cJ7_fill_53178 5 = .ok (.iload_n 2, 1) := by decide +kernel
theorem dJ7_fill_53178_6 : decode cJ7_fill_53178 6 = .ok (.iload_n 3, 1) := by decide +kernel
theorem dJ7_fill_53178_7 : decode cJ7_fill_53178 7 = .ok (.if_icmp .ge 13, 3) := by decide +kernel
theorem dJ7_fill_53178_10 : decode cJ7_fill_53178 10 = .ok (.aload_n 0, 1) := by decide +kernel
theorem dJ7_fill_53178_11 : decode cJ7_fill_53178 11 = .ok (.iload_n 2, 1) := by decide +kernel
theorem dJ7_fill_53178_12 : decode cJ7_fill_53178 12 = .ok (.iload_n 1, 1) := by decide +kernel
theorem dJ7_fill_53178_13 : decode cJ7_fill_53178 13 = .ok (.iastore, 1) := by decide +kernel
theorem dJ7_fill_53178_14 : decode cJ7_fill_53178 14 = .ok (.iinc 2 1, 3) := by decide +kernel
theorem dJ7_fill_53178_17 : decode cJ7_fill_53178 17 = .ok (.goto (-12), 3) := by decide +kernel
theorem dJ7_fill_53178_20 : decode cJ7_fill_53178 20 = .ok (.return_, 1) := by decide +kernel
end
section
theorem dX4_init_0 : decode cX4_init 0 = .ok (.aload_n 0, 1) := by decide +kernel
theorem dX4_init_1 : decode cX4_init 1 = .ok (.invokespecial 3, 3) := by decide +kernel
theorem dX4_init_4 : decode cX4_init 4 = .ok (.aload_n 0, 1) := by decide +kernel
theorem dX4_init_5 : decode cX4_init 5 = .ok (.new 9, 3) := by decide +kernel
theorem dX4_init_8 : decode cX4_init 8 = .ok (.dup, 1) := by decide +kernel
theorem dX4_init_9 : decode cX4_init 9 = .ok (.invokespecial 11, 3) := by decide +kernel
theorem dX4_init_12 : decode cX4_init 12 = .ok (.putfield 12, 3) := by decide +kernel
theorem dX4_init_15 : decode cX4_init 15 = .ok (.aload_n 0, 1) := by decide +kernel
theorem dX4_init_16 : decode cX4_init 16 = .ok (.new 18, 3) := by decide +kernel
theorem dX4_init_19 : decode cX4_init 19 = .ok (.dup, 1) := by decide +kernel
theorem dX4_init_20 : decode cX4_init 20 = .ok (.invokespecial 20, 3) := by decide +kernel
theorem dX4_init_23 : decode cX4_init 23 = .ok (.putfield 21, 3) := by decide +kernel
theorem dX4_init_26 : decode cX4_init 26 = .ok (.aload_n 0, 1) := by decide +kernel
theorem dX4_init_27 : decode cX4_init 27 = .ok (.bipush 6, 2) := by decide +kernel
theorem dX4_init_29 : decode cX4_init 29 = .ok (.anewarray 25, 3) := by decide +kernel
theorem dX4_init_32 : decode cX4_init 32 = .ok (.putfield 27, 3) := by decide +kernel
theorem dX4_init_35 : decode cX4_init 35 = .ok (.aload_n 0, 1) := by decide +kernel
theorem dX4_init_36 : decode cX4_init 36 = .ok (.bipush 6, 2) := by decide +kernel
theorem dX4_init_38 : decode cX4_init 38 = .ok (.newarray .int, 2) := by decide +kernel
theorem dX4_init_40 : decode cX4_init 40 = .ok (.putfield 31, 3) := by decide +kernel
theorem dX4_init_43 : decode cX4_init 43 = .ok (.aload_n 0, 1) := by decide +kernel
theorem dX4_init_44 : decode cX4_init 44 = .ok (.bipush 100, 2) := by decide +kernel
theorem dX4_init_46 : decode cX4_init 46 = .ok (.newarray .int, 2) := by decide +kernel
theorem dX4_init_48 : decode cX4_init 48 = .ok (.putfield 35, 3) := by decide +kernel
theorem dX4_init_51 : decode cX4_init 51 = .ok (.aload_n 0, 1) := by decide +kernel
theorem dX4_init_52 : decode cX4_init 52 = .ok (.bipush 100, 2) := by decide +kernel
theorem dX4_init_54 : decode cX4_init 54 = .ok (.newarray .int, 2) := by decide +kernel
theorem dX4_init_56 : decode cX4_init 56 = .ok (.putfield 38, 3) := by decide +kernel
theorem dX4_init_59 : decode cX4_init 59 = .ok (.aload_n 0, 1) := by decide +kernel
theorem dX4_init_60 : decode cX4_init 60 = .ok (.bipush 100, 2) := by decide +kernel
theorem dX4_init_62 : decode cX4_init 62 = .ok (.newarray .int, 2) := by decide +kernel
theorem dX4_init_64 : decode cX4_init 64 = .ok (.putfield 41, 3) := by decide +kernel
theorem dX4_init_67 : decode cX4_init 67 = .ok (.aload_n 0, 1) := by decide +kernel
theorem dX4_init_68 : decode cX4_init 68 = .ok (.iconst 0, 1) := by decide +kernel
theorem dX4_init_69 : decode cX4_init 69 = .ok (.putfield 44, 3) := by decide +kernel
theorem dX4_init_72 : decode cX4_init 72 = .ok (.aload_n 0, 1) := by decide +kernel
theorem dX4_init_73 : decode cX4_init 73 = .ok (.iconst 0, 1) := by decide +kernel
theorem dX4_init_74 : decode cX4_init 74 = .ok (.putfield 48, 3) := by decide +kernel
theorem dX4_init_77 : decode cX4_init 77 = .ok (.iconst 0, 1) := by decide +kernel
theorem dX4_init_78 : decode cX4_init 78 = .ok (.istore_n 1, 1) := by decide +kernel
theorem dX4_init_79 : decode cX4_init 79 = .ok (.iload_n 1, 1) := by decide +kernel
theorem dX4_init_80 : decode cX4_init 80 = .ok (.bipush 6, 2) := by decide +kernel
theorem dX4_init_82 : decode cX4_init 82 = .ok (.if_icmp .ge 22, 3) := by decide +kernel
theorem dX4_init_85 : decode cX4_init 85 = .ok (.aload_n 0, 1) := by decide +kernel
theorem dX4_init_86 : decode cX4_init 86 = .ok (.getfield 27, 3) := by decide +kernel
theorem dX4_init_89 : decode cX4_init 89 = .ok (.iload_n 1, 1) := by decide +kernel
theorem dX4_init_90 : decode cX4_init 90 = .ok (.new 25, 3) := by decide +kernel
theorem dX4_init_93 : decode cX4_init 93 = .ok (.dup, 1) := by decide +kernel
theorem dX4_init_94 : decode cX4_init 94 = .ok (.invokespecial 51, 3) := by decide +kernel
theorem dX4_init_97 : decode cX4_init 97 = .ok (.aastore, 1) := by decide +kernel
theorem dX4_init_98 : decode cX4_init 98 = .ok (.iinc 1 1, 3) := by decide +kernel
theorem dX4_init_101 : decode cX4_init 101 = .ok (.goto (-22), 3) := by decide +kernel
theorem dX4_init_104 : decode cX4_init 104 = .ok (.getstatic 52, 3) := by decide +kernel
theorem dX4_init_107 : decode cX4_init 107 = .ok (.aload_n 0, 1) := by decide +kernel
theorem dX4_init_108 : decode cX4_init 108 = .ok (.getfield 31, 3) := by decide +kernel
theorem dX4_init_111 : decode cX4_init 111 = .ok (.invokestatic 55, 3) := by decide +kernel
theorem dX4_init_114 : decode cX4_init 114 = .ok (.aload_n 0, 1) := by decide +kernel
theorem dX4_init_115 : decode cX4_init 115 = .ok (.invokevirtual 59, 3) := by decide +kernel
theorem dX4_init_118 : decode cX4_init 118 = .ok (.aload_n 0, 1) := by decide +kernel
theorem dX4_init_119 : decode cX4_init 119 = .ok (.invokevirtual 62, 3) := by decide +kernel
theorem dX4_init_122 : decode cX4_init 122 = .ok (.return_, 1) := by decide +kernel
theorem dX4_hasLine_0 : decode cX4_hasLine 0 = .ok (.iload_n 1, 1) := by decide +kernel
theorem dX4_hasLine_1 : decode cX4_hasLine 1 = .ok (.iconst 0, 1) := by decide +kernel
theorem dX4_hasLine_2 : decode cX4_hasLine 2 = .ok (.aload_n 0, 1) := by decide +kernel
theorem dX4_hasLine_3 : decode cX4_hasLine 3 = .ok (.getfield 12, 3) := by decide +kernel
theorem dX4_hasLine_6 : decode cX4_hasLine 6 = .ok (.getfield 65, 3) := by decide +kernel
theorem dX4_hasLine_9 : decode cX4_hasLine 9 = .ok (.iconst 1, 1) := by decide +kernel
theorem dX4_hasLine_10 : decode cX4_hasLine 10 = .ok (.isub, 1) := by decide +kernel
theorem dX4_hasLine_11 : decode cX4_hasLine 11 = .ok (.invokestatic 68, 3) := by decide +kernel
theorem dX4_hasLine_14 : decode cX4_hasLine 14 = .ok (.ireturn, 1) := by decide +kernel
theorem dX4_hasChannel_0 : decode cX4_hasChannel 0 = .ok (.iload_n 1, 1) := by decide +kernel
theorem dX4_hasChannel_1 : decode cX4_hasChannel 1 = .ok (.iconst 0, 1) := by decide +kernel
theorem dX4_hasChannel_2 : decode cX4_hasChannel 2 = .ok (.aload_n 0, 1) := by decide +kernel
theorem dX4_hasChannel_3 : decode cX4_hasChannel 3 = .ok (.getfield 72, 3) := by decide +kernel
theorem dX4_hasChannel_6 : decode cX4_hasChannel 6 = .ok (.iconst 1, 1) := by decide +kernel
theorem dX4_hasChannel_7 : decode cX4_hasChannel 7 = .ok (.isub, 1) := by decide +kernel
theorem dX4_hasChannel_8 : decode cX4_hasChannel 8 = .ok (.invokestatic 68, 3) := by decide +kernel
theorem dX4_hasChannel_11 : decode cX4_hasChannel 11 = .ok (.ireturn, 1) := by decide +kernel
theorem dX4_measures_0 : decode cX4_measures 0 = .ok (.aload_n 0, 1) := by decide +kernel
theorem dX4_measures_1 : decode cX4_measures 1 = .ok (.getfield 44, 3) := by decide +kernel
theorem dX4_measures_4 : decode cX4_measures 4 = .ok (.iconst 1, 1) := by decide +kernel
theorem dX4_measures_5 : decode cX4_measures 5 = .ok (.if_icmp .eq 11, 3) := by decide +kernel
theorem dX4_measures_8 : decode cX4_measures 8 = .ok (.aload_n 0, 1) := by decide +kernel
theorem dX4_measures_9 : decode cX4_measures 9 = .ok (.getfield 44, 3) := by decide +kernel
theorem dX4_measures_12 : decode cX4_measures 12 = .ok (.iconst 2, 1) := by decide +kernel
theorem dX4_measures_13 : decode cX4_measures 13 = .ok (.if_icmp .ne 7, 3) := by decide +kernel
theorem dX4_measures_16 : decode cX4_measures 16 = .ok (.iconst 1, 1) := by decide +kernel
theorem dX4_measures_17 : decode cX4_measures 17 = .ok (.goto 4, 3) := by decide +kernel
theorem dX4_measures_20 : decode cX4_measures 20 = .ok (.iconst 0, 1) := by decide +kernel
theorem dX4_measures_21 : decode cX4_measures 21 = .ok (.ireturn, 1) := by decide +kernel
theorem dX4_rests_0 : decode cX4_rests 0 = .ok (.aload_n 0, 1) := by decide +kernel
theorem dX4_rests_1 : decode cX4_rests 1 = .ok (.invokevirtual 75, 3) := by decide +kernel
theorem dX4_rests_4 : decode cX4_rests 4 = .ok (.ifCond .ne 15, 3) := by decide +kernel
theorem dX4_rests_7 : decode cX4_rests 7 = .ok (.aload_n 0, 1) := by decide +kernel
theorem dX4_rests_8 : decode cX4_rests 8 = .ok (.getfield 44, 3) := by decide +kernel
theorem dX4_rests_11 : decode cX4_rests 11 = .ok (.iconst 3, 1) := by decide +kernel
theorem dX4_rests_12 : decode cX4_rests 12 = .ok (.if_icmp .eq 7, 3) := by decide +kernel
theorem dX4_rests_15 : decode cX4_rests 15 = .ok (.iconst 1, 1) := by decide +kernel
theorem dX4_rests_16 : decode cX4_rests 16 = .ok (.goto 4, 3) := by decide +kernel
theorem dX4_rests_19 : decode cX4_rests 19 = .ok (.iconst 0, 1) := by decide +kernel
theorem dX4_rests_20 : decode cX4_rests 20 = .ok (.ireturn, 1) := by decide +kernel
theorem dX4_forgetRun_0 : decode cX4_forgetRun 0 = .ok (.iconst 0, 1) := by decide +kernel
theorem dX4_forgetRun_1 : decode cX4_forgetRun 1 = .ok (.istore_n 1, 1) := by decide +kernel
theorem dX4_forgetRun_2 : decode cX4_forgetRun 2 = .ok (.iload_n 1, 1) := by decide +kernel
theorem dX4_forgetRun_3 : decode cX4_forgetRun 3 = .ok (.aload_n 0, 1) := by decide +kernel
theorem dX4_forgetRun_4 : decode cX4_forgetRun 4 = .ok (.getfield 72, 3) := by decide +kernel
theorem dX4_forgetRun_7 : decode cX4_forgetRun 7 = .ok (.if_icmp .ge 18, 3) := by decide +kernel
theorem dX4_forgetRun_10 : decode cX4_forgetRun 10 = .ok (.aload_n 0, 1) := by decide +kernel
theorem dX4_forgetRun_11 : decode cX4_forgetRun 11 = .ok (.getfield 27, 3) := by decide +kernel
theorem dX4_forgetRun_14 : decode cX4_forgetRun 14 = .ok (.iload_n 1, 1) := by decide +kernel
theorem dX4_forgetRun_15 : decode cX4_forgetRun 15 = .ok (.aaload, 1) := by decide +kernel
theorem dX4_forgetRun_16 : decode cX4_forgetRun 16 = .ok (.invokevirtual 79, 3) := by decide +kernel
theorem dX4_forgetRun_19 : decode cX4_forgetRun 19 = .ok (.iinc 1 1, 3) := by decide +kernel
theorem dX4_forgetRun_22 : decode cX4_forgetRun 22 = .ok (.goto (-20), 3) := by decide +kernel
theorem dX4_forgetRun_25 : decode cX4_forgetRun 25 = .ok (.aload_n 0, 1) := by decide +kernel
theorem dX4_forgetRun_26 : decode cX4_forgetRun 26 = .ok (.getfield 38, 3) := by decide +kernel
theorem dX4_forgetRun_29 : decode cX4_forgetRun 29 = .ok (.bipush (-6), 2) := by decide +kernel
theorem dX4_forgetRun_31 : decode cX4_forgetRun 31 = .ok (.invokestatic 80, 3) := by decide +kernel
theorem dX4_forgetRun_34 : decode cX4_forgetRun 34 = .ok (.aload_n 0, 1) := by decide +kernel
theorem dX4_forgetRun_35 : decode cX4_forgetRun 35 = .ok (.getfield 41, 3) := by decide +kernel
theorem dX4_forgetRun_38 : decode cX4_forgetRun 38 = .ok (.bipush (-6), 2) := by decide +kernel
theorem dX4_forgetRun_40 : decode cX4_forgetRun 40 = .ok (.invokestatic 80, 3) := by decide +kernel
theorem dX4_forgetRun_43 : decode cX4_forgetRun 43 = .ok (.aload_n 0, 1) := by decide +kernel
theorem dX4_forgetRun_44 : decode cX4_forgetRun 44 = .ok (.iconst 1, 1) := by decide +kernel
theorem dX4_forgetRun_45 : decode cX4_forgetRun 45 = .ok (.putfield 86, 3) := by decide +kernel
theorem dX4_forgetRun_48 : decode cX4_forgetRun 48 = .ok (.aload_n 0, 1) := by decide +kernel
theorem dX4_forgetRun_49 : decode cX4_forgetRun 49 = .ok (.iconst 0, 1) := by decide +kernel
theorem dX4_forgetRun_50 : decode cX4_forgetRun 50 = .ok (.putfield 90, 3) := by decide +kernel
theorem dX4_forgetRun_53 : decode cX4_forgetRun 53 = .ok (.aload_n 0, 1) := by decide +kernel
theorem dX4_forgetRun_54 : decode cX4_forgetRun 54 = .ok (.iconst 0, 1) := by decide +kernel
theorem dX4_forgetRun_55 : decode cX4_forgetRun 55 = .ok (.putfield 93, 3) := by decide +kernel
theorem dX4_forgetRun_58 : decode cX4_forgetRun 58 = .ok (.aload_n 0, 1) := by decide +kernel
theorem dX4_forgetRun_59 : decode cX4_forgetRun 59 = .ok (.bipush (-6), 2) := by decide +kernel
theorem dX4_forgetRun_61 : decode cX4_forgetRun 61 = .ok (.putfield 96, 3) := by decide +kernel
theorem dX4_forgetRun_64 : decode cX4_forgetRun 64 = .ok (.aload_n 0, 1) := by decide +kernel
theorem dX4_forgetRun_65 : decode cX4_forgetRun 65 = .ok (.bipush (-6), 2) := by decide +kernel
theorem dX4_forgetRun_67 : decode cX4_forgetRun 67 = .ok (.putfield 99, 3) := by decide +kernel
theorem dX4_forgetRun_70 : decode cX4_forgetRun 70 = .ok (.return_, 1) := by decide +kernel
theorem dX4_forgetGains_0 : decode cX4_forgetGains 0 = .ok (.iconst 0, 1) := by decide +kernel
theorem dX4_forgetGains_1 : decode cX4_forgetGains 1 = .ok (.istore_n 1, 1) := by decide +kernel
theorem dX4_forgetGains_2 : decode cX4_forgetGains 2 = .ok (.iload_n 1, 1) := by decide +kernel
theorem dX4_forgetGains_3 : decode cX4_forgetGains 3 = .ok (.aload_n 0, 1) := by decide +kernel
theorem dX4_forgetGains_4 : decode cX4_forgetGains 4 = .ok (.getfield 72, 3) := by decide +kernel
theorem dX4_forgetGains_7 : decode cX4_forgetGains 7 = .ok (.if_icmp .ge 18, 3) := by decide +kernel
theorem dX4_forgetGains_10 : decode cX4_forgetGains 10 = .ok (.aload_n 0, 1) := by decide +kernel
theorem dX4_forgetGains_11 : decode cX4_forgetGains 11 = .ok (.getfield 27, 3) := by decide +kernel
theorem dX4_forgetGains_14 : decode cX4_forgetGains 14 = .ok (.iload_n 1, 1) := by decide +kernel
theorem dX4_forgetGains_15 : decode cX4_forgetGains 15 = .ok (.aaload, 1) := by decide +kernel
theorem dX4_forgetGains_16 : decode cX4_forgetGains 16 = .ok (.invokevirtual 102, 3) := by decide +kernel
theorem dX4_forgetGains_19 : decode cX4_forgetGains 19 = .ok (.iinc 1 1, 3) := by decide +kernel
theorem dX4_forgetGains_22 : decode cX4_forgetGains 22 = .ok (.goto (-20), 3) := by decide +kernel
theorem dX4_forgetGains_25 : decode cX4_forgetGains 25 = .ok (.aload_n 0, 1) := by decide +kernel
theorem dX4_forgetGains_26 : decode cX4_forgetGains 26 = .ok (.getfield 35, 3) := by decide +kernel
theorem dX4_forgetGains_29 : decode cX4_forgetGains 29 = .ok (.bipush (-6), 2) := by decide +kernel
theorem dX4_forgetGains_31 : decode cX4_forgetGains 31 = .ok (.invokestatic 80, 3) := by decide +kernel
theorem dX4_forgetGains_34 : decode cX4_forgetGains 34 = .ok (.return_, 1) := by decide +kernel
theorem dX4_layLines_0 : decode cX4_layLines 0 = .ok (.iload_n 1, 1) := by decide +kernel
theorem dX4_layLines_1 : decode cX4_layLines 1 = .ok (.iconst 5, 1) := by decide +kernel
theorem dX4_layLines_2 : decode cX4_layLines 2 = .ok (.sipush 1000, 3) := by decide +kernel
theorem dX4_layLines_5 : decode cX4_layLines 5 = .ok (.invokestatic 68, 3) := by decide +kernel
theorem dX4_layLines_8 : decode cX4_layLines 8 = .ok (.ifCond .eq 26, 3) := by decide +kernel
theorem dX4_layLines_11 : decode cX4_layLines 11 = .ok (.iload_n 2, 1) := by decide +kernel
theorem dX4_layLines_12 : decode cX4_layLines 12 = .ok (.iload_n 1, 1) := by decide +kernel
theorem dX4_layLines_13 : decode cX4_layLines 13 = .ok (.sipush 2000, 3) := by decide +kernel
theorem dX4_layLines_16 : decode cX4_layLines 16 = .ok (.invokestatic 68, 3) := by decide +kernel
theorem dX4_layLines_19 : decode cX4_layLines 19 = .ok (.ifCond .eq 15, 3) := by decide +kernel
theorem dX4_layLines_22 : decode cX4_layLines 22 = .ok (.iload_n 3, 1) := by decide +kernel
theorem dX4_layLines_23 : decode cX4_layLines 23 = .ok (.bipush 10, 2) := by decide +kernel
theorem dX4_layLines_25 : decode cX4_layLines 25 = .ok (.sipush 1000, 3) := by decide +kernel
theorem dX4_layLines_28 : decode cX4_layLines 28 = .ok (.invokestatic 68, 3) := by decide +kernel
theorem dX4_layLines_31 : decode cX4_layLines 31 = .ok (.ifCond .ne 6, 3) := by decide +kernel
theorem dX4_layLines_34 : decode cX4_layLines 34 = .ok (.bipush (-2), 2) := by decide +kernel
theorem dX4_layLines_36 : decode cX4_layLines 36 = .ok (.ireturn, 1) := by decide +kernel
theorem dX4_layLines_37 : decode cX4_layLines 37 = .ok (.aload_n 0, 1) := by decide +kernel
theorem dX4_layLines_38 : decode cX4_layLines 38 = .ok (.invokevirtual 103, 3) := by decide +kernel
theorem dX4_layLines_41 : decode cX4_layLines 41 = .ok (.ifCond .ne 6, 3) := by decide +kernel
theorem dX4_layLines_44 : decode cX4_layLines 44 = .ok (.bipush (-3), 2) := by decide +kernel
theorem dX4_layLines_46 : decode cX4_layLines 46 = .ok (.ireturn, 1) := by decide +kernel
theorem dX4_layLines_47 : decode cX4_layLines 47 = .ok (.iload_n 1, 1) := by decide +kernel
theorem dX4_layLines_48 : decode cX4_layLines 48 = .ok (.iload_n 2, 1) := by decide +kernel
theorem dX4_layLines_49 : decode cX4_layLines 49 = .ok (.iload_n 3, 1) := by decide +kernel
theorem dX4_layLines_50 : decode cX4_layLines 50 = .ok (.invokestatic 106, 3) := by decide +kernel
theorem dX4_layLines_53 : decode cX4_layLines 53 = .ok (.istore 4, 2) := by decide +kernel
theorem dX4_layLines_55 : decode cX4_layLines 55 = .ok (.iload 4, 2) := by decide +kernel
theorem dX4_layLines_57 : decode cX4_layLines 57 = .ok (.bipush 100, 2) := by decide +kernel
theorem dX4_layLines_59 : decode cX4_layLines 59 = .ok (.if_icmp .le 6, 3) := by decide +kernel
theorem dX4_layLines_62 : decode cX4_layLines 62 = .ok (.bipush (-4), 2) := by decide +kernel
theorem dX4_layLines_64 : decode cX4_layLines 64 = .ok (.ireturn, 1) := by decide +kernel
theorem dX4_layLines_65 : decode cX4_layLines 65 = .ok (.aload_n 0, 1) := by decide +kernel
theorem dX4_layLines_66 : decode cX4_layLines 66 = .ok (.getfield 12, 3) := by decide +kernel
theorem dX4_layLines_69 : decode cX4_layLines 69 = .ok (.iload_n 1, 1) := by decide +kernel
theorem dX4_layLines_70 : decode cX4_layLines 70 = .ok (.iload_n 3, 1) := by decide +kernel
theorem dX4_layLines_71 : decode cX4_layLines 71 = .ok (.iload 4, 2) := by decide +kernel
theorem dX4_layLines_73 : decode cX4_layLines 73 = .ok (.invokevirtual 110, 3) := by decide +kernel
theorem dX4_layLines_76 : decode cX4_layLines 76 = .ok (.aload_n 0, 1) := by decide +kernel
theorem dX4_layLines_77 : decode cX4_layLines 77 = .ok (.invokevirtual 59, 3) := by decide +kernel
theorem dX4_layLines_80 : decode cX4_layLines 80 = .ok (.aload_n 0, 1) := by decide +kernel
theorem dX4_layLines_81 : decode cX4_layLines 81 = .ok (.invokevirtual 62, 3) := by decide +kernel
theorem dX4_layLines_84 : decode cX4_layLines 84 = .ok (.aload_n 0, 1) := by decide +kernel
theorem dX4_layLines_85 : decode cX4_layLines 85 = .ok (.iconst 0, 1) := by decide +kernel
theorem dX4_layLines_86 : decode cX4_layLines 86 = .ok (.putfield 44, 3) := by decide +kernel
theorem dX4_layLines_89 : decode cX4_layLines 89 = .ok (.aload_n 0, 1) := by decide +kernel
theorem dX4_layLines_90 : decode cX4_layLines 90 = .ok (.iconst 0, 1) := by decide +kernel
theorem dX4_layLines_91 : decode cX4_layLines 91 = .ok (.putfield 114, 3) := by decide +kernel
theorem dX4_layLines_94 : decode cX4_layLines 94 = .ok (.iload 4, 2) := by decide +kernel
theorem dX4_layLines_96 : decode cX4_layLines 96 = .ok (.ireturn, 1) := by decide +kernel
theorem dX4_putPoint_0 : decode cX4_putPoint 0 = .ok (.iload_n 1, 1) := by decide +kernel
theorem dX4_putPoint_1 : decode cX4_putPoint 1 = .ok (.invokestatic 117, 3) := by decide +kernel
theorem dX4_putPoint_4 : decode cX4_putPoint 4 = .ok (.ifCond .eq 13, 3) := by decide +kernel
theorem dX4_putPoint_7 : decode cX4_putPoint 7 = .ok (.iload_n 2, 1) := by decide +kernel
theorem dX4_putPoint_8 : decode cX4_putPoint 8 = .ok (.iconst 1, 1) := by decide +kernel
theorem dX4_putPoint_9 : decode cX4_putPoint 9 = .ok (.ldc 121, 2) := by decide +kernel
theorem dX4_putPoint_11 : decode cX4_putPoint 11 = .ok (.invokestatic 68, 3) := by decide +kernel
theorem dX4_putPoint_14 : decode cX4_putPoint 14 = .ok (.ifCond .ne 6, 3) := by decide +kernel
theorem dX4_putPoint_17 : decode cX4_putPoint 17 = .ok (.bipush (-2), 2) := by decide +kernel
theorem dX4_putPoint_19 : decode cX4_putPoint 19 = .ok (.ireturn, 1) := by decide +kernel
theorem dX4_putPoint_20 : decode cX4_putPoint 20 = .ok (.aload_n 0, 1) := by decide +kernel
theorem dX4_putPoint_21 : decode cX4_putPoint 21 = .ok (.invokevirtual 103, 3) := by decide +kernel
theorem dX4_putPoint_24 : decode cX4_putPoint 24 = .ok (.ifCond .ne 6, 3) := by decide +kernel
theorem dX4_putPoint_27 : decode cX4_putPoint 27 = .ok (.bipush (-3), 2) := by decide +kernel
theorem dX4_putPoint_29 : decode cX4_putPoint 29 = .ok (.ireturn, 1) := by decide +kernel
theorem dX4_putPoint_30 : decode cX4_putPoint 30 = .ok (.aload_n 0, 1) := by decide +kernel
theorem dX4_putPoint_31 : decode cX4_putPoint 31 = .ok (.getfield 21, 3) := by decide +kernel
theorem dX4_putPoint_34 : decode cX4_putPoint 34 = .ok (.iload_n 1, 1) := by decide +kernel
theorem dX4_putPoint_35 : decode cX4_putPoint 35 = .ok (.iload_n 2, 1) := by decide +kernel
theorem dX4_putPoint_36 : decode cX4_putPoint 36 = .ok (.invokevirtual 122, 3) := by decide +kernel
theorem dX4_putPoint_39 : decode cX4_putPoint 39 = .ok (.ireturn, 1) := by decide +kernel
theorem dX4_joinChannel_0 : decode cX4_joinChannel 0 = .ok (.iload_n 2, 1) := by decide +kernel
theorem dX4_joinChannel_1 : decode cX4_joinChannel 1 = .ok (.iconst 0, 1) := by decide +kernel
theorem dX4_joinChannel_2 : decode cX4_joinChannel 2 = .ok (.sipush 5000, 3) := by decide +kernel
theorem dX4_joinChannel_5 : decode cX4_joinChannel 5 = .ok (.invokestatic 68, 3) := by decide +kernel
theorem dX4_joinChannel_8 : decode cX4_joinChannel 8 = .ok (.ifCond .eq 13, 3) := by decide +kernel
theorem dX4_joinChannel_11 : decode cX4_joinChannel 11 = .ok (.iload_n 3, 1) := by decide +kernel
theorem dX4_joinChannel_12 : decode cX4_joinChannel 12 = .ok (.iconst 1, 1) := by decide +kernel
theorem dX4_joinChannel_13 : decode cX4_joinChannel 13 = .ok (.ldc 126, 2) := by decide +kernel
theorem dX4_joinChannel_15 : decode cX4_joinChannel 15 = .ok (.invokestatic 68, 3) := by decide +kernel
theorem dX4_joinChannel_18 : decode cX4_joinChannel 18 = .ok (.ifCond .ne 6, 3) := by decide +kernel
theorem dX4_joinChannel_21 : decode cX4_joinChannel 21 = .ok (.bipush (-2), 2) := by decide +kernel
theorem dX4_joinChannel_23 : decode cX4_joinChannel 23 = .ok (.ireturn, 1) := by decide +kernel
theorem dX4_joinChannel_24 : decode cX4_joinChannel 24 = .ok (.aload_n 0, 1) := by decide +kernel
theorem dX4_joinChannel_25 : decode cX4_joinChannel 25 = .ok (.invokevirtual 103, 3) := by decide +kernel
theorem dX4_joinChannel_28 : decode cX4_joinChannel 28 = .ok (.ifCond .ne 6, 3) := by decide +kernel
theorem dX4_joinChannel_31 : decode cX4_joinChannel 31 = .ok (.bipush (-3), 2) := by decide +kernel
theorem dX4_joinChannel_33 : decode cX4_joinChannel 33 = .ok (.ireturn, 1) := by decide +kernel
theorem dX4_joinChannel_34 : decode cX4_joinChannel 34 = .ok (.aload_n 0, 1) := by decide +kernel
theorem dX4_joinChannel_35 : decode cX4_joinChannel 35 = .ok (.getfield 72, 3) := by decide +kernel
theorem dX4_joinChannel_38 : decode cX4_joinChannel 38 = .ok (.bipush 6, 2) := by decide +kernel
theorem dX4_joinChannel_40 : decode cX4_joinChannel 40 = .ok (.if_icmp .lt 6, 3) := by decide +kernel
theorem dX4_joinChannel_43 : decode cX4_joinChannel 43 = .ok (.bipush (-4), 2) := by decide +kernel
theorem dX4_joinChannel_45 : decode cX4_joinChannel 45 = .ok (.ireturn, 1) := by decide +kernel
theorem dX4_joinChannel_46 : decode cX4_joinChannel 46 = .ok (.aload_n 0, 1) := by decide +kernel
theorem dX4_joinChannel_47 : decode cX4_joinChannel 47 = .ok (.getfield 27, 3) := by decide +kernel
theorem dX4_joinChannel_50 : decode cX4_joinChannel 50 = .ok (.aload_n 0, 1) := by decide +kernel
theorem dX4_joinChannel_51 : decode cX4_joinChannel 51 = .ok (.getfield 72, 3) := by decide +kernel
theorem dX4_joinChannel_54 : decode cX4_joinChannel 54 = .ok (.aaload, 1) := by decide +kernel
theorem dX4_joinChannel_55 : decode cX4_joinChannel 55 = .ok (.iload_n 1, 1) := by decide +kernel
theorem dX4_joinChannel_56 : decode cX4_joinChannel 56 = .ok (.iload_n 2, 1) := by decide +kernel
theorem dX4_joinChannel_57 : decode cX4_joinChannel 57 = .ok (.iload_n 3, 1) := by decide +kernel
theorem dX4_joinChannel_58 : decode cX4_joinChannel 58 = .ok (.invokevirtual 127, 3) := by decide +kernel
theorem dX4_joinChannel_61 : decode cX4_joinChannel 61 = .ok (.aload_n 0, 1) := by decide +kernel
theorem dX4_joinChannel_62 : decode cX4_joinChannel 62 = .ok (.dup, 1) := by decide +kernel
theorem dX4_joinChannel_63 : decode cX4_joinChannel 63 = .ok (.getfield 72, 3) := by decide +kernel
theorem dX4_joinChannel_66 : decode cX4_joinChannel 66 = .ok (.iconst 1, 1) := by decide +kernel
theorem dX4_joinChannel_67 : decode cX4_joinChannel 67 = .ok (.iadd, 1) := by decide +kernel
theorem dX4_joinChannel_68 : decode cX4_joinChannel 68 = .ok (.putfield 72, 3) := by decide +kernel
theorem dX4_joinChannel_71 : decode cX4_joinChannel 71 = .ok (.aload_n 0, 1) := by decide +kernel
theorem dX4_joinChannel_72 : decode cX4_joinChannel 72 = .ok (.getfield 72, 3) := by decide +kernel
theorem dX4_joinChannel_75 : decode cX4_joinChannel 75 = .ok (.iconst 1, 1) := by decide +kernel
theorem dX4_joinChannel_76 : decode cX4_joinChannel 76 = .ok (.isub, 1) := by decide +kernel
theorem dX4_joinChannel_77 : decode cX4_joinChannel 77 = .ok (.ireturn, 1) := by decide +kernel
theorem dX4_changeSetting_0 : decode cX4_changeSetting 0 = .ok (.iload_n 1, 1) := by decide +kernel
theorem dX4_changeSetting_1 : decode cX4_changeSetting 1 = .ok (.iconst 0, 1) := by decide +kernel
theorem dX4_changeSetting_2 : decode cX4_changeSetting 2 = .ok (.iconst 5, 1) := by decide +kernel
theorem dX4_changeSetting_3 : decode cX4_changeSetting 3 = .ok (.invokestatic 68, 3) := by decide +kernel
theorem dX4_changeSetting_6 : decode cX4_changeSetting 6 = .ok (.ifCond .ne 5, 3) := by decide +kernel
theorem dX4_changeSetting_9 : decode cX4_changeSetting 9 = .ok (.iconst (-1), 1) := by decide +kernel
theorem dX4_changeSetting_10 : decode cX4_changeSetting 10 = .ok (.ireturn, 1) := by decide +kernel
theorem dX4_changeSetting_11 : decode cX4_changeSetting 11 = .ok (.iload_n 2, 1) := by decide +kernel
theorem dX4_changeSetting_12 : decode cX4_changeSetting 12 = .ok (.getstatic 131, 3) := by decide +kernel
theorem dX4_changeSetting_15 : decode cX4_changeSetting 15 = .ok (.iload_n 1, 1) := by decide +kernel
theorem dX4_changeSetting_16 : decode cX4_changeSetting 16 = .ok (.iaload, 1) := by decide +kernel
theorem dX4_changeSetting_17 : decode cX4_changeSetting 17 = .ok (.getstatic 134, 3) := by decide +kernel
theorem dX4_changeSetting_20 : decode cX4_changeSetting 20 = .ok (.iload_n 1, 1) := by decide +kernel
theorem dX4_changeSetting_21 : decode cX4_changeSetting 21 = .ok (.iaload, 1) := by decide +kernel
theorem dX4_changeSetting_22 : decode cX4_changeSetting 22 = .ok (.invokestatic 68, 3) := by decide +kernel
theorem dX4_changeSetting_25 : decode cX4_changeSetting 25 = .ok (.ifCond .ne 6, 3) := by decide +kernel
theorem dX4_changeSetting_28 : decode cX4_changeSetting 28 = .ok (.bipush (-2), 2) := by decide +kernel
theorem dX4_changeSetting_30 : decode cX4_changeSetting 30 = .ok (.ireturn, 1) := by decide +kernel
theorem dX4_changeSetting_31 : decode cX4_changeSetting 31 = .ok (.aload_n 0, 1) := by decide +kernel
theorem dX4_changeSetting_32 : decode cX4_changeSetting 32 = .ok (.getfield 31, 3) := by decide +kernel
theorem dX4_changeSetting_35 : decode cX4_changeSetting 35 = .ok (.iload_n 1, 1) := by decide +kernel
theorem dX4_changeSetting_36 : decode cX4_changeSetting 36 = .ok (.iaload, 1) := by decide +kernel
theorem dX4_changeSetting_37 : decode cX4_changeSetting 37 = .ok (.istore_n 3, 1) := by decide +kernel
theorem dX4_changeSetting_38 : decode cX4_changeSetting 38 = .ok (.aload_n 0, 1) := by decide +kernel
theorem dX4_changeSetting_39 : decode cX4_changeSetting 39 = .ok (.getfield 31, 3) := by decide +kernel
theorem dX4_changeSetting_42 : decode cX4_changeSetting 42 = .ok (.iload_n 1, 1) := by decide +kernel
theorem dX4_changeSetting_43 : decode cX4_changeSetting 43 = .ok (.iload_n 2, 1) := by decide +kernel
theorem dX4_changeSetting_44 : decode cX4_changeSetting 44 = .ok (.iastore, 1) := by decide +kernel
theorem dX4_changeSetting_45 : decode cX4_changeSetting 45 = .ok (.iload_n 3, 1) := by decide +kernel
theorem dX4_changeSetting_46 : decode cX4_changeSetting 46 = .ok (.ireturn, 1) := by decide +kernel
theorem dX4_begin_0 : decode cX4_begin 0 = .ok (.iload_n 1, 1) := by decide +kernel
theorem dX4_begin_1 : decode cX4_begin 1 = .ok (.iconst 1, 1) := by decide +kernel
theorem dX4_begin_2 : decode cX4_begin 2 = .ok (.sipush 1000, 3) := by decide +kernel
theorem dX4_begin_5 : decode cX4_begin 5 = .ok (.invokestatic 68, 3) := by decide +kernel
theorem dX4_begin_8 : decode cX4_begin 8 = .ok (.ifCond .ne 6, 3) := by decide +kernel
theorem dX4_begin_11 : decode cX4_begin 11 = .ok (.bipush (-2), 2) := by decide +kernel
theorem dX4_begin_13 : decode cX4_begin 13 = .ok (.ireturn, 1) := by decide +kernel
theorem dX4_begin_14 : decode cX4_begin 14 = .ok (.aload_n 0, 1) := by decide +kernel
theorem dX4_begin_15 : decode cX4_begin 15 = .ok (.aload_n 0, 1) := by decide +kernel
theorem dX4_begin_16 : decode cX4_begin 16 = .ok (.invokevirtual 137, 3) := by decide +kernel
theorem dX4_begin_19 : decode cX4_begin 19 = .ok (.putfield 48, 3) := by decide +kernel
theorem dX4_begin_22 : decode cX4_begin 22 = .ok (.aload_n 0, 1) := by decide +kernel
theorem dX4_begin_23 : decode cX4_begin 23 = .ok (.getfield 48, 3) := by decide +kernel
theorem dX4_begin_26 : decode cX4_begin 26 = .ok (.ifCond .eq 6, 3) := by decide +kernel
theorem dX4_begin_29 : decode cX4_begin 29 = .ok (.bipush (-5), 2) := by decide +kernel
theorem dX4_begin_31 : decode cX4_begin 31 = .ok (.ireturn, 1) := by decide +kernel
theorem dX4_begin_32 : decode cX4_begin 32 = .ok (.aload_n 0, 1) := by decide +kernel
theorem dX4_begin_33 : decode cX4_begin 33 = .ok (.invokevirtual 59, 3) := by decide +kernel
theorem dX4_begin_36 : decode cX4_begin 36 = .ok (.aload_n 0, 1) := by decide +kernel
theorem dX4_begin_37 : decode cX4_begin 37 = .ok (.iconst 1, 1) := by decide +kernel
theorem dX4_begin_38 : decode cX4_begin 38 = .ok (.putfield 44, 3) := by decide +kernel
theorem dX4_begin_41 : decode cX4_begin 41 = .ok (.aload_n 0, 1) := by decide +kernel
theorem dX4_begin_42 : decode cX4_begin 42 = .ok (.iconst 0, 1) := by decide +kernel
theorem dX4_begin_43 : decode cX4_begin 43 = .ok (.putfield 114, 3) := by decide +kernel
theorem dX4_begin_46 : decode cX4_begin 46 = .ok (.aload_n 0, 1) := by decide +kernel
theorem dX4_begin_47 : decode cX4_begin 47 = .ok (.iload_n 1, 1) := by decide +kernel
theorem dX4_begin_48 : decode cX4_begin 48 = .ok (.putfield 141, 3) := by decide +kernel
theorem dX4_begin_51 : decode cX4_begin 51 = .ok (.aload_n 0, 1) := by decide +kernel
theorem dX4_begin_52 : decode cX4_begin 52 = .ok (.getfield 38, 3) := by decide +kernel
theorem dX4_begin_55 : decode cX4_begin 55 = .ok (.iconst 0, 1) := by decide +kernel
theorem dX4_begin_56 : decode cX4_begin 56 = .ok (.iload_n 1, 1) := by decide +kernel
theorem dX4_begin_57 : decode cX4_begin 57 = .ok (.iastore, 1) := by decide +kernel
theorem dX4_begin_58 : decode cX4_begin 58 = .ok (.aload_n 0, 1) := by decide +kernel
theorem dX4_begin_59 : decode cX4_begin 59 = .ok (.getfield 12, 3) := by decide +kernel
theorem dX4_begin_62 : decode cX4_begin 62 = .ok (.getfield 65, 3) := by decide +kernel
theorem dX4_begin_65 : decode cX4_begin 65 = .ok (.ireturn, 1) := by decide +kernel
theorem dX4_reasonToRefuse_0 : decode cX4_reasonToRefuse 0 = .ok (.aload_n 0, 1) := by decide +kernel
theorem dX4_reasonToRefuse_1 : decode cX4_reasonToRefuse 1 = .ok (.invokevirtual 103, 3) := by decide +kernel
theorem dX4_reasonToRefuse_4 : decode cX4_reasonToRefuse 4 = .ok (.ifCond .ne 5, 3) := by decide +kernel
theorem dX4_reasonToRefuse_7 : decode cX4_reasonToRefuse 7 = .ok (.iconst 1, 1) := by decide +kernel
theorem dX4_reasonToRefuse_8 : decode cX4_reasonToRefuse 8 = .ok (.ireturn, 1) := by decide +kernel
theorem dX4_reasonToRefuse_9 : decode cX4_reasonToRefuse 9 = .ok (.aload_n 0, 1) := by decide +kernel
theorem dX4_reasonToRefuse_10 : decode cX4_reasonToRefuse 10 = .ok (.getfield 12, 3) := by decide +kernel
theorem dX4_reasonToRefuse_13 : decode cX4_reasonToRefuse 13 = .ok (.getfield 65, 3) := by decide +kernel
theorem dX4_reasonToRefuse_16 : decode cX4_reasonToRefuse 16 = .ok (.ifCond .ne 5, 3) := by decide +kernel
theorem dX4_reasonToRefuse_19 : decode cX4_reasonToRefuse 19 = .ok (.iconst 2, 1) := by decide +kernel
theorem dX4_reasonToRefuse_20 : decode cX4_reasonToRefuse 20 = .ok (.ireturn, 1) := by decide +kernel
theorem dX4_reasonToRefuse_21 : decode cX4_reasonToRefuse 21 = .ok (.aload_n 0, 1) := by decide +kernel
theorem dX4_reasonToRefuse_22 : decode cX4_reasonToRefuse 22 = .ok (.getfield 21, 3) := by decide +kernel
theorem dX4_reasonToRefuse_25 : decode cX4_reasonToRefuse 25 = .ok (.getfield 144, 3) := by decide +kernel
theorem dX4_reasonToRefuse_28 : decode cX4_reasonToRefuse 28 = .ok (.ifCond .ne 5, 3) := by decide +kernel
theorem dX4_reasonToRefuse_31 : decode cX4_reasonToRefuse 31 = .ok (.iconst 3, 1) := by decide +kernel
theorem dX4_reasonToRefuse_32 : decode cX4_reasonToRefuse 32 = .ok (.ireturn, 1) := by decide +kernel
theorem dX4_reasonToRefuse_33 : decode cX4_reasonToRefuse 33 = .ok (.iconst 0, 1) := by decide +kernel
theorem dX4_reasonToRefuse_34 : decode cX4_reasonToRefuse 34 = .ok (.istore_n 1, 1) := by decide +kernel
theorem dX4_reasonToRefuse_35 : decode cX4_reasonToRefuse 35 = .ok (.iload_n 1, 1) := by decide +kernel
theorem dX4_reasonToRefuse_36 : decode cX4_reasonToRefuse 36 = .ok (.aload_n 0, 1) := by decide +kernel
theorem dX4_reasonToRefuse_37 : decode cX4_reasonToRefuse 37 = .ok (.getfield 72, 3) := by decide +kernel
theorem dX4_reasonToRefuse_40 : decode cX4_reasonToRefuse 40 = .ok (.if_icmp .ge 23, 3) := by decide +kernel
theorem dX4_reasonToRefuse_43 : decode cX4_reasonToRefuse 43 = .ok (.aload_n 0, 1) := by decide +kernel
theorem dX4_reasonToRefuse_44 : decode cX4_reasonToRefuse 44 = .ok (.getfield 27, 3) := by decide +kernel
theorem dX4_reasonToRefuse_47 : decode cX4_reasonToRefuse 47 = .ok (.iload_n 1, 1) := by decide +kernel
theorem dX4_reasonToRefuse_48 : decode cX4_reasonToRefuse 48 = .ok (.aaload, 1) := by decide +kernel
theorem dX4_reasonToRefuse_49 : decode cX4_reasonToRefuse 49 = .ok (.getfield 145, 3) := by decide +kernel
theorem dX4_reasonToRefuse_52 : decode cX4_reasonToRefuse 52 = .ok (.ifCond .eq 5, 3) := by decide +kernel
theorem dX4_reasonToRefuse_55 : decode cX4_reasonToRefuse 55 = .ok (.iconst 0, 1) := by decide +kernel
theorem dX4_reasonToRefuse_56 : decode cX4_reasonToRefuse 56 = .ok (.ireturn, 1) := by decide +kernel
theorem dX4_reasonToRefuse_57 : decode cX4_reasonToRefuse 57 = .ok (.iinc 1 1, 3) := by decide +kernel
theorem dX4_reasonToRefuse_60 : decode cX4_reasonToRefuse 60 = .ok (.goto (-25), 3) := by decide +kernel
theorem dX4_reasonToRefuse_63 : decode cX4_reasonToRefuse 63 = .ok (.iconst 4, 1) := by decide +kernel
theorem dX4_reasonToRefuse_64 : decode cX4_reasonToRefuse 64 = .ok (.ireturn, 1) := by decide +kernel
theorem dX4_holdOrGoOn_0 : decode cX4_holdOrGoOn 0 = .ok (.aload_n 0, 1) := by decide +kernel
theorem dX4_holdOrGoOn_1 : decode cX4_holdOrGoOn 1 = .ok (.getfield 44, 3) := by decide +kernel
theorem dX4_holdOrGoOn_4 : decode cX4_holdOrGoOn 4 = .ok (.iload_n 1, 1) := by decide +kernel
theorem dX4_holdOrGoOn_5 : decode cX4_holdOrGoOn 5 = .ok (.ifCond .eq 7, 3) := by decide +kernel
theorem dX4_holdOrGoOn_8 : decode cX4_holdOrGoOn 8 = .ok (.iconst 1, 1) := by decide +kernel
theorem dX4_holdOrGoOn_9 : decode cX4_holdOrGoOn 9 = .ok (.goto 4, 3) := by decide +kernel
theorem dX4_holdOrGoOn_12 : decode cX4_holdOrGoOn 12 = .ok (.iconst 2, 1) := by decide +kernel
theorem dX4_holdOrGoOn_13 : decode cX4_holdOrGoOn 13 = .ok (.if_icmp .eq 6, 3) := by decide +kernel
theorem dX4_holdOrGoOn_16 : decode cX4_holdOrGoOn 16 = .ok (.bipush (-3), 2) := by decide +kernel
theorem dX4_holdOrGoOn_18 : decode cX4_holdOrGoOn 18 = .ok (.ireturn, 1) := by decide +kernel
theorem dX4_holdOrGoOn_19 : decode cX4_holdOrGoOn 19 = .ok (.aload_n 0, 1) := by decide +kernel
theorem dX4_holdOrGoOn_20 : decode cX4_holdOrGoOn 20 = .ok (.iload_n 1, 1) := by decide +kernel
theorem dX4_holdOrGoOn_21 : decode cX4_holdOrGoOn 21 = .ok (.ifCond .eq 7, 3) := by decide +kernel
theorem dX4_holdOrGoOn_24 : decode cX4_holdOrGoOn 24 = .ok (.iconst 2, 1) := by decide +kernel
theorem dX4_holdOrGoOn_25 : decode cX4_holdOrGoOn 25 = .ok (.goto 4, 3) := by decide +kernel
theorem dX4_holdOrGoOn_28 : decode cX4_holdOrGoOn 28 = .ok (.iconst 1, 1) := by decide +kernel
theorem dX4_holdOrGoOn_29 : decode cX4_holdOrGoOn 29 = .ok (.putfield 44, 3) := by decide +kernel
theorem dX4_holdOrGoOn_32 : decode cX4_holdOrGoOn 32 = .ok (.aload_n 0, 1) := by decide +kernel
theorem dX4_holdOrGoOn_33 : decode cX4_holdOrGoOn 33 = .ok (.getfield 114, 3) := by decide +kernel
theorem dX4_holdOrGoOn_36 : decode cX4_holdOrGoOn 36 = .ok (.ireturn, 1) := by decide +kernel
theorem dX4_abortByHand_0 : decode cX4_abortByHand 0 = .ok (.aload_n 0, 1) := by decide +kernel
theorem dX4_abortByHand_1 : decode cX4_abortByHand 1 = .ok (.invokevirtual 75, 3) := by decide +kernel
theorem dX4_abortByHand_4 : decode cX4_abortByHand 4 = .ok (.ifCond .ne 6, 3) := by decide +kernel
theorem dX4_abortByHand_7 : decode cX4_abortByHand 7 = .ok (.bipush (-3), 2) := by decide +kernel
theorem dX4_abortByHand_9 : decode cX4_abortByHand 9 = .ok (.ireturn, 1) := by decide +kernel
theorem dX4_abortByHand_10 : decode cX4_abortByHand 10 = .ok (.aload_n 0, 1) := by decide +kernel
theorem dX4_abortByHand_11 : decode cX4_abortByHand 11 = .ok (.bipush (-6), 2) := by decide +kernel
theorem dX4_abortByHand_13 : decode cX4_abortByHand 13 = .ok (.invokevirtual 148, 3) := by decide +kernel
theorem dX4_abortByHand_16 : decode cX4_abortByHand 16 = .ok (.aload_n 0, 1) := by decide +kernel
theorem dX4_abortByHand_17 : decode cX4_abortByHand 17 = .ok (.getfield 114, 3) := by decide +kernel
theorem dX4_abortByHand_20 : decode cX4_abortByHand 20 = .ok (.ireturn, 1) := by decide +kernel
theorem dX4_beginAbort_0 : decode cX4_beginAbort 0 = .ok (.aload_n 0, 1) := by decide +kernel
theorem dX4_beginAbort_1 : decode cX4_beginAbort 1 = .ok (.iconst 3, 1) := by decide +kernel
theorem dX4_beginAbort_2 : decode cX4_beginAbort 2 = .ok (.putfield 44, 3) := by decide +kernel
theorem dX4_beginAbort_5 : decode cX4_beginAbort 5 = .ok (.aload_n 0, 1) := by decide +kernel
theorem dX4_beginAbort_6 : decode cX4_beginAbort 6 = .ok (.iload_n 1, 1) := by decide +kernel
theorem dX4_beginAbort_7 : decode cX4_beginAbort 7 = .ok (.putfield 96, 3) := by decide +kernel
theorem dX4_beginAbort_10 : decode cX4_beginAbort 10 = .ok (.aload_n 0, 1) := by decide +kernel
theorem dX4_beginAbort_11 : decode cX4_beginAbort 11 = .ok (.aload_n 0, 1) := by decide +kernel
theorem dX4_beginAbort_12 : decode cX4_beginAbort 12 = .ok (.getfield 114, 3) := by decide +kernel
theorem dX4_beginAbort_15 : decode cX4_beginAbort 15 = .ok (.putfield 99, 3) := by decide +kernel
theorem dX4_beginAbort_18 : decode cX4_beginAbort 18 = .ok (.return_, 1) := by decide +kernel
theorem dX4_doLoops_0 : decode cX4_doLoops 0 = .ok (.iload_n 1, 1) := by decide +kernel
theorem dX4_doLoops_1 : decode cX4_doLoops 1 = .ok (.iconst 1, 1) := by decide +kernel
theorem dX4_doLoops_2 : decode cX4_doLoops 2 = .ok (.bipush 50, 2) := by decide +kernel
theorem dX4_doLoops_4 : decode cX4_doLoops 4 = .ok (.invokestatic 68, 3) := by decide +kernel
theorem dX4_doLoops_7 : decode cX4_doLoops 7 = .ok (.ifCond .ne 6, 3) := by decide +kernel
theorem dX4_doLoops_10 : decode cX4_doLoops 10 = .ok (.bipush (-2), 2) := by decide +kernel
theorem dX4_doLoops_12 : decode cX4_doLoops 12 = .ok (.ireturn, 1) := by decide +kernel
theorem dX4_doLoops_13 : decode cX4_doLoops 13 = .ok (.aload_n 0, 1) := by decide +kernel
theorem dX4_doLoops_14 : decode cX4_doLoops 14 = .ok (.invokevirtual 103, 3) := by decide +kernel
theorem dX4_doLoops_17 : decode cX4_doLoops 17 = .ok (.ifCond .eq 6, 3) := by decide +kernel
theorem dX4_doLoops_20 : decode cX4_doLoops 20 = .ok (.bipush (-3), 2) := by decide +kernel
theorem dX4_doLoops_22 : decode cX4_doLoops 22 = .ok (.ireturn, 1) := by decide +kernel
theorem dX4_doLoops_23 : decode cX4_doLoops 23 = .ok (.iconst 0, 1) := by decide +kernel
theorem dX4_doLoops_24 : decode cX4_doLoops 24 = .ok (.istore_n 2, 1) := by decide +kernel
theorem dX4_doLoops_25 : decode cX4_doLoops 25 = .ok (.iload_n 2, 1) := by decide +kernel
theorem dX4_doLoops_26 : decode cX4_doLoops 26 = .ok (.iload_n 1, 1) := by decide +kernel
theorem dX4_doLoops_27 : decode cX4_doLoops 27 = .ok (.if_icmp .ge 20, 3) := by decide +kernel
theorem dX4_doLoops_30 : decode cX4_doLoops 30 = .ok (.aload_n 0, 1) := by decide +kernel
theorem dX4_doLoops_31 : decode cX4_doLoops 31 = .ok (.invokevirtual 103, 3) := by decide +kernel
theorem dX4_doLoops_34 : decode cX4_doLoops 34 = .ok (.ifCond .ne 13, 3) := by decide +kernel
theorem dX4_doLoops_37 : decode cX4_doLoops 37 = .ok (.aload_n 0, 1) := by decide +kernel
theorem dX4_doLoops_38 : decode cX4_doLoops 38 = .ok (.invokevirtual 152, 3) := by decide +kernel
theorem dX4_doLoops_41 : decode cX4_doLoops 41 = .ok (.iinc 2 1, 3) := by decide +kernel
theorem dX4_doLoops_44 : decode cX4_doLoops 44 = .ok (.goto (-19), 3) := by decide +kernel
theorem dX4_doLoops_47 : decode cX4_doLoops 47 = .ok (.iload_n 2, 1) := by decide +kernel
theorem dX4_doLoops_48 : decode cX4_doLoops 48 = .ok (.ireturn, 1) := by decide +kernel
theorem dX4_doLoop_0 : decode cX4_doLoop 0 = .ok (.aload_n 0, 1) := by decide +kernel
theorem dX4_doLoop_1 : decode cX4_doLoop 1 = .ok (.dup, 1) := by decide +kernel
theorem dX4_doLoop_2 : decode cX4_doLoop 2 = .ok (.getfield 93, 3) := by decide +kernel
theorem dX4_doLoop_5 : decode cX4_doLoop 5 = .ok (.iconst 1, 1) := by decide +kernel
theorem dX4_doLoop_6 : decode cX4_doLoop 6 = .ok (.iadd, 1) := by decide +kernel
theorem dX4_doLoop_7 : decode cX4_doLoop 7 = .ok (.putfield 93, 3) := by decide +kernel
theorem dX4_doLoop_10 : decode cX4_doLoop 10 = .ok (.aload_n 0, 1) := by decide +kernel
theorem dX4_doLoop_11 : decode cX4_doLoop 11 = .ok (.getfield 44, 3) := by decide +kernel
theorem dX4_doLoop_14 : decode cX4_doLoop 14 = .ok (.iconst 3, 1) := by decide +kernel
theorem dX4_doLoop_15 : decode cX4_doLoop 15 = .ok (.if_icmp .ne 8, 3) := by decide +kernel
theorem dX4_doLoop_18 : decode cX4_doLoop 18 = .ok (.aload_n 0, 1) := by decide +kernel
theorem dX4_doLoop_19 : decode cX4_doLoop 19 = .ok (.invokevirtual 155, 3) := by decide +kernel
theorem dX4_doLoop_22 : decode cX4_doLoop 22 = .ok (.return_, 1) := by decide +kernel
theorem dX4_doLoop_23 : decode cX4_doLoop 23 = .ok (.aload_n 0, 1) := by decide +kernel
theorem dX4_doLoop_24 : decode cX4_doLoop 24 = .ok (.getfield 12, 3) := by decide +kernel
theorem dX4_doLoop_27 : decode cX4_doLoop 27 = .ok (.getfield 158, 3) := by decide +kernel
theorem dX4_doLoop_30 : decode cX4_doLoop 30 = .ok (.aload_n 0, 1) := by decide +kernel
theorem dX4_doLoop_31 : decode cX4_doLoop 31 = .ok (.getfield 114, 3) := by decide +kernel
theorem dX4_doLoop_34 : decode cX4_doLoop 34 = .ok (.iaload, 1) := by decide +kernel
theorem dX4_doLoop_35 : decode cX4_doLoop 35 = .ok (.istore_n 1, 1) := by decide +kernel
theorem dX4_doLoop_36 : decode cX4_doLoop 36 = .ok (.aload_n 0, 1) := by decide +kernel
theorem dX4_doLoop_37 : decode cX4_doLoop 37 = .ok (.iload_n 1, 1) := by decide +kernel
theorem dX4_doLoop_38 : decode cX4_doLoop 38 = .ok (.invokevirtual 161, 3) := by decide +kernel
theorem dX4_doLoop_41 : decode cX4_doLoop 41 = .ok (.istore_n 2, 1) := by decide +kernel
theorem dX4_doLoop_42 : decode cX4_doLoop 42 = .ok (.aload_n 0, 1) := by decide +kernel
theorem dX4_doLoop_43 : decode cX4_doLoop 43 = .ok (.iload_n 1, 1) := by decide +kernel
theorem dX4_doLoop_44 : decode cX4_doLoop 44 = .ok (.invokevirtual 165, 3) := by decide +kernel
theorem dX4_doLoop_47 : decode cX4_doLoop 47 = .ok (.istore_n 3, 1) := by decide +kernel
theorem dX4_doLoop_48 : decode cX4_doLoop 48 = .ok (.iload_n 3, 1) := by decide +kernel
theorem dX4_doLoop_49 : decode cX4_doLoop 49 = .ok (.bipush (-6), 2) := by decide +kernel
theorem dX4_doLoop_51 : decode cX4_doLoop 51 = .ok (.if_icmp .eq 9, 3) := by decide +kernel
theorem dX4_doLoop_54 : decode cX4_doLoop 54 = .ok (.aload_n 0, 1) := by decide +kernel
theorem dX4_doLoop_55 : decode cX4_doLoop 55 = .ok (.iload_n 3, 1) := by decide +kernel
theorem dX4_doLoop_56 : decode cX4_doLoop 56 = .ok (.invokevirtual 148, 3) := by decide +kernel
theorem dX4_doLoop_59 : decode cX4_doLoop 59 = .ok (.return_, 1) := by decide +kernel
theorem dX4_doLoop_60 : decode cX4_doLoop 60 = .ok (.aload_n 0, 1) := by decide +kernel
theorem dX4_doLoop_61 : decode cX4_doLoop 61 = .ok (.getfield 44, 3) := by decide +kernel
theorem dX4_doLoop_64 : decode cX4_doLoop 64 = .ok (.iconst 2, 1) := by decide +kernel
theorem dX4_doLoop_65 : decode cX4_doLoop 65 = .ok (.if_icmp .ne 10, 3) := by decide +kernel
theorem dX4_doLoop_68 : decode cX4_doLoop 68 = .ok (.aload_n 0, 1) := by decide +kernel
theorem dX4_doLoop_69 : decode cX4_doLoop 69 = .ok (.getfield 114, 3) := by decide +kernel
theorem dX4_doLoop_72 : decode cX4_doLoop 72 = .ok (.goto 7, 3) := by decide +kernel
theorem dX4_doLoop_75 : decode cX4_doLoop 75 = .ok (.aload_n 0, 1) := by decide +kernel
theorem dX4_doLoop_76 : decode cX4_doLoop 76 = .ok (.invokevirtual 168, 3) := by decide +kernel
theorem dX4_doLoop_79 : decode cX4_doLoop 79 = .ok (.istore 4, 2) := by decide +kernel
theorem dX4_doLoop_81 : decode cX4_doLoop 81 = .ok (.iload 4, 2) := by decide +kernel
theorem dX4_doLoop_83 : decode cX4_doLoop 83 = .ok (.bipush (-6), 2) := by decide +kernel
theorem dX4_doLoop_85 : decode cX4_doLoop 85 = .ok (.if_icmp .ne 14, 3) := by decide +kernel
theorem dX4_doLoop_88 : decode cX4_doLoop 88 = .ok (.aload_n 0, 1) := by decide +kernel
theorem dX4_doLoop_89 : decode cX4_doLoop 89 = .ok (.iconst 5, 1) := by decide +kernel
theorem dX4_doLoop_90 : decode cX4_doLoop 90 = .ok (.putfield 44, 3) := by decide +kernel
theorem dX4_doLoop_93 : decode cX4_doLoop 93 = .ok (.aload_n 0, 1) := by decide +kernel
theorem dX4_doLoop_94 : decode cX4_doLoop 94 = .ok (.iconst 0, 1) := by decide +kernel
theorem dX4_doLoop_95 : decode cX4_doLoop 95 = .ok (.putfield 141, 3) := by decide +kernel
theorem dX4_doLoop_98 : decode cX4_doLoop 98 = .ok (.return_, 1) := by decide +kernel
theorem dX4_doLoop_99 : decode cX4_doLoop 99 = .ok (.aload_n 0, 1) := by decide +kernel
theorem dX4_doLoop_100 : decode cX4_doLoop 100 = .ok (.iload 4, 2) := by decide +kernel
theorem dX4_doLoop_102 : decode cX4_doLoop 102 = .ok (.iload_n 2, 1) := by decide +kernel
theorem dX4_doLoop_103 : decode cX4_doLoop 103 = .ok (.invokevirtual 171, 3) := by decide +kernel
theorem dX4_doLoop_106 : decode cX4_doLoop 106 = .ok (.return_, 1) := by decide +kernel
theorem dX4_rampDown_0 : decode cX4_rampDown 0 = .ok (.aload_n 0, 1) := by decide +kernel
theorem dX4_rampDown_1 : decode cX4_rampDown 1 = .ok (.aload_n 0, 1) := by decide +kernel
theorem dX4_rampDown_2 : decode cX4_rampDown 2 = .ok (.getfield 141, 3) := by decide +kernel
theorem dX4_rampDown_5 : decode cX4_rampDown 5 = .ok (.aload_n 0, 1) := by decide +kernel
theorem dX4_rampDown_6 : decode cX4_rampDown 6 = .ok (.getfield 31, 3) := by decide +kernel
theorem dX4_rampDown_9 : decode cX4_rampDown 9 = .ok (.iconst 4, 1) := by decide +kernel
theorem dX4_rampDown_10 : decode cX4_rampDown 10 = .ok (.iaload, 1) := by decide +kernel
theorem dX4_rampDown_11 : decode cX4_rampDown 11 = .ok (.imul, 1) := by decide +kernel
theorem dX4_rampDown_12 : decode cX4_rampDown 12 = .ok (.bipush 100, 2) := by decide +kernel
theorem dX4_rampDown_14 : decode cX4_rampDown 14 = .ok (.idiv, 1) := by decide +kernel
theorem dX4_rampDown_15 : decode cX4_rampDown 15 = .ok (.putfield 141, 3) := by decide +kernel
theorem dX4_rampDown_18 : decode cX4_rampDown 18 = .ok (.aload_n 0, 1) := by decide +kernel
theorem dX4_rampDown_19 : decode cX4_rampDown 19 = .ok (.getfield 141, 3) := by decide +kernel
theorem dX4_rampDown_22 : decode cX4_rampDown 22 = .ok (.ifCond .ne 8, 3) := by decide +kernel
theorem dX4_rampDown_25 : decode cX4_rampDown 25 = .ok (.aload_n 0, 1) := by decide +kernel
theorem dX4_rampDown_26 : decode cX4_rampDown 26 = .ok (.iconst 4, 1) := by decide +kernel
theorem dX4_rampDown_27 : decode cX4_rampDown 27 = .ok (.putfield 44, 3) := by decide +kernel
theorem dX4_rampDown_30 : decode cX4_rampDown 30 = .ok (.return_, 1) := by decide +kernel
theorem dX4_measureLevels_0 : decode cX4_measureLevels 0 = .ok (.aload_n 0, 1) := by decide +kernel
theorem dX4_measureLevels_1 : decode cX4_measureLevels 1 = .ok (.getfield 31, 3) := by decide +kernel
theorem dX4_measureLevels_4 : decode cX4_measureLevels 4 = .ok (.iconst 1, 1) := by decide +kernel
theorem dX4_measureLevels_5 : decode cX4_measureLevels 5 = .ok (.iaload, 1) := by decide +kernel
theorem dX4_measureLevels_6 : decode cX4_measureLevels 6 = .ok (.istore_n 2, 1) := by decide +kernel
theorem dX4_measureLevels_7 : decode cX4_measureLevels 7 = .ok (.iconst 0, 1) := by decide +kernel
theorem dX4_measureLevels_8 : decode cX4_measureLevels 8 = .ok (.istore_n 3, 1) := by decide +kernel
theorem dX4_measureLevels_9 : decode cX4_measureLevels 9 = .ok (.iload_n 3, 1) := by decide +kernel
theorem dX4_measureLevels_10 : decode cX4_measureLevels 10 = .ok (.aload_n 0, 1) := by decide +kernel
theorem dX4_measureLevels_11 : decode cX4_measureLevels 11 = .ok (.getfield 72, 3) := by decide +kernel
theorem dX4_measureLevels_14 : decode cX4_measureLevels 14 = .ok (.if_icmp .ge 28, 3) := by decide +kernel
theorem dX4_measureLevels_17 : decode cX4_measureLevels 17 = .ok (.aload_n 0, 1) := by decide +kernel
theorem dX4_measureLevels_18 : decode cX4_measureLevels 18 = .ok (.getfield 27, 3) := by decide +kernel
theorem dX4_measureLevels_21 : decode cX4_measureLevels 21 = .ok (.iload_n 3, 1) := by decide +kernel
theorem dX4_measureLevels_22 : decode cX4_measureLevels 22 = .ok (.aaload, 1) := by decide +kernel
theorem dX4_measureLevels_23 : decode cX4_measureLevels 23 = .ok (.aload_n 0, 1) := by decide +kernel
theorem dX4_measureLevels_24 : decode cX4_measureLevels 24 = .ok (.getfield 114, 3) := by decide +kernel
theorem dX4_measureLevels_27 : decode cX4_measureLevels 27 = .ok (.iload_n 1, 1) := by decide +kernel
theorem dX4_measureLevels_28 : decode cX4_measureLevels 28 = .ok (.aload_n 0, 1) := by decide +kernel
theorem dX4_measureLevels_29 : decode cX4_measureLevels 29 = .ok (.getfield 141, 3) := by decide +kernel
theorem dX4_measureLevels_32 : decode cX4_measureLevels 32 = .ok (.iload_n 2, 1) := by decide +kernel
theorem dX4_measureLevels_33 : decode cX4_measureLevels 33 = .ok (.invokevirtual 175, 3) := by decide +kernel
theorem dX4_measureLevels_36 : decode cX4_measureLevels 36 = .ok (.iinc 3 1, 3) := by decide +kernel
theorem dX4_measureLevels_39 : decode cX4_measureLevels 39 = .ok (.goto (-30), 3) := by decide +kernel
theorem dX4_measureLevels_42 : decode cX4_measureLevels 42 = .ok (.aload_n 0, 1) := by decide +kernel
theorem dX4_measureLevels_43 : decode cX4_measureLevels 43 = .ok (.invokevirtual 179, 3) := by decide +kernel
theorem dX4_measureLevels_46 : decode cX4_measureLevels 46 = .ok (.istore_n 3, 1) := by decide +kernel
theorem dX4_measureLevels_47 : decode cX4_measureLevels 47 = .ok (.iload_n 3, 1) := by decide +kernel
theorem dX4_measureLevels_48 : decode cX4_measureLevels 48 = .ok (.aload_n 0, 1) := by decide +kernel
theorem dX4_measureLevels_49 : decode cX4_measureLevels 49 = .ok (.getfield 141, 3) := by decide +kernel
theorem dX4_measureLevels_52 : decode cX4_measureLevels 52 = .ok (.invokestatic 182, 3) := by decide +kernel
theorem dX4_measureLevels_55 : decode cX4_measureLevels 55 = .ok (.istore 4, 2) := by decide +kernel
theorem dX4_measureLevels_57 : decode cX4_measureLevels 57 = .ok (.aload_n 0, 1) := by decide +kernel
theorem dX4_measureLevels_58 : decode cX4_measureLevels 58 = .ok (.getfield 35, 3) := by decide +kernel
theorem dX4_measureLevels_61 : decode cX4_measureLevels 61 = .ok (.aload_n 0, 1) := by decide +kernel
theorem dX4_measureLevels_62 : decode cX4_measureLevels 62 = .ok (.getfield 114, 3) := by decide +kernel
theorem dX4_measureLevels_65 : decode cX4_measureLevels 65 = .ok (.aload_n 0, 1) := by decide +kernel
theorem dX4_measureLevels_66 : decode cX4_measureLevels 66 = .ok (.getfield 35, 3) := by decide +kernel
theorem dX4_measureLevels_69 : decode cX4_measureLevels 69 = .ok (.aload_n 0, 1) := by decide +kernel
theorem dX4_measureLevels_70 : decode cX4_measureLevels 70 = .ok (.getfield 114, 3) := by decide +kernel
theorem dX4_measureLevels_73 : decode cX4_measureLevels 73 = .ok (.iaload, 1) := by decide +kernel
theorem dX4_measureLevels_74 : decode cX4_measureLevels 74 = .ok (.iload 4, 2) := by decide +kernel
theorem dX4_measureLevels_76 : decode cX4_measureLevels 76 = .ok (.iload_n 2, 1) := by decide +kernel
theorem dX4_measureLevels_77 : decode cX4_measureLevels 77 = .ok (.invokestatic 185, 3) := by decide +kernel
theorem dX4_measureLevels_80 : decode cX4_measureLevels 80 = .ok (.iastore, 1) := by decide +kernel
theorem dX4_measureLevels_81 : decode cX4_measureLevels 81 = .ok (.iload_n 3, 1) := by decide +kernel
theorem dX4_measureLevels_82 : decode cX4_measureLevels 82 = .ok (.ireturn, 1) := by decide +kernel
theorem dX4_controlLevel_0 : decode cX4_controlLevel 0 = .ok (.iconst 0, 1) := by decide +kernel
theorem dX4_controlLevel_1 : decode cX4_controlLevel 1 = .ok (.istore_n 1, 1) := by decide +kernel
theorem dX4_controlLevel_2 : decode cX4_controlLevel 2 = .ok (.iconst 0, 1) := by decide +kernel
theorem dX4_controlLevel_3 : decode cX4_controlLevel 3 = .ok (.istore_n 2, 1) := by decide +kernel
theorem dX4_controlLevel_4 : decode cX4_controlLevel 4 = .ok (.iconst 0, 1) := by decide +kernel
theorem dX4_controlLevel_5 : decode cX4_controlLevel 5 = .ok (.istore_n 3, 1) := by decide +kernel
theorem dX4_controlLevel_6 : decode cX4_controlLevel 6 = .ok (.ldc 190, 2) := by decide +kernel
theorem dX4_controlLevel_8 : decode cX4_controlLevel 8 = .ok (.istore 4, 2) := by decide +kernel
theorem dX4_controlLevel_10 : decode cX4_controlLevel 10 = .ok (.iconst 0, 1) := by decide +kernel
theorem dX4_controlLevel_11 : decode cX4_controlLevel 11 = .ok (.istore 5, 2) := by decide +kernel
theorem dX4_controlLevel_13 : decode cX4_controlLevel 13 = .ok (.iload 5, 2) := by decide +kernel
theorem dX4_controlLevel_15 : decode cX4_controlLevel 15 = .ok (.aload_n 0, 1) := by decide +kernel
theorem dX4_controlLevel_16 : decode cX4_controlLevel 16 = .ok (.getfield 72, 3) := by decide +kernel
theorem dX4_controlLevel_19 : decode cX4_controlLevel 19 = .ok (.if_icmp .ge 58, 3) := by decide +kernel
theorem dX4_controlLevel_22 : decode cX4_controlLevel 22 = .ok (.aload_n 0, 1) := by decide +kernel
theorem dX4_controlLevel_23 : decode cX4_controlLevel 23 = .ok (.getfield 27, 3) := by decide +kernel
theorem dX4_controlLevel_26 : decode cX4_controlLevel 26 = .ok (.iload 5, 2) := by decide +kernel
theorem dX4_controlLevel_28 : decode cX4_controlLevel 28 = .ok (.aaload, 1) := by decide +kernel
theorem dX4_controlLevel_29 : decode cX4_controlLevel 29 = .ok (.getfield 145, 3) := by decide +kernel
theorem dX4_controlLevel_32 : decode cX4_controlLevel 32 = .ok (.ifCond .eq 39, 3) := by decide +kernel
theorem dX4_controlLevel_35 : decode cX4_controlLevel 35 = .ok (.aload_n 0, 1) := by decide +kernel
theorem dX4_controlLevel_36 : decode cX4_controlLevel 36 = .ok (.getfield 27, 3) := by decide +kernel
theorem dX4_controlLevel_39 : decode cX4_controlLevel 39 = .ok (.iload 5, 2) := by decide +kernel
theorem dX4_controlLevel_41 : decode cX4_controlLevel 41 = .ok (.aaload, 1) := by decide +kernel
theorem dX4_controlLevel_42 : decode cX4_controlLevel 42 = .ok (.getfield 191, 3) := by decide +kernel
theorem dX4_controlLevel_45 : decode cX4_controlLevel 45 = .ok (.istore 6, 2) := by decide +kernel
theorem dX4_controlLevel_47 : decode cX4_controlLevel 47 = .ok (.iinc 1 1, 3) := by decide +kernel
theorem dX4_controlLevel_50 : decode cX4_controlLevel 50 = .ok (.iload_n 2, 1) := by decide +kernel
theorem dX4_controlLevel_51 : decode cX4_controlLevel 51 = .ok (.iload 6, 2) := by decide +kernel
theorem dX4_controlLevel_53 : decode cX4_controlLevel 53 = .ok (.iadd, 1) := by decide +kernel
theorem dX4_controlLevel_54 : decode cX4_controlLevel 54 = .ok (.istore_n 2, 1) := by decide +kernel
theorem dX4_controlLevel_55 : decode cX4_controlLevel 55 = .ok (.iload_n 3, 1) := by decide +kernel
theorem dX4_controlLevel_56 : decode cX4_controlLevel 56 = .ok (.iload 6, 2) := by decide +kernel
theorem dX4_controlLevel_58 : decode cX4_controlLevel 58 = .ok (.invokestatic 194, 3) := by decide +kernel
theorem dX4_controlLevel_61 : decode cX4_controlLevel 61 = .ok (.istore_n 3, 1) := by decide +kernel
theorem dX4_controlLevel_62 : decode cX4_controlLevel 62 = .ok (.iload 4, 2) := by decide +kernel
theorem dX4_controlLevel_64 : decode cX4_controlLevel 64 = .ok (.iload 6, 2) := by decide +kernel
theorem dX4_controlLevel_66 : decode cX4_controlLevel 66 = .ok (.invokestatic 199, 3) := by decide +kernel
theorem dX4_controlLevel_69 : decode cX4_controlLevel 69 = .ok (.istore 4, 2) := by decide +kernel
theorem dX4_controlLevel_71 : decode cX4_controlLevel 71 = .ok (.iinc 5 1, 3) := by decide +kernel
theorem dX4_controlLevel_74 : decode cX4_controlLevel 74 = .ok (.goto (-61), 3) := by decide +kernel
theorem dX4_controlLevel_77 : decode cX4_controlLevel 77 = .ok (.aload_n 0, 1) := by decide +kernel
theorem dX4_controlLevel_78 : decode cX4_controlLevel 78 = .ok (.getfield 31, 3) := by decide +kernel
theorem dX4_controlLevel_81 : decode cX4_controlLevel 81 = .ok (.iconst 0, 1) := by decide +kernel
theorem dX4_controlLevel_82 : decode cX4_controlLevel 82 = .ok (.iaload, 1) := by decide +kernel
theorem dX4_controlLevel_83 : decode cX4_controlLevel 83 = .ok (.iconst 1, 1) := by decide +kernel
theorem dX4_controlLevel_84 : decode cX4_controlLevel 84 = .ok (.if_icmp .ne 5, 3) := by decide +kernel
theorem dX4_controlLevel_87 : decode cX4_controlLevel 87 = .ok (.iload_n 3, 1) := by decide +kernel
theorem dX4_controlLevel_88 : decode cX4_controlLevel 88 = .ok (.ireturn, 1) := by decide +kernel
theorem dX4_controlLevel_89 : decode cX4_controlLevel 89 = .ok (.aload_n 0, 1) := by decide +kernel
theorem dX4_controlLevel_90 : decode cX4_controlLevel 90 = .ok (.getfield 31, 3) := by decide +kernel
theorem dX4_controlLevel_93 : decode cX4_controlLevel 93 = .ok (.iconst 0, 1) := by decide +kernel
theorem dX4_controlLevel_94 : decode cX4_controlLevel 94 = .ok (.iaload, 1) := by decide +kernel
theorem dX4_controlLevel_95 : decode cX4_controlLevel 95 = .ok (.iconst 2, 1) := by decide +kernel
theorem dX4_controlLevel_96 : decode cX4_controlLevel 96 = .ok (.if_icmp .ne 6, 3) := by decide +kernel
theorem dX4_controlLevel_99 : decode cX4_controlLevel 99 = .ok (.iload 4, 2) := by decide +kernel
theorem dX4_controlLevel_101 : decode cX4_controlLevel 101 = .ok (.ireturn, 1) := by decide +kernel
theorem dX4_controlLevel_102 : decode cX4_controlLevel 102 = .ok (.iload_n 1, 1) := by decide +kernel
theorem dX4_controlLevel_103 : decode cX4_controlLevel 103 = .ok (.ifCond .le 9, 3) := by decide +kernel
theorem dX4_controlLevel_106 : decode cX4_controlLevel 106 = .ok (.iload_n 2, 1) := by decide +kernel
theorem dX4_controlLevel_107 : decode cX4_controlLevel 107 = .ok (.iload_n 1, 1) := by decide +kernel
theorem dX4_controlLevel_108 : decode cX4_controlLevel 108 = .ok (.idiv, 1) := by decide +kernel
theorem dX4_controlLevel_109 : decode cX4_controlLevel 109 = .ok (.goto 4, 3) := by decide +kernel
theorem dX4_controlLevel_112 : decode cX4_controlLevel 112 = .ok (.iconst 0, 1) := by decide +kernel
theorem dX4_controlLevel_113 : decode cX4_controlLevel 113 = .ok (.ireturn, 1) := by decide +kernel
theorem dX4_countLoop_0 : decode cX4_countLoop 0 = .ok (.bipush (-6), 2) := by decide +kernel
theorem dX4_countLoop_2 : decode cX4_countLoop 2 = .ok (.istore_n 2, 1) := by decide +kernel
theorem dX4_countLoop_3 : decode cX4_countLoop 3 = .ok (.iconst 0, 1) := by decide +kernel
theorem dX4_countLoop_4 : decode cX4_countLoop 4 = .ok (.istore_n 3, 1) := by decide +kernel
theorem dX4_countLoop_5 : decode cX4_countLoop 5 = .ok (.iload_n 3, 1) := by decide +kernel
theorem dX4_countLoop_6 : decode cX4_countLoop 6 = .ok (.aload_n 0, 1) := by decide +kernel
theorem dX4_countLoop_7 : decode cX4_countLoop 7 = .ok (.getfield 72, 3) := by decide +kernel
theorem dX4_countLoop_10 : decode cX4_countLoop 10 = .ok (.if_icmp .ge 57, 3) := by decide +kernel
theorem dX4_countLoop_13 : decode cX4_countLoop 13 = .ok (.aload_n 0, 1) := by decide +kernel
theorem dX4_countLoop_14 : decode cX4_countLoop 14 = .ok (.getfield 27, 3) := by decide +kernel
theorem dX4_countLoop_17 : decode cX4_countLoop 17 = .ok (.iload_n 3, 1) := by decide +kernel
theorem dX4_countLoop_18 : decode cX4_countLoop 18 = .ok (.aaload, 1) := by decide +kernel
theorem dX4_countLoop_19 : decode cX4_countLoop 19 = .ok (.iload_n 1, 1) := by decide +kernel
theorem dX4_countLoop_20 : decode cX4_countLoop 20 = .ok (.invokevirtual 202, 3) := by decide +kernel
theorem dX4_countLoop_23 : decode cX4_countLoop 23 = .ok (.aload_n 0, 1) := by decide +kernel
theorem dX4_countLoop_24 : decode cX4_countLoop 24 = .ok (.getfield 27, 3) := by decide +kernel
theorem dX4_countLoop_27 : decode cX4_countLoop 27 = .ok (.iload_n 3, 1) := by decide +kernel
theorem dX4_countLoop_28 : decode cX4_countLoop 28 = .ok (.aaload, 1) := by decide +kernel
theorem dX4_countLoop_29 : decode cX4_countLoop 29 = .ok (.getfield 204, 3) := by decide +kernel
theorem dX4_countLoop_32 : decode cX4_countLoop 32 = .ok (.aload_n 0, 1) := by decide +kernel
theorem dX4_countLoop_33 : decode cX4_countLoop 33 = .ok (.getfield 31, 3) := by decide +kernel
theorem dX4_countLoop_36 : decode cX4_countLoop 36 = .ok (.iconst 2, 1) := by decide +kernel
theorem dX4_countLoop_37 : decode cX4_countLoop 37 = .ok (.iaload, 1) := by decide +kernel
theorem dX4_countLoop_38 : decode cX4_countLoop 38 = .ok (.if_icmp .lt 7, 3) := by decide +kernel
theorem dX4_countLoop_41 : decode cX4_countLoop 41 = .ok (.iconst 1, 1) := by decide +kernel
theorem dX4_countLoop_42 : decode cX4_countLoop 42 = .ok (.goto 4, 3) := by decide +kernel
theorem dX4_countLoop_45 : decode cX4_countLoop 45 = .ok (.iconst 0, 1) := by decide +kernel
theorem dX4_countLoop_46 : decode cX4_countLoop 46 = .ok (.istore 4, 2) := by decide +kernel
theorem dX4_countLoop_48 : decode cX4_countLoop 48 = .ok (.iload 4, 2) := by decide +kernel
theorem dX4_countLoop_50 : decode cX4_countLoop 50 = .ok (.ifCond .eq 11, 3) := by decide +kernel
theorem dX4_countLoop_53 : decode cX4_countLoop 53 = .ok (.iload_n 2, 1) := by decide +kernel
theorem dX4_countLoop_54 : decode cX4_countLoop 54 = .ok (.bipush (-6), 2) := by decide +kernel
theorem dX4_countLoop_56 : decode cX4_countLoop 56 = .ok (.if_icmp .ne 5, 3) := by decide +kernel
theorem dX4_countLoop_59 : decode cX4_countLoop 59 = .ok (.iload_n 3, 1) := by decide +kernel
theorem dX4_countLoop_60 : decode cX4_countLoop 60 = .ok (.istore_n 2, 1) := by decide +kernel
theorem dX4_countLoop_61 : decode cX4_countLoop 61 = .ok (.iinc 3 1, 3) := by decide +kernel
theorem dX4_countLoop_64 : decode cX4_countLoop 64 = .ok (.goto (-59), 3) := by decide +kernel
theorem dX4_countLoop_67 : decode cX4_countLoop 67 = .ok (.iload_n 2, 1) := by decide +kernel
theorem dX4_countLoop_68 : decode cX4_countLoop 68 = .ok (.ireturn, 1) := by decide +kernel
theorem dX4_nextLine_0 : decode cX4_nextLine 0 = .ok (.aload_n 0, 1) := by decide +kernel
theorem dX4_nextLine_1 : decode cX4_nextLine 1 = .ok (.invokevirtual 207, 3) := by decide +kernel
theorem dX4_nextLine_4 : decode cX4_nextLine 4 = .ok (.istore_n 1, 1) := by decide +kernel
theorem dX4_nextLine_5 : decode cX4_nextLine 5 = .ok (.aload_n 0, 1) := by decide +kernel
theorem dX4_nextLine_6 : decode cX4_nextLine 6 = .ok (.iload_n 1, 1) := by decide +kernel
theorem dX4_nextLine_7 : decode cX4_nextLine 7 = .ok (.invokevirtual 210, 3) := by decide +kernel
theorem dX4_nextLine_10 : decode cX4_nextLine 10 = .ok (.ifCond .eq 5, 3) := by decide +kernel
theorem dX4_nextLine_13 : decode cX4_nextLine 13 = .ok (.iload_n 1, 1) := by decide +kernel
theorem dX4_nextLine_14 : decode cX4_nextLine 14 = .ok (.ireturn, 1) := by decide +kernel
theorem dX4_nextLine_15 : decode cX4_nextLine 15 = .ok (.aload_n 0, 1) := by decide +kernel
theorem dX4_nextLine_16 : decode cX4_nextLine 16 = .ok (.dup, 1) := by decide +kernel
theorem dX4_nextLine_17 : decode cX4_nextLine 17 = .ok (.getfield 90, 3) := by decide +kernel
theorem dX4_nextLine_20 : decode cX4_nextLine 20 = .ok (.iconst 1, 1) := by decide +kernel
theorem dX4_nextLine_21 : decode cX4_nextLine 21 = .ok (.iadd, 1) := by decide +kernel
theorem dX4_nextLine_22 : decode cX4_nextLine 22 = .ok (.putfield 90, 3) := by decide +kernel
theorem dX4_nextLine_25 : decode cX4_nextLine 25 = .ok (.aload_n 0, 1) := by decide +kernel
theorem dX4_nextLine_26 : decode cX4_nextLine 26 = .ok (.getfield 90, 3) := by decide +kernel
theorem dX4_nextLine_29 : decode cX4_nextLine 29 = .ok (.aload_n 0, 1) := by decide +kernel
theorem dX4_nextLine_30 : decode cX4_nextLine 30 = .ok (.getfield 31, 3) := by decide +kernel
theorem dX4_nextLine_33 : decode cX4_nextLine 33 = .ok (.iconst 5, 1) := by decide +kernel
theorem dX4_nextLine_34 : decode cX4_nextLine 34 = .ok (.iaload, 1) := by decide +kernel
theorem dX4_nextLine_35 : decode cX4_nextLine 35 = .ok (.if_icmp .lt 6, 3) := by decide +kernel
theorem dX4_nextLine_38 : decode cX4_nextLine 38 = .ok (.bipush (-6), 2) := by decide +kernel
theorem dX4_nextLine_40 : decode cX4_nextLine 40 = .ok (.ireturn, 1) := by decide +kernel
theorem dX4_nextLine_41 : decode cX4_nextLine 41 = .ok (.aload_n 0, 1) := by decide +kernel
theorem dX4_nextLine_42 : decode cX4_nextLine 42 = .ok (.aload_n 0, 1) := by decide +kernel
theorem dX4_nextLine_43 : decode cX4_nextLine 43 = .ok (.getfield 86, 3) := by decide +kernel
theorem dX4_nextLine_46 : decode cX4_nextLine 46 = .ok (.ifCond .ne 7, 3) := by decide +kernel
theorem dX4_nextLine_49 : decode cX4_nextLine 49 = .ok (.iconst 1, 1) := by decide +kernel
theorem dX4_nextLine_50 : decode cX4_nextLine 50 = .ok (.goto 4, 3) := by decide +kernel
theorem dX4_nextLine_53 : decode cX4_nextLine 53 = .ok (.iconst 0, 1) := by decide +kernel
theorem dX4_nextLine_54 : decode cX4_nextLine 54 = .ok (.putfield 86, 3) := by decide +kernel
theorem dX4_nextLine_57 : decode cX4_nextLine 57 = .ok (.aload_n 0, 1) := by decide +kernel
theorem dX4_nextLine_58 : decode cX4_nextLine 58 = .ok (.invokevirtual 207, 3) := by decide +kernel
theorem dX4_nextLine_61 : decode cX4_nextLine 61 = .ok (.istore_n 2, 1) := by decide +kernel
theorem dX4_nextLine_62 : decode cX4_nextLine 62 = .ok (.aload_n 0, 1) := by decide +kernel
theorem dX4_nextLine_63 : decode cX4_nextLine 63 = .ok (.iload_n 2, 1) := by decide +kernel
theorem dX4_nextLine_64 : decode cX4_nextLine 64 = .ok (.invokevirtual 210, 3) := by decide +kernel
theorem dX4_nextLine_67 : decode cX4_nextLine 67 = .ok (.ifCond .eq 7, 3) := by decide +kernel
theorem dX4_nextLine_70 : decode cX4_nextLine 70 = .ok (.iload_n 2, 1) := by decide +kernel
theorem dX4_nextLine_71 : decode cX4_nextLine 71 = .ok (.goto 7, 3) := by decide +kernel
theorem dX4_nextLine_74 : decode cX4_nextLine 74 = .ok (.aload_n 0, 1) := by decide +kernel
theorem dX4_nextLine_75 : decode cX4_nextLine 75 = .ok (.getfield 114, 3) := by decide +kernel
theorem dX4_nextLine_78 : decode cX4_nextLine 78 = .ok (.ireturn, 1) := by decide +kernel
theorem dX4_lineAhead_0 : decode cX4_lineAhead 0 = .ok (.aload_n 0, 1) := by decide +kernel
theorem dX4_lineAhead_1 : decode cX4_lineAhead 1 = .ok (.getfield 86, 3) := by decide +kernel
theorem dX4_lineAhead_4 : decode cX4_lineAhead 4 = .ok (.ifCond .eq 12, 3) := by decide +kernel
theorem dX4_lineAhead_7 : decode cX4_lineAhead 7 = .ok (.aload_n 0, 1) := by decide +kernel
theorem dX4_lineAhead_8 : decode cX4_lineAhead 8 = .ok (.getfield 114, 3) := by decide +kernel
theorem dX4_lineAhead_11 : decode cX4_lineAhead 11 = .ok (.iconst 1, 1) := by decide +kernel
theorem dX4_lineAhead_12 : decode cX4_lineAhead 12 = .ok (.iadd, 1) := by decide +kernel
theorem dX4_lineAhead_13 : decode cX4_lineAhead 13 = .ok (.goto 9, 3) := by decide +kernel
theorem dX4_lineAhead_16 : decode cX4_lineAhead 16 = .ok (.aload_n 0, 1) := by decide +kernel
theorem dX4_lineAhead_17 : decode cX4_lineAhead 17 = .ok (.getfield 114, 3) := by decide +kernel
theorem dX4_lineAhead_20 : decode cX4_lineAhead 20 = .ok (.iconst 1, 1) := by decide +kernel
theorem dX4_lineAhead_21 : decode cX4_lineAhead 21 = .ok (.isub, 1) := by decide +kernel
theorem dX4_lineAhead_22 : decode cX4_lineAhead 22 = .ok (.ireturn, 1) := by decide +kernel
theorem dX4_goTo_0 : decode cX4_goTo 0 = .ok (.aload_n 0, 1) := by decide +kernel
theorem dX4_goTo_1 : decode cX4_goTo 1 = .ok (.getfield 12, 3) := by decide +kernel
theorem dX4_goTo_4 : decode cX4_goTo 4 = .ok (.getfield 158, 3) := by decide +kernel
theorem dX4_goTo_7 : decode cX4_goTo 7 = .ok (.iload_n 1, 1) := by decide +kernel
theorem dX4_goTo_8 : decode cX4_goTo 8 = .ok (.iaload, 1) := by decide +kernel
theorem dX4_goTo_9 : decode cX4_goTo 9 = .ok (.istore_n 3, 1) := by decide +kernel
theorem dX4_goTo_10 : decode cX4_goTo 10 = .ok (.aload_n 0, 1) := by decide +kernel
theorem dX4_goTo_11 : decode cX4_goTo 11 = .ok (.iload_n 1, 1) := by decide +kernel
theorem dX4_goTo_12 : decode cX4_goTo 12 = .ok (.aload_n 0, 1) := by decide +kernel
theorem dX4_goTo_13 : decode cX4_goTo 13 = .ok (.getfield 21, 3) := by decide +kernel
theorem dX4_goTo_16 : decode cX4_goTo 16 = .ok (.iload_n 3, 1) := by decide +kernel
theorem dX4_goTo_17 : decode cX4_goTo 17 = .ok (.invokevirtual 213, 3) := by decide +kernel
theorem dX4_goTo_20 : decode cX4_goTo 20 = .ok (.iload_n 2, 1) := by decide +kernel
theorem dX4_goTo_21 : decode cX4_goTo 21 = .ok (.invokevirtual 216, 3) := by decide +kernel
theorem dX4_goTo_24 : decode cX4_goTo 24 = .ok (.lstore 4, 2) := by decide +kernel
theorem dX4_goTo_26 : decode cX4_goTo 26 = .ok (.lload 4, 2) := by decide +kernel
theorem dX4_goTo_28 : decode cX4_goTo 28 = .ok (.aload_n 0, 1) := by decide +kernel
theorem dX4_goTo_29 : decode cX4_goTo 29 = .ok (.getfield 141, 3) := by decide +kernel
theorem dX4_goTo_32 : decode cX4_goTo 32 = .ok (.aload_n 0, 1) := by decide +kernel
theorem dX4_goTo_33 : decode cX4_goTo 33 = .ok (.getfield 141, 3) := by decide +kernel
theorem dX4_goTo_36 : decode cX4_goTo 36 = .ok (.iconst 2, 1) := by decide +kernel
theorem dX4_goTo_37 : decode cX4_goTo 37 = .ok (.idiv, 1) := by decide +kernel
theorem dX4_goTo_38 : decode cX4_goTo 38 = .ok (.isub, 1) := by decide +kernel
theorem dX4_goTo_39 : decode cX4_goTo 39 = .ok (.i2l, 1) := by decide +kernel
theorem dX4_goTo_40 : decode cX4_goTo 40 = .ok (.invokestatic 220, 3) := by decide +kernel
theorem dX4_goTo_43 : decode cX4_goTo 43 = .ok (.lstore 4, 2) := by decide +kernel
theorem dX4_goTo_45 : decode cX4_goTo 45 = .ok (.lload 4, 2) := by decide +kernel
theorem dX4_goTo_47 : decode cX4_goTo 47 = .ok (.aload_n 0, 1) := by decide +kernel
theorem dX4_goTo_48 : decode cX4_goTo 48 = .ok (.getfield 141, 3) := by decide +kernel
theorem dX4_goTo_51 : decode cX4_goTo 51 = .ok (.aload_n 0, 1) := by decide +kernel
theorem dX4_goTo_52 : decode cX4_goTo 52 = .ok (.getfield 141, 3) := by decide +kernel
theorem dX4_goTo_55 : decode cX4_goTo 55 = .ok (.aload_n 0, 1) := by decide +kernel
theorem dX4_goTo_56 : decode cX4_goTo 56 = .ok (.getfield 31, 3) := by decide +kernel
theorem dX4_goTo_59 : decode cX4_goTo 59 = .ok (.iconst 3, 1) := by decide +kernel
theorem dX4_goTo_60 : decode cX4_goTo 60 = .ok (.iaload, 1) := by decide +kernel
theorem dX4_goTo_61 : decode cX4_goTo 61 = .ok (.imul, 1) := by decide +kernel
theorem dX4_goTo_62 : decode cX4_goTo 62 = .ok (.bipush 100, 2) := by decide +kernel
theorem dX4_goTo_64 : decode cX4_goTo 64 = .ok (.idiv, 1) := by decide +kernel
theorem dX4_goTo_65 : decode cX4_goTo 65 = .ok (.iadd, 1) := by decide +kernel
theorem dX4_goTo_66 : decode cX4_goTo 66 = .ok (.iconst 1, 1) := by decide +kernel
theorem dX4_goTo_67 : decode cX4_goTo 67 = .ok (.iadd, 1) := by decide +kernel
theorem dX4_goTo_68 : decode cX4_goTo 68 = .ok (.i2l, 1) := by decide +kernel
theorem dX4_goTo_69 : decode cX4_goTo 69 = .ok (.invokestatic 223, 3) := by decide +kernel
theorem dX4_goTo_72 : decode cX4_goTo 72 = .ok (.lstore 4, 2) := by decide +kernel
theorem dX4_goTo_74 : decode cX4_goTo 74 = .ok (.bipush (-6), 2) := by decide +kernel
theorem dX4_goTo_76 : decode cX4_goTo 76 = .ok (.istore 6, 2) := by decide +kernel
theorem dX4_goTo_78 : decode cX4_goTo 78 = .ok (.iconst 0, 1) := by decide +kernel
theorem dX4_goTo_79 : decode cX4_goTo 79 = .ok (.istore 7, 2) := by decide +kernel
theorem dX4_goTo_81 : decode cX4_goTo 81 = .ok (.iload 7, 2) := by decide +kernel
theorem dX4_goTo_83 : decode cX4_goTo 83 = .ok (.aload_n 0, 1) := by decide +kernel
theorem dX4_goTo_84 : decode cX4_goTo 84 = .ok (.getfield 72, 3) := by decide +kernel
theorem dX4_goTo_87 : decode cX4_goTo 87 = .ok (.if_icmp .ge 48, 3) := by decide +kernel
theorem dX4_goTo_90 : decode cX4_goTo 90 = .ok (.aload_n 0, 1) := by decide +kernel
theorem dX4_goTo_91 : decode cX4_goTo 91 = .ok (.getfield 27, 3) := by decide +kernel
theorem dX4_goTo_94 : decode cX4_goTo 94 = .ok (.iload 7, 2) := by decide +kernel
theorem dX4_goTo_96 : decode cX4_goTo 96 = .ok (.aaload, 1) := by decide +kernel
theorem dX4_goTo_97 : decode cX4_goTo 97 = .ok (.iload_n 1, 1) := by decide +kernel
theorem dX4_goTo_98 : decode cX4_goTo 98 = .ok (.iload_n 3, 1) := by decide +kernel
theorem dX4_goTo_99 : decode cX4_goTo 99 = .ok (.invokevirtual 225, 3) := by decide +kernel
theorem dX4_goTo_102 : decode cX4_goTo 102 = .ok (.istore 8, 2) := by decide +kernel
theorem dX4_goTo_104 : decode cX4_goTo 104 = .ok (.iload 8, 2) := by decide +kernel
theorem dX4_goTo_106 : decode cX4_goTo 106 = .ok (.bipush (-6), 2) := by decide +kernel
theorem dX4_goTo_108 : decode cX4_goTo 108 = .ok (.if_icmp .eq 21, 3) := by decide +kernel
theorem dX4_goTo_111 : decode cX4_goTo 111 = .ok (.lload 4, 2) := by decide +kernel
theorem dX4_goTo_113 : decode cX4_goTo 113 = .ok (.iload 8, 2) := by decide +kernel
theorem dX4_goTo_115 : decode cX4_goTo 115 = .ok (.i2l, 1) := by decide +kernel
theorem dX4_goTo_116 : decode cX4_goTo 116 = .ok (.lcmp, 1) := by decide +kernel
theorem dX4_goTo_117 : decode cX4_goTo 117 = .ok (.ifCond .le 12, 3) := by decide +kernel
theorem dX4_goTo_120 : decode cX4_goTo 120 = .ok (.iload 8, 2) := by decide +kernel
theorem dX4_goTo_122 : decode cX4_goTo 122 = .ok (.i2l, 1) := by decide +kernel
theorem dX4_goTo_123 : decode cX4_goTo 123 = .ok (.lstore 4, 2) := by decide +kernel
theorem dX4_goTo_125 : decode cX4_goTo 125 = .ok (.iload 7, 2) := by decide +kernel
theorem dX4_goTo_127 : decode cX4_goTo 127 = .ok (.istore 6, 2) := by decide +kernel
theorem dX4_goTo_129 : decode cX4_goTo 129 = .ok (.iinc 7 1, 3) := by decide +kernel
theorem dX4_goTo_132 : decode cX4_goTo 132 = .ok (.goto (-51), 3) := by decide +kernel
theorem dX4_goTo_135 : decode cX4_goTo 135 = .ok (.aload_n 0, 1) := by decide +kernel
theorem dX4_goTo_136 : decode cX4_goTo 136 = .ok (.lconst 1, 1) := by decide +kernel
theorem dX4_goTo_137 : decode cX4_goTo 137 = .ok (.lload 4, 2) := by decide +kernel
theorem dX4_goTo_139 : decode cX4_goTo 139 = .ok (.ldc2_w 228, 3) := by decide +kernel
theorem dX4_goTo_142 : decode cX4_goTo 142 = .ok (.invokestatic 223, 3) := by decide +kernel
theorem dX4_goTo_145 : decode cX4_goTo 145 = .ok (.invokestatic 220, 3) := by decide +kernel
theorem dX4_goTo_148 : decode cX4_goTo 148 = .ok (.l2i, 1) := by decide +kernel
theorem dX4_goTo_149 : decode cX4_goTo 149 = .ok (.putfield 141, 3) := by decide +kernel
theorem dX4_goTo_152 : decode cX4_goTo 152 = .ok (.aload_n 0, 1) := by decide +kernel
theorem dX4_goTo_153 : decode cX4_goTo 153 = .ok (.iload_n 1, 1) := by decide +kernel
theorem dX4_goTo_154 : decode cX4_goTo 154 = .ok (.putfield 114, 3) := by decide +kernel
theorem dX4_goTo_157 : decode cX4_goTo 157 = .ok (.aload_n 0, 1) := by decide +kernel
theorem dX4_goTo_158 : decode cX4_goTo 158 = .ok (.getfield 38, 3) := by decide +kernel
theorem dX4_goTo_161 : decode cX4_goTo 161 = .ok (.aload_n 0, 1) := by decide +kernel
theorem dX4_goTo_162 : decode cX4_goTo 162 = .ok (.getfield 114, 3) := by decide +kernel
theorem dX4_goTo_165 : decode cX4_goTo 165 = .ok (.aload_n 0, 1) := by decide +kernel
theorem dX4_goTo_166 : decode cX4_goTo 166 = .ok (.getfield 141, 3) := by decide +kernel
theorem dX4_goTo_169 : decode cX4_goTo 169 = .ok (.iastore, 1) := by decide +kernel
theorem dX4_goTo_170 : decode cX4_goTo 170 = .ok (.aload_n 0, 1) := by decide +kernel
theorem dX4_goTo_171 : decode cX4_goTo 171 = .ok (.getfield 41, 3) := by decide +kernel
theorem dX4_goTo_174 : decode cX4_goTo 174 = .ok (.aload_n 0, 1) := by decide +kernel
theorem dX4_goTo_175 : decode cX4_goTo 175 = .ok (.getfield 114, 3) := by decide +kernel
theorem dX4_goTo_178 : decode cX4_goTo 178 = .ok (.iload 6, 2) := by decide +kernel
theorem dX4_goTo_180 : decode cX4_goTo 180 = .ok (.iastore, 1) := by decide +kernel
theorem dX4_goTo_181 : decode cX4_goTo 181 = .ok (.return_, 1) := by decide +kernel
theorem dX4_wantedDrive_0 : decode cX4_wantedDrive 0 = .ok (.aload_n 0, 1) := by decide +kernel
theorem dX4_wantedDrive_1 : decode cX4_wantedDrive 1 = .ok (.getfield 35, 3) := by decide +kernel
theorem dX4_wantedDrive_4 : decode cX4_wantedDrive 4 = .ok (.iload_n 1, 1) := by decide +kernel
theorem dX4_wantedDrive_5 : decode cX4_wantedDrive 5 = .ok (.iaload, 1) := by decide +kernel
theorem dX4_wantedDrive_6 : decode cX4_wantedDrive 6 = .ok (.istore 4, 2) := by decide +kernel
theorem dX4_wantedDrive_8 : decode cX4_wantedDrive 8 = .ok (.iload 4, 2) := by decide +kernel
theorem dX4_wantedDrive_10 : decode cX4_wantedDrive 10 = .ok (.ifCond .le 14, 3) := by decide +kernel
theorem dX4_wantedDrive_13 : decode cX4_wantedDrive 13 = .ok (.iload_n 2, 1) := by decide +kernel
theorem dX4_wantedDrive_14 : decode cX4_wantedDrive 14 = .ok (.i2l, 1) := by decide +kernel
theorem dX4_wantedDrive_15 : decode cX4_wantedDrive 15 = .ok (.ldc2_w 230, 3) := by decide +kernel
theorem dX4_wantedDrive_18 : decode cX4_wantedDrive 18 = .ok (.lmul, 1) := by decide +kernel
theorem dX4_wantedDrive_19 : decode cX4_wantedDrive 19 = .ok (.iload 4, 2) := by decide +kernel
theorem dX4_wantedDrive_21 : decode cX4_wantedDrive 21 = .ok (.i2l, 1) := by decide +kernel
theorem dX4_wantedDrive_22 : decode cX4_wantedDrive 22 = .ok (.ldiv, 1) := by decide +kernel
theorem dX4_wantedDrive_23 : decode cX4_wantedDrive 23 = .ok (.lreturn, 1) := by decide +kernel
theorem dX4_wantedDrive_24 : decode cX4_wantedDrive 24 = .ok (.iload_n 3, 1) := by decide +kernel
theorem dX4_wantedDrive_25 : decode cX4_wantedDrive 25 = .ok (.ifCond .le 15, 3) := by decide +kernel
theorem dX4_wantedDrive_28 : decode cX4_wantedDrive 28 = .ok (.aload_n 0, 1) := by decide +kernel
theorem dX4_wantedDrive_29 : decode cX4_wantedDrive 29 = .ok (.getfield 141, 3) := by decide +kernel
theorem dX4_wantedDrive_32 : decode cX4_wantedDrive 32 = .ok (.i2l, 1) := by decide +kernel
theorem dX4_wantedDrive_33 : decode cX4_wantedDrive 33 = .ok (.iload_n 2, 1) := by decide +kernel
theorem dX4_wantedDrive_34 : decode cX4_wantedDrive 34 = .ok (.i2l, 1) := by decide +kernel
theorem dX4_wantedDrive_35 : decode cX4_wantedDrive 35 = .ok (.lmul, 1) := by decide +kernel
theorem dX4_wantedDrive_36 : decode cX4_wantedDrive 36 = .ok (.iload_n 3, 1) := by decide +kernel
theorem dX4_wantedDrive_37 : decode cX4_wantedDrive 37 = .ok (.i2l, 1) := by decide +kernel
theorem dX4_wantedDrive_38 : decode cX4_wantedDrive 38 = .ok (.ldiv, 1) := by decide +kernel
theorem dX4_wantedDrive_39 : decode cX4_wantedDrive 39 = .ok (.lreturn, 1) := by decide +kernel
theorem dX4_wantedDrive_40 : decode cX4_wantedDrive 40 = .ok (.ldc2_w 232, 3) := by decide +kernel
theorem dX4_wantedDrive_43 : decode cX4_wantedDrive 43 = .ok (.aload_n 0, 1) := by decide +kernel
theorem dX4_wantedDrive_44 : decode cX4_wantedDrive 44 = .ok (.getfield 141, 3) := by decide +kernel
theorem dX4_wantedDrive_47 : decode cX4_wantedDrive 47 = .ok (.i2l, 1) := by decide +kernel
theorem dX4_wantedDrive_48 : decode cX4_wantedDrive 48 = .ok (.lmul, 1) := by decide +kernel
theorem dX4_wantedDrive_49 : decode cX4_wantedDrive 49 = .ok (.lreturn, 1) := by decide +kernel
theorem dX4_totalOf_0 : decode cX4_totalOf 0 = .ok (.iload_n 1, 1) := by decide +kernel
theorem dX4_totalOf_1 : decode cX4_totalOf 1 = .ok (.tableswitch 140 0 10 #[59, 64, 81, 86, 94, 102, 107, 112, 125, 130, 135], 59) := by decide +kernel
theorem dX4_totalOf_60 : decode cX4_totalOf 60 = .ok (.aload_n 0, 1) := by decide +kernel
theorem dX4_totalOf_61 : decode cX4_totalOf 61 = .ok (.getfield 44, 3) := by decide +kernel
theorem dX4_totalOf_64 : decode cX4_totalOf 64 = .ok (.ireturn, 1) := by decide +kernel
theorem dX4_totalOf_65 : decode cX4_totalOf 65 = .ok (.aload_n 0, 1) := by decide +kernel
theorem dX4_totalOf_66 : decode cX4_totalOf 66 = .ok (.getfield 44, 3) := by decide +kernel
theorem dX4_totalOf_69 : decode cX4_totalOf 69 = .ok (.ifCond .ne 8, 3) := by decide +kernel
theorem dX4_totalOf_72 : decode cX4_totalOf 72 = .ok (.bipush (-6), 2) := by decide +kernel
theorem dX4_totalOf_74 : decode cX4_totalOf 74 = .ok (.goto 7, 3) := by decide +kernel
theorem dX4_totalOf_77 : decode cX4_totalOf 77 = .ok (.aload_n 0, 1) := by decide +kernel
theorem dX4_totalOf_78 : decode cX4_totalOf 78 = .ok (.getfield 114, 3) := by decide +kernel
theorem dX4_totalOf_81 : decode cX4_totalOf 81 = .ok (.ireturn, 1) := by decide +kernel
theorem dX4_totalOf_82 : decode cX4_totalOf 82 = .ok (.aload_n 0, 1) := by decide +kernel
theorem dX4_totalOf_83 : decode cX4_totalOf 83 = .ok (.getfield 141, 3) := by decide +kernel
theorem dX4_totalOf_86 : decode cX4_totalOf 86 = .ok (.ireturn, 1) := by decide +kernel
theorem dX4_totalOf_87 : decode cX4_totalOf 87 = .ok (.aload_n 0, 1) := by decide +kernel
theorem dX4_totalOf_88 : decode cX4_totalOf 88 = .ok (.getfield 12, 3) := by decide +kernel
theorem dX4_totalOf_91 : decode cX4_totalOf 91 = .ok (.getfield 65, 3) := by decide +kernel
theorem dX4_totalOf_94 : decode cX4_totalOf 94 = .ok (.ireturn, 1) := by decide +kernel
theorem dX4_totalOf_95 : decode cX4_totalOf 95 = .ok (.aload_n 0, 1) := by decide +kernel
theorem dX4_totalOf_96 : decode cX4_totalOf 96 = .ok (.getfield 21, 3) := by decide +kernel
theorem dX4_totalOf_99 : decode cX4_totalOf 99 = .ok (.getfield 144, 3) := by decide +kernel
theorem dX4_totalOf_102 : decode cX4_totalOf 102 = .ok (.ireturn, 1) := by decide +kernel
theorem dX4_totalOf_103 : decode cX4_totalOf 103 = .ok (.aload_n 0, 1) := by decide +kernel
theorem dX4_totalOf_104 : decode cX4_totalOf 104 = .ok (.getfield 72, 3) := by decide +kernel
theorem dX4_totalOf_107 : decode cX4_totalOf 107 = .ok (.ireturn, 1) := by decide +kernel
theorem dX4_totalOf_108 : decode cX4_totalOf 108 = .ok (.aload_n 0, 1) := by decide +kernel
theorem dX4_totalOf_109 : decode cX4_totalOf 109 = .ok (.getfield 90, 3) := by decide +kernel
theorem dX4_totalOf_112 : decode cX4_totalOf 112 = .ok (.ireturn, 1) := by decide +kernel
theorem dX4_totalOf_113 : decode cX4_totalOf 113 = .ok (.aload_n 0, 1) := by decide +kernel
theorem dX4_totalOf_114 : decode cX4_totalOf 114 = .ok (.getfield 86, 3) := by decide +kernel
theorem dX4_totalOf_117 : decode cX4_totalOf 117 = .ok (.ifCond .eq 7, 3) := by decide +kernel
theorem dX4_totalOf_120 : decode cX4_totalOf 120 = .ok (.iconst 1, 1) := by decide +kernel
theorem dX4_totalOf_121 : decode cX4_totalOf 121 = .ok (.goto 4, 3) := by decide +kernel
theorem dX4_totalOf_124 : decode cX4_totalOf 124 = .ok (.iconst 0, 1) := by decide +kernel
theorem dX4_totalOf_125 : decode cX4_totalOf 125 = .ok (.ireturn, 1) := by decide +kernel
theorem dX4_totalOf_126 : decode cX4_totalOf 126 = .ok (.aload_n 0, 1) := by decide +kernel
theorem dX4_totalOf_127 : decode cX4_totalOf 127 = .ok (.getfield 93, 3) := by decide +kernel
theorem dX4_totalOf_130 : decode cX4_totalOf 130 = .ok (.ireturn, 1) := by decide +kernel
theorem dX4_totalOf_131 : decode cX4_totalOf 131 = .ok (.aload_n 0, 1) := by decide +kernel
theorem dX4_totalOf_132 : decode cX4_totalOf 132 = .ok (.getfield 96, 3) := by decide +kernel
theorem dX4_totalOf_135 : decode cX4_totalOf 135 = .ok (.ireturn, 1) := by decide +kernel
theorem dX4_totalOf_136 : decode cX4_totalOf 136 = .ok (.aload_n 0, 1) := by decide +kernel
theorem dX4_totalOf_137 : decode cX4_totalOf 137 = .ok (.getfield 99, 3) := by decide +kernel
theorem dX4_totalOf_140 : decode cX4_totalOf 140 = .ok (.ireturn, 1) := by decide +kernel
theorem dX4_totalOf_141 : decode cX4_totalOf 141 = .ok (.aload_n 0, 1) := by decide +kernel
theorem dX4_totalOf_142 : decode cX4_totalOf 142 = .ok (.getfield 48, 3) := by decide +kernel
theorem dX4_totalOf_145 : decode cX4_totalOf 145 = .ok (.ireturn, 1) := by decide +kernel
theorem dX4_copyFrom_0 : decode cX4_copyFrom 0 = .ok (.aload_n 0, 1) := by decide +kernel
theorem dX4_copyFrom_1 : decode cX4_copyFrom 1 = .ok (.getfield 12, 3) := by decide +kernel
theorem dX4_copyFrom_4 : decode cX4_copyFrom 4 = .ok (.aload_n 1, 1) := by decide +kernel
theorem dX4_copyFrom_5 : decode cX4_copyFrom 5 = .ok (.getfield 12, 3) := by decide +kernel
theorem dX4_copyFrom_8 : decode cX4_copyFrom 8 = .ok (.invokevirtual 234, 3) := by decide +kernel
theorem dX4_copyFrom_11 : decode cX4_copyFrom 11 = .ok (.aload_n 0, 1) := by decide +kernel
theorem dX4_copyFrom_12 : decode cX4_copyFrom 12 = .ok (.getfield 21, 3) := by decide +kernel
theorem dX4_copyFrom_15 : decode cX4_copyFrom 15 = .ok (.aload_n 1, 1) := by decide +kernel
theorem dX4_copyFrom_16 : decode cX4_copyFrom 16 = .ok (.getfield 21, 3) := by decide +kernel
theorem dX4_copyFrom_19 : decode cX4_copyFrom 19 = .ok (.invokevirtual 238, 3) := by decide +kernel
theorem dX4_copyFrom_22 : decode cX4_copyFrom 22 = .ok (.iconst 0, 1) := by decide +kernel
theorem dX4_copyFrom_23 : decode cX4_copyFrom 23 = .ok (.istore_n 2, 1) := by decide +kernel
theorem dX4_copyFrom_24 : decode cX4_copyFrom 24 = .ok (.iload_n 2, 1) := by decide +kernel
theorem dX4_copyFrom_25 : decode cX4_copyFrom 25 = .ok (.aload_n 1, 1) := by decide +kernel
theorem dX4_copyFrom_26 : decode cX4_copyFrom 26 = .ok (.getfield 72, 3) := by decide +kernel
theorem dX4_copyFrom_29 : decode cX4_copyFrom 29 = .ok (.if_icmp .ge 24, 3) := by decide +kernel
theorem dX4_copyFrom_32 : decode cX4_copyFrom 32 = .ok (.aload_n 0, 1) := by decide +kernel
theorem dX4_copyFrom_33 : decode cX4_copyFrom 33 = .ok (.getfield 27, 3) := by decide +kernel
theorem dX4_copyFrom_36 : decode cX4_copyFrom 36 = .ok (.iload_n 2, 1) := by decide +kernel
theorem dX4_copyFrom_37 : decode cX4_copyFrom 37 = .ok (.aaload, 1) := by decide +kernel
theorem dX4_copyFrom_38 : decode cX4_copyFrom 38 = .ok (.aload_n 1, 1) := by decide +kernel
theorem dX4_copyFrom_39 : decode cX4_copyFrom 39 = .ok (.getfield 27, 3) := by decide +kernel
theorem dX4_copyFrom_42 : decode cX4_copyFrom 42 = .ok (.iload_n 2, 1) := by decide +kernel
theorem dX4_copyFrom_43 : decode cX4_copyFrom 43 = .ok (.aaload, 1) := by decide +kernel
theorem dX4_copyFrom_44 : decode cX4_copyFrom 44 = .ok (.invokevirtual 241, 3) := by decide +kernel
theorem dX4_copyFrom_47 : decode cX4_copyFrom 47 = .ok (.iinc 2 1, 3) := by decide +kernel
theorem dX4_copyFrom_50 : decode cX4_copyFrom 50 = .ok (.goto (-26), 3) := by decide +kernel
theorem dX4_copyFrom_53 : decode cX4_copyFrom 53 = .ok (.aload_n 0, 1) := by decide +kernel
theorem dX4_copyFrom_54 : decode cX4_copyFrom 54 = .ok (.aload_n 1, 1) := by decide +kernel
theorem dX4_copyFrom_55 : decode cX4_copyFrom 55 = .ok (.getfield 72, 3) := by decide +kernel
theorem dX4_copyFrom_58 : decode cX4_copyFrom 58 = .ok (.putfield 72, 3) := by decide +kernel
theorem dX4_copyFrom_61 : decode cX4_copyFrom 61 = .ok (.aload_n 1, 1) := by decide +kernel
theorem dX4_copyFrom_62 : decode cX4_copyFrom 62 = .ok (.getfield 31, 3) := by decide +kernel
theorem dX4_copyFrom_65 : decode cX4_copyFrom 65 = .ok (.aload_n 0, 1) := by decide +kernel
theorem dX4_copyFrom_66 : decode cX4_copyFrom 66 = .ok (.getfield 31, 3) := by decide +kernel
theorem dX4_copyFrom_69 : decode cX4_copyFrom 69 = .ok (.invokestatic 55, 3) := by decide +kernel
theorem dX4_copyFrom_72 : decode cX4_copyFrom 72 = .ok (.aload_n 1, 1) := by decide +kernel
theorem dX4_copyFrom_73 : decode cX4_copyFrom 73 = .ok (.getfield 35, 3) := by decide +kernel
theorem dX4_copyFrom_76 : decode cX4_copyFrom 76 = .ok (.aload_n 0, 1) := by decide +kernel
theorem dX4_copyFrom_77 : decode cX4_copyFrom 77 = .ok (.getfield 35, 3) := by decide +kernel
theorem dX4_copyFrom_80 : decode cX4_copyFrom 80 = .ok (.invokestatic 55, 3) := by decide +kernel
theorem dX4_copyFrom_83 : decode cX4_copyFrom 83 = .ok (.aload_n 1, 1) := by decide +kernel
theorem dX4_copyFrom_84 : decode cX4_copyFrom 84 = .ok (.getfield 38, 3) := by decide +kernel
theorem dX4_copyFrom_87 : decode cX4_copyFrom 87 = .ok (.aload_n 0, 1) := by decide +kernel
theorem dX4_copyFrom_88 : decode cX4_copyFrom 88 = .ok (.getfield 38, 3) := by decide +kernel
theorem dX4_copyFrom_91 : decode cX4_copyFrom 91 = .ok (.invokestatic 55, 3) := by decide +kernel
theorem dX4_copyFrom_94 : decode cX4_copyFrom 94 = .ok (.aload_n 1, 1) := by decide +kernel
theorem dX4_copyFrom_95 : decode cX4_copyFrom 95 = .ok (.getfield 41, 3) := by decide +kernel
theorem dX4_copyFrom_98 : decode cX4_copyFrom 98 = .ok (.aload_n 0, 1) := by decide +kernel
theorem dX4_copyFrom_99 : decode cX4_copyFrom 99 = .ok (.getfield 41, 3) := by decide +kernel
theorem dX4_copyFrom_102 : decode cX4_copyFrom 102 = .ok (.invokestatic 55, 3) := by decide +kernel
theorem dX4_copyFrom_105 : decode cX4_copyFrom 105 = .ok (.aload_n 0, 1) := by decide +kernel
theorem dX4_copyFrom_106 : decode cX4_copyFrom 106 = .ok (.aload_n 1, 1) := by decide +kernel
theorem dX4_copyFrom_107 : decode cX4_copyFrom 107 = .ok (.getfield 44, 3) := by decide +kernel
theorem dX4_copyFrom_110 : decode cX4_copyFrom 110 = .ok (.putfield 44, 3) := by decide +kernel
theorem dX4_copyFrom_113 : decode cX4_copyFrom 113 = .ok (.aload_n 0, 1) := by decide +kernel
theorem dX4_copyFrom_114 : decode cX4_copyFrom 114 = .ok (.aload_n 1, 1) := by decide +kernel
theorem dX4_copyFrom_115 : decode cX4_copyFrom 115 = .ok (.getfield 114, 3) := by decide +kernel
theorem dX4_copyFrom_118 : decode cX4_copyFrom 118 = .ok (.putfield 114, 3) := by decide +kernel
theorem dX4_copyFrom_121 : decode cX4_copyFrom 121 = .ok (.aload_n 0, 1) := by decide +kernel
theorem dX4_copyFrom_122 : decode cX4_copyFrom 122 = .ok (.aload_n 1, 1) := by decide +kernel
theorem dX4_copyFrom_123 : decode cX4_copyFrom 123 = .ok (.getfield 141, 3) := by decide +kernel
theorem dX4_copyFrom_126 : decode cX4_copyFrom 126 = .ok (.putfield 141, 3) := by decide +kernel
theorem dX4_copyFrom_129 : decode cX4_copyFrom 129 = .ok (.aload_n 0, 1) := by decide +kernel
theorem dX4_copyFrom_130 : decode cX4_copyFrom 130 = .ok (.aload_n 1, 1) := by decide +kernel
theorem dX4_copyFrom_131 : decode cX4_copyFrom 131 = .ok (.getfield 86, 3) := by decide +kernel
theorem dX4_copyFrom_134 : decode cX4_copyFrom 134 = .ok (.putfield 86, 3) := by decide +kernel
theorem dX4_copyFrom_137 : decode cX4_copyFrom 137 = .ok (.aload_n 0, 1) := by decide +kernel
theorem dX4_copyFrom_138 : decode cX4_copyFrom 138 = .ok (.aload_n 1, 1) := by decide +kernel
theorem dX4_copyFrom_139 : decode cX4_copyFrom 139 = .ok (.getfield 90, 3) := by decide +kernel
theorem dX4_copyFrom_142 : decode cX4_copyFrom 142 = .ok (.putfield 90, 3) := by decide +kernel
theorem dX4_copyFrom_145 : decode cX4_copyFrom 145 = .ok (.aload_n 0, 1) := by decide +kernel
theorem dX4_copyFrom_146 : decode cX4_copyFrom 146 = .ok (.aload_n 1, 1) := by decide +kernel
theorem dX4_copyFrom_147 : decode cX4_copyFrom 147 = .ok (.getfield 93, 3) := by decide +kernel
theorem dX4_copyFrom_150 : decode cX4_copyFrom 150 = .ok (.putfield 93, 3) := by decide +kernel
theorem dX4_copyFrom_153 : decode cX4_copyFrom 153 = .ok (.aload_n 0, 1) := by decide +kernel
theorem dX4_copyFrom_154 : decode cX4_copyFrom 154 = .ok (.aload_n 1, 1) := by decide +kernel
theorem dX4_copyFrom_155 : decode cX4_copyFrom 155 = .ok (.getfield 96, 3) := by decide +kernel
theorem dX4_copyFrom_158 : decode cX4_copyFrom 158 = .ok (.putfield 96, 3) := by decide +kernel
theorem dX4_copyFrom_161 : decode cX4_copyFrom 161 = .ok (.aload_n 0, 1) := by decide +kernel
theorem dX4_copyFrom_162 : decode cX4_copyFrom 162 = .ok (.aload_n 1, 1) := by decide +kernel
theorem dX4_copyFrom_163 : decode cX4_copyFrom 163 = .ok (.getfield 99, 3) := by decide +kernel
theorem dX4_copyFrom_166 : decode cX4_copyFrom 166 = .ok (.putfield 99, 3) := by decide +kernel
theorem dX4_copyFrom_169 : decode cX4_copyFrom 169 = .ok (.aload_n 0, 1) := by decide +kernel
theorem dX4_copyFrom_170 : decode cX4_copyFrom 170 = .ok (.aload_n 1, 1) := by decide +kernel
theorem dX4_copyFrom_171 : decode cX4_copyFrom 171 = .ok (.getfield 48, 3) := by decide +kernel
theorem dX4_copyFrom_174 : decode cX4_copyFrom 174 = .ok (.putfield 48, 3) := by decide +kernel
theorem dX4_copyFrom_177 : decode cX4_copyFrom 177 = .ok (.return_, 1) := by decide +kernel
theorem dX6_init_0 : decode cX6_init 0 = .ok (.aload_n 0, 1) := by decide +kernel
theorem dX6_init_1 : decode cX6_init 1 = .ok (.invokespecial 1, 3) := by decide +kernel
theorem dX6_init_4 : decode cX6_init 4 = .ok (.aload_n 0, 1) := by decide +kernel
theorem dX6_init_5 : decode cX6_init 5 = .ok (.new 7, 3) := by decide +kernel
theorem dX6_init_8 : decode cX6_init 8 = .ok (.dup, 1) := by decide +kernel
theorem dX6_init_9 : decode cX6_init 9 = .ok (.invokespecial 9, 3) := by decide +kernel
theorem dX6_init_12 : decode cX6_init 12 = .ok (.putfield 10, 3) := by decide +kernel
theorem dX6_init_15 : decode cX6_init 15 = .ok (.aload_n 0, 1) := by decide +kernel
theorem dX6_init_16 : decode cX6_init 16 = .ok (.new 7, 3) := by decide +kernel
theorem dX6_init_19 : decode cX6_init 19 = .ok (.dup, 1) := by decide +kernel
theorem dX6_init_20 : decode cX6_init 20 = .ok (.invokespecial 9, 3) := by decide +kernel
theorem dX6_init_23 : decode cX6_init 23 = .ok (.putfield 16, 3) := by decide +kernel
theorem dX6_init_26 : decode cX6_init 26 = .ok (.aload_n 0, 1) := by decide +kernel
theorem dX6_init_27 : decode cX6_init 27 = .ok (.new 19, 3) := by decide +kernel
theorem dX6_init_30 : decode cX6_init 30 = .ok (.dup, 1) := by decide +kernel
theorem dX6_init_31 : decode cX6_init 31 = .ok (.invokespecial 21, 3) := by decide +kernel
theorem dX6_init_34 : decode cX6_init 34 = .ok (.putfield 22, 3) := by decide +kernel
theorem dX6_init_37 : decode cX6_init 37 = .ok (.aload_n 0, 1) := by decide +kernel
theorem dX6_init_38 : decode cX6_init 38 = .ok (.iconst 2, 1) := by decide +kernel
theorem dX6_init_39 : decode cX6_init 39 = .ok (.anewarray 7, 3) := by decide +kernel
theorem dX6_init_42 : decode cX6_init 42 = .ok (.putfield 26, 3) := by decide +kernel
theorem dX6_init_45 : decode cX6_init 45 = .ok (.aload_n 0, 1) := by decide +kernel
theorem dX6_init_46 : decode cX6_init 46 = .ok (.iconst 2, 1) := by decide +kernel
theorem dX6_init_47 : decode cX6_init 47 = .ok (.newarray .boolean, 2) := by decide +kernel
theorem dX6_init_49 : decode cX6_init 49 = .ok (.putfield 30, 3) := by decide +kernel
theorem dX6_init_52 : decode cX6_init 52 = .ok (.aload_n 0, 1) := by decide +kernel
theorem dX6_init_53 : decode cX6_init 53 = .ok (.new 34, 3) := by decide +kernel
theorem dX6_init_56 : decode cX6_init 56 = .ok (.dup, 1) := by decide +kernel
theorem dX6_init_57 : decode cX6_init 57 = .ok (.invokespecial 36, 3) := by decide +kernel
theorem dX6_init_60 : decode cX6_init 60 = .ok (.putfield 37, 3) := by decide +kernel
theorem dX6_init_63 : decode cX6_init 63 = .ok (.iconst 0, 1) := by decide +kernel
theorem dX6_init_64 : decode cX6_init 64 = .ok (.istore_n 1, 1) := by decide +kernel
theorem dX6_init_65 : decode cX6_init 65 = .ok (.iload_n 1, 1) := by decide +kernel
theorem dX6_init_66 : decode cX6_init 66 = .ok (.iconst 2, 1) := by decide +kernel
theorem dX6_init_67 : decode cX6_init 67 = .ok (.if_icmp .ge 22, 3) := by decide +kernel
theorem dX6_init_70 : decode cX6_init 70 = .ok (.aload_n 0, 1) := by decide +kernel
theorem dX6_init_71 : decode cX6_init 71 = .ok (.getfield 26, 3) := by decide +kernel
theorem dX6_init_74 : decode cX6_init 74 = .ok (.iload_n 1, 1) := by decide +kernel
theorem dX6_init_75 : decode cX6_init 75 = .ok (.new 7, 3) := by decide +kernel
theorem dX6_init_78 : decode cX6_init 78 = .ok (.dup, 1) := by decide +kernel
theorem dX6_init_79 : decode cX6_init 79 = .ok (.invokespecial 9, 3) := by decide +kernel
theorem dX6_init_82 : decode cX6_init 82 = .ok (.aastore, 1) := by decide +kernel
theorem dX6_init_83 : decode cX6_init 83 = .ok (.iinc 1 1, 3) := by decide +kernel
theorem dX6_init_86 : decode cX6_init 86 = .ok (.goto (-21), 3) := by decide +kernel
theorem dX6_init_89 : decode cX6_init 89 = .ok (.return_, 1) := by decide +kernel
theorem dX6_setLines_0 : decode cX6_setLines 0 = .ok (.aload_n 0, 1) := by decide +kernel
theorem dX6_setLines_1 : decode cX6_setLines 1 = .ok (.getfield 22, 3) := by decide +kernel
theorem dX6_setLines_4 : decode cX6_setLines 4 = .ok (.aload_n 0, 1) := by decide +kernel
theorem dX6_setLines_5 : decode cX6_setLines 5 = .ok (.getfield 10, 3) := by decide +kernel
theorem dX6_setLines_8 : decode cX6_setLines 8 = .ok (.invokevirtual 41, 3) := by decide +kernel
theorem dX6_setLines_11 : decode cX6_setLines 11 = .ok (.aload_n 0, 1) := by decide +kernel
theorem dX6_setLines_12 : decode cX6_setLines 12 = .ok (.aload_n 0, 1) := by decide +kernel
theorem dX6_setLines_13 : decode cX6_setLines 13 = .ok (.getfield 10, 3) := by decide +kernel
theorem dX6_setLines_16 : decode cX6_setLines 16 = .ok (.iload_n 1, 1) := by decide +kernel
theorem dX6_setLines_17 : decode cX6_setLines 17 = .ok (.iload_n 2, 1) := by decide +kernel
theorem dX6_setLines_18 : decode cX6_setLines 18 = .ok (.iload_n 3, 1) := by decide +kernel
theorem dX6_setLines_19 : decode cX6_setLines 19 = .ok (.invokevirtual 45, 3) := by decide +kernel
theorem dX6_setLines_22 : decode cX6_setLines 22 = .ok (.invokevirtual 49, 3) := by decide +kernel
theorem dX6_setLines_25 : decode cX6_setLines 25 = .ok (.ireturn, 1) := by decide +kernel
theorem dX6_setPoint_0 : decode cX6_setPoint 0 = .ok (.aload_n 0, 1) := by decide +kernel
theorem dX6_setPoint_1 : decode cX6_setPoint 1 = .ok (.getfield 22, 3) := by decide +kernel
theorem dX6_setPoint_4 : decode cX6_setPoint 4 = .ok (.aload_n 0, 1) := by decide +kernel
theorem dX6_setPoint_5 : decode cX6_setPoint 5 = .ok (.getfield 10, 3) := by decide +kernel
theorem dX6_setPoint_8 : decode cX6_setPoint 8 = .ok (.invokevirtual 41, 3) := by decide +kernel
theorem dX6_setPoint_11 : decode cX6_setPoint 11 = .ok (.aload_n 0, 1) := by decide +kernel
theorem dX6_setPoint_12 : decode cX6_setPoint 12 = .ok (.aload_n 0, 1) := by decide +kernel
theorem dX6_setPoint_13 : decode cX6_setPoint 13 = .ok (.getfield 10, 3) := by decide +kernel
theorem dX6_setPoint_16 : decode cX6_setPoint 16 = .ok (.iload_n 1, 1) := by decide +kernel
theorem dX6_setPoint_17 : decode cX6_setPoint 17 = .ok (.iload_n 2, 1) := by decide +kernel
theorem dX6_setPoint_18 : decode cX6_setPoint 18 = .ok (.invokevirtual 53, 3) := by decide +kernel
theorem dX6_setPoint_21 : decode cX6_setPoint 21 = .ok (.invokevirtual 49, 3) := by decide +kernel
theorem dX6_setPoint_24 : decode cX6_setPoint 24 = .ok (.ireturn, 1) := by decide +kernel
theorem dX6_addChannel_0 : decode cX6_addChannel 0 = .ok (.aload_n 0, 1) := by decide +kernel
theorem dX6_addChannel_1 : decode cX6_addChannel 1 = .ok (.getfield 22, 3) := by decide +kernel
theorem dX6_addChannel_4 : decode cX6_addChannel 4 = .ok (.aload_n 0, 1) := by decide +kernel
theorem dX6_addChannel_5 : decode cX6_addChannel 5 = .ok (.getfield 10, 3) := by decide +kernel
theorem dX6_addChannel_8 : decode cX6_addChannel 8 = .ok (.invokevirtual 41, 3) := by decide +kernel
theorem dX6_addChannel_11 : decode cX6_addChannel 11 = .ok (.aload_n 0, 1) := by decide +kernel
theorem dX6_addChannel_12 : decode cX6_addChannel 12 = .ok (.aload_n 0, 1) := by decide +kernel
theorem dX6_addChannel_13 : decode cX6_addChannel 13 = .ok (.getfield 10, 3) := by decide +kernel
theorem dX6_addChannel_16 : decode cX6_addChannel 16 = .ok (.iload_n 1, 1) := by decide +kernel
theorem dX6_addChannel_17 : decode cX6_addChannel 17 = .ok (.iload_n 2, 1) := by decide +kernel
theorem dX6_addChannel_18 : decode cX6_addChannel 18 = .ok (.iload_n 3, 1) := by decide +kernel
theorem dX6_addChannel_19 : decode cX6_addChannel 19 = .ok (.invokevirtual 57, 3) := by decide +kernel
theorem dX6_addChannel_22 : decode cX6_addChannel 22 = .ok (.invokevirtual 49, 3) := by decide +kernel
theorem dX6_addChannel_25 : decode cX6_addChannel 25 = .ok (.ireturn, 1) := by decide +kernel
theorem dX6_setMode_0 : decode cX6_setMode 0 = .ok (.aload_n 0, 1) := by decide +kernel
theorem dX6_setMode_1 : decode cX6_setMode 1 = .ok (.getfield 10, 3) := by decide +kernel
theorem dX6_setMode_4 : decode cX6_setMode 4 = .ok (.iload_n 1, 1) := by decide +kernel
theorem dX6_setMode_5 : decode cX6_setMode 5 = .ok (.invokevirtual 61, 3) := by decide +kernel
theorem dX6_setMode_8 : decode cX6_setMode 8 = .ok (.ifCond .ne 5, 3) := by decide +kernel
theorem dX6_setMode_11 : decode cX6_setMode 11 = .ok (.iconst (-1), 1) := by decide +kernel
theorem dX6_setMode_12 : decode cX6_setMode 12 = .ok (.ireturn, 1) := by decide +kernel
theorem dX6_setMode_13 : decode cX6_setMode 13 = .ok (.aload_n 0, 1) := by decide +kernel
theorem dX6_setMode_14 : decode cX6_setMode 14 = .ok (.getfield 22, 3) := by decide +kernel
theorem dX6_setMode_17 : decode cX6_setMode 17 = .ok (.aload_n 0, 1) := by decide +kernel
theorem dX6_setMode_18 : decode cX6_setMode 18 = .ok (.getfield 10, 3) := by decide +kernel
theorem dX6_setMode_21 : decode cX6_setMode 21 = .ok (.invokevirtual 41, 3) := by decide +kernel
theorem dX6_setMode_24 : decode cX6_setMode 24 = .ok (.aload_n 0, 1) := by decide +kernel
theorem dX6_setMode_25 : decode cX6_setMode 25 = .ok (.aload_n 0, 1) := by decide +kernel
theorem dX6_setMode_26 : decode cX6_setMode 26 = .ok (.getfield 10, 3) := by decide +kernel
theorem dX6_setMode_29 : decode cX6_setMode 29 = .ok (.getfield 65, 3) := by decide +kernel
theorem dX6_setMode_32 : decode cX6_setMode 32 = .ok (.iload_n 1, 1) := by decide +kernel
theorem dX6_setMode_33 : decode cX6_setMode 33 = .ok (.aaload, 1) := by decide +kernel
theorem dX6_setMode_34 : decode cX6_setMode 34 = .ok (.iload_n 2, 1) := by decide +kernel
theorem dX6_setMode_35 : decode cX6_setMode 35 = .ok (.iload_n 3, 1) := by decide +kernel
theorem dX6_setMode_36 : decode cX6_setMode 36 = .ok (.iload 4, 2) := by decide +kernel
theorem dX6_setMode_38 : decode cX6_setMode 38 = .ok (.iload 5, 2) := by decide +kernel
theorem dX6_setMode_40 : decode cX6_setMode 40 = .ok (.invokevirtual 69, 3) := by decide +kernel
theorem dX6_setMode_43 : decode cX6_setMode 43 = .ok (.invokevirtual 49, 3) := by decide +kernel
theorem dX6_setMode_46 : decode cX6_setMode 46 = .ok (.ireturn, 1) := by decide +kernel
theorem dX6_addNotch_0 : decode cX6_addNotch 0 = .ok (.aload_n 0, 1) := by decide +kernel
theorem dX6_addNotch_1 : decode cX6_addNotch 1 = .ok (.getfield 10, 3) := by decide +kernel
theorem dX6_addNotch_4 : decode cX6_addNotch 4 = .ok (.iload_n 1, 1) := by decide +kernel
theorem dX6_addNotch_5 : decode cX6_addNotch 5 = .ok (.invokevirtual 61, 3) := by decide +kernel
theorem dX6_addNotch_8 : decode cX6_addNotch 8 = .ok (.ifCond .ne 5, 3) := by decide +kernel
theorem dX6_addNotch_11 : decode cX6_addNotch 11 = .ok (.iconst (-1), 1) := by decide +kernel
theorem dX6_addNotch_12 : decode cX6_addNotch 12 = .ok (.ireturn, 1) := by decide +kernel
theorem dX6_addNotch_13 : decode cX6_addNotch 13 = .ok (.aload_n 0, 1) := by decide +kernel
theorem dX6_addNotch_14 : decode cX6_addNotch 14 = .ok (.getfield 22, 3) := by decide +kernel
theorem dX6_addNotch_17 : decode cX6_addNotch 17 = .ok (.aload_n 0, 1) := by decide +kernel
theorem dX6_addNotch_18 : decode cX6_addNotch 18 = .ok (.getfield 10, 3) := by decide +kernel
theorem dX6_addNotch_21 : decode cX6_addNotch 21 = .ok (.invokevirtual 41, 3) := by decide +kernel
theorem dX6_addNotch_24 : decode cX6_addNotch 24 = .ok (.aload_n 0, 1) := by decide +kernel
theorem dX6_addNotch_25 : decode cX6_addNotch 25 = .ok (.aload_n 0, 1) := by decide +kernel
theorem dX6_addNotch_26 : decode cX6_addNotch 26 = .ok (.getfield 10, 3) := by decide +kernel
theorem dX6_addNotch_29 : decode cX6_addNotch 29 = .ok (.getfield 65, 3) := by decide +kernel
theorem dX6_addNotch_32 : decode cX6_addNotch 32 = .ok (.iload_n 1, 1) := by decide +kernel
theorem dX6_addNotch_33 : decode cX6_addNotch 33 = .ok (.aaload, 1) := by decide +kernel
theorem dX6_addNotch_34 : decode cX6_addNotch 34 = .ok (.iload_n 2, 1) := by decide +kernel
theorem dX6_addNotch_35 : decode cX6_addNotch 35 = .ok (.iload_n 3, 1) := by decide +kernel
theorem dX6_addNotch_36 : decode cX6_addNotch 36 = .ok (.iload 4, 2) := by decide +kernel
theorem dX6_addNotch_38 : decode cX6_addNotch 38 = .ok (.invokevirtual 75, 3) := by decide +kernel
theorem dX6_addNotch_41 : decode cX6_addNotch 41 = .ok (.invokevirtual 49, 3) := by decide +kernel
theorem dX6_addNotch_44 : decode cX6_addNotch 44 = .ok (.ireturn, 1) := by decide +kernel
theorem dX6_set_0 : decode cX6_set 0 = .ok (.aload_n 0, 1) := by decide +kernel
theorem dX6_set_1 : decode cX6_set 1 = .ok (.getfield 22, 3) := by decide +kernel
theorem dX6_set_4 : decode cX6_set 4 = .ok (.aload_n 0, 1) := by decide +kernel
theorem dX6_set_5 : decode cX6_set 5 = .ok (.getfield 10, 3) := by decide +kernel
theorem dX6_set_8 : decode cX6_set 8 = .ok (.invokevirtual 41, 3) := by decide +kernel
theorem dX6_set_11 : decode cX6_set 11 = .ok (.aload_n 0, 1) := by decide +kernel
theorem dX6_set_12 : decode cX6_set 12 = .ok (.aload_n 0, 1) := by decide +kernel
theorem dX6_set_13 : decode cX6_set 13 = .ok (.getfield 10, 3) := by decide +kernel
theorem dX6_set_16 : decode cX6_set 16 = .ok (.iload_n 1, 1) := by decide +kernel
theorem dX6_set_17 : decode cX6_set 17 = .ok (.iload_n 2, 1) := by decide +kernel
theorem dX6_set_18 : decode cX6_set 18 = .ok (.invokevirtual 78, 3) := by decide +kernel
theorem dX6_set_21 : decode cX6_set 21 = .ok (.invokevirtual 49, 3) := by decide +kernel
theorem dX6_set_24 : decode cX6_set 24 = .ok (.ireturn, 1) := by decide +kernel
theorem dX6_start_0 : decode cX6_start 0 = .ok (.aload_n 0, 1) := by decide +kernel
theorem dX6_start_1 : decode cX6_start 1 = .ok (.getfield 22, 3) := by decide +kernel
theorem dX6_start_4 : decode cX6_start 4 = .ok (.aload_n 0, 1) := by decide +kernel
theorem dX6_start_5 : decode cX6_start 5 = .ok (.getfield 10, 3) := by decide +kernel
theorem dX6_start_8 : decode cX6_start 8 = .ok (.invokevirtual 41, 3) := by decide +kernel
theorem dX6_start_11 : decode cX6_start 11 = .ok (.aload_n 0, 1) := by decide +kernel
theorem dX6_start_12 : decode cX6_start 12 = .ok (.aload_n 0, 1) := by decide +kernel
theorem dX6_start_13 : decode cX6_start 13 = .ok (.getfield 10, 3) := by decide +kernel
theorem dX6_start_16 : decode cX6_start 16 = .ok (.iload_n 1, 1) := by decide +kernel
theorem dX6_start_17 : decode cX6_start 17 = .ok (.invokevirtual 81, 3) := by decide +kernel
theorem dX6_start_20 : decode cX6_start 20 = .ok (.invokevirtual 49, 3) := by decide +kernel
theorem dX6_start_23 : decode cX6_start 23 = .ok (.ireturn, 1) := by decide +kernel
theorem dX6_step_0 : decode cX6_step 0 = .ok (.aload_n 0, 1) := by decide +kernel
theorem dX6_step_1 : decode cX6_step 1 = .ok (.getfield 22, 3) := by decide +kernel
theorem dX6_step_4 : decode cX6_step 4 = .ok (.aload_n 0, 1) := by decide +kernel
theorem dX6_step_5 : decode cX6_step 5 = .ok (.getfield 10, 3) := by decide +kernel
theorem dX6_step_8 : decode cX6_step 8 = .ok (.invokevirtual 41, 3) := by decide +kernel
theorem dX6_step_11 : decode cX6_step 11 = .ok (.aload_n 0, 1) := by decide +kernel
theorem dX6_step_12 : decode cX6_step 12 = .ok (.aload_n 0, 1) := by decide +kernel
theorem dX6_step_13 : decode cX6_step 13 = .ok (.getfield 10, 3) := by decide +kernel
theorem dX6_step_16 : decode cX6_step 16 = .ok (.iload_n 1, 1) := by decide +kernel
theorem dX6_step_17 : decode cX6_step 17 = .ok (.invokevirtual 84, 3) := by decide +kernel
theorem dX6_step_20 : decode cX6_step 20 = .ok (.invokevirtual 49, 3) := by decide +kernel
theorem dX6_step_23 : decode cX6_step 23 = .ok (.ireturn, 1) := by decide +kernel
theorem dX6_hold_0 : decode cX6_hold 0 = .ok (.aload_n 0, 1) := by decide +kernel
theorem dX6_hold_1 : decode cX6_hold 1 = .ok (.getfield 22, 3) := by decide +kernel
theorem dX6_hold_4 : decode cX6_hold 4 = .ok (.aload_n 0, 1) := by decide +kernel
theorem dX6_hold_5 : decode cX6_hold 5 = .ok (.getfield 10, 3) := by decide +kernel
theorem dX6_hold_8 : decode cX6_hold 8 = .ok (.invokevirtual 41, 3) := by decide +kernel
theorem dX6_hold_11 : decode cX6_hold 11 = .ok (.aload_n 0, 1) := by decide +kernel
theorem dX6_hold_12 : decode cX6_hold 12 = .ok (.aload_n 0, 1) := by decide +kernel
theorem dX6_hold_13 : decode cX6_hold 13 = .ok (.getfield 10, 3) := by decide +kernel
theorem dX6_hold_16 : decode cX6_hold 16 = .ok (.iload_n 1, 1) := by decide +kernel
theorem dX6_hold_17 : decode cX6_hold 17 = .ok (.invokevirtual 87, 3) := by decide +kernel
theorem dX6_hold_20 : decode cX6_hold 20 = .ok (.invokevirtual 49, 3) := by decide +kernel
theorem dX6_hold_23 : decode cX6_hold 23 = .ok (.ireturn, 1) := by decide +kernel
theorem dX6_abort_0 : decode cX6_abort 0 = .ok (.aload_n 0, 1) := by decide +kernel
theorem dX6_abort_1 : decode cX6_abort 1 = .ok (.getfield 22, 3) := by decide +kernel
theorem dX6_abort_4 : decode cX6_abort 4 = .ok (.aload_n 0, 1) := by decide +kernel
theorem dX6_abort_5 : decode cX6_abort 5 = .ok (.getfield 10, 3) := by decide +kernel
theorem dX6_abort_8 : decode cX6_abort 8 = .ok (.invokevirtual 41, 3) := by decide +kernel
theorem dX6_abort_11 : decode cX6_abort 11 = .ok (.aload_n 0, 1) := by decide +kernel
theorem dX6_abort_12 : decode cX6_abort 12 = .ok (.aload_n 0, 1) := by decide +kernel
theorem dX6_abort_13 : decode cX6_abort 13 = .ok (.getfield 10, 3) := by decide +kernel
theorem dX6_abort_16 : decode cX6_abort 16 = .ok (.invokevirtual 91, 3) := by decide +kernel
theorem dX6_abort_19 : decode cX6_abort 19 = .ok (.invokevirtual 49, 3) := by decide +kernel
theorem dX6_abort_22 : decode cX6_abort 22 = .ok (.ireturn, 1) := by decide +kernel
theorem dX6_append_0 : decode cX6_append 0 = .ok (.aload_n 0, 1) := by decide +kernel
theorem dX6_append_1 : decode cX6_append 1 = .ok (.getfield 37, 3) := by decide +kernel
theorem dX6_append_4 : decode cX6_append 4 = .ok (.iload_n 1, 1) := by decide +kernel
theorem dX6_append_5 : decode cX6_append 5 = .ok (.invokevirtual 95, 3) := by decide +kernel
theorem dX6_append_8 : decode cX6_append 8 = .ok (.ireturn, 1) := by decide +kernel
theorem dX6_clearText_0 : decode cX6_clearText 0 = .ok (.aload_n 0, 1) := by decide +kernel
theorem dX6_clearText_1 : decode cX6_clearText 1 = .ok (.getfield 37, 3) := by decide +kernel
theorem dX6_clearText_4 : decode cX6_clearText 4 = .ok (.getfield 98, 3) := by decide +kernel
theorem dX6_clearText_7 : decode cX6_clearText 7 = .ok (.istore_n 1, 1) := by decide +kernel
theorem dX6_clearText_8 : decode cX6_clearText 8 = .ok (.aload_n 0, 1) := by decide +kernel
theorem dX6_clearText_9 : decode cX6_clearText 9 = .ok (.getfield 37, 3) := by decide +kernel
theorem dX6_clearText_12 : decode cX6_clearText 12 = .ok (.iconst 0, 1) := by decide +kernel
theorem dX6_clearText_13 : decode cX6_clearText 13 = .ok (.putfield 98, 3) := by decide +kernel
theorem dX6_clearText_16 : decode cX6_clearText 16 = .ok (.iload_n 1, 1) := by decide +kernel
theorem dX6_clearText_17 : decode cX6_clearText 17 = .ok (.ireturn, 1) := by decide +kernel
theorem dX6_faultPosition_0 : decode cX6_faultPosition 0 = .ok (.aload_n 0, 1) := by decide +kernel
theorem dX6_faultPosition_1 : decode cX6_faultPosition 1 = .ok (.getfield 37, 3) := by decide +kernel
theorem dX6_faultPosition_4 : decode cX6_faultPosition 4 = .ok (.invokevirtual 102, 3) := by decide +kernel
theorem dX6_faultPosition_7 : decode cX6_faultPosition 7 = .ok (.ireturn, 1) := by decide +kernel
theorem dX6_run_0 : decode cX6_run 0 = .ok (.aload_n 0, 1) := by decide +kernel
theorem dX6_run_1 : decode cX6_run 1 = .ok (.getfield 37, 3) := by decide +kernel
theorem dX6_run_4 : decode cX6_run 4 = .ok (.invokevirtual 102, 3) := by decide +kernel
theorem dX6_run_7 : decode cX6_run 7 = .ok (.bipush (-6), 2) := by decide +kernel
theorem dX6_run_9 : decode cX6_run 9 = .ok (.if_icmp .eq 6, 3) := by decide +kernel
theorem dX6_run_12 : decode cX6_run 12 = .ok (.bipush (-3), 2) := by decide +kernel
theorem dX6_run_14 : decode cX6_run 14 = .ok (.ireturn, 1) := by decide +kernel
theorem dX6_run_15 : decode cX6_run 15 = .ok (.aload_n 0, 1) := by decide +kernel
theorem dX6_run_16 : decode cX6_run 16 = .ok (.getfield 22, 3) := by decide +kernel
theorem dX6_run_19 : decode cX6_run 19 = .ok (.aload_n 0, 1) := by decide +kernel
theorem dX6_run_20 : decode cX6_run 20 = .ok (.getfield 10, 3) := by decide +kernel
theorem dX6_run_23 : decode cX6_run 23 = .ok (.invokevirtual 41, 3) := by decide +kernel
theorem dX6_run_26 : decode cX6_run 26 = .ok (.aload_n 0, 1) := by decide +kernel
theorem dX6_run_27 : decode cX6_run 27 = .ok (.getfield 37, 3) := by decide +kernel
theorem dX6_run_30 : decode cX6_run 30 = .ok (.invokevirtual 105, 3) := by decide +kernel
theorem dX6_run_33 : decode cX6_run 33 = .ok (.iconst 0, 1) := by decide +kernel
theorem dX6_run_34 : decode cX6_run 34 = .ok (.istore_n 1, 1) := by decide +kernel
theorem dX6_run_35 : decode cX6_run 35 = .ok (.iload_n 1, 1) := by decide +kernel
theorem dX6_run_36 : decode cX6_run 36 = .ok (.bipush 80, 2) := by decide +kernel
theorem dX6_run_38 : decode cX6_run 38 = .ok (.if_icmp .ge 26, 3) := by decide +kernel
theorem dX6_run_41 : decode cX6_run 41 = .ok (.aload_n 0, 1) := by decide +kernel
theorem dX6_run_42 : decode cX6_run 42 = .ok (.getfield 37, 3) := by decide +kernel
theorem dX6_run_45 : decode cX6_run 45 = .ok (.invokevirtual 108, 3) := by decide +kernel
theorem dX6_run_48 : decode cX6_run 48 = .ok (.ifCond .eq 16, 3) := by decide +kernel
theorem dX6_run_51 : decode cX6_run 51 = .ok (.aload_n 0, 1) := by decide +kernel
theorem dX6_run_52 : decode cX6_run 52 = .ok (.invokevirtual 112, 3) := by decide +kernel
theorem dX6_run_55 : decode cX6_run 55 = .ok (.ifCond .lt 9, 3) := by decide +kernel
theorem dX6_run_58 : decode cX6_run 58 = .ok (.iinc 1 1, 3) := by decide +kernel
theorem dX6_run_61 : decode cX6_run 61 = .ok (.goto (-26), 3) := by decide +kernel
theorem dX6_run_64 : decode cX6_run 64 = .ok (.aload_n 0, 1) := by decide +kernel
theorem dX6_run_65 : decode cX6_run 65 = .ok (.iload_n 1, 1) := by decide +kernel
theorem dX6_run_66 : decode cX6_run 66 = .ok (.invokevirtual 49, 3) := by decide +kernel
theorem dX6_run_69 : decode cX6_run 69 = .ok (.ireturn, 1) := by decide +kernel
theorem dX6_carryOutAct_0 : decode cX6_carryOutAct 0 = .ok (.aload_n 0, 1) := by decide +kernel
theorem dX6_carryOutAct_1 : decode cX6_carryOutAct 1 = .ok (.getfield 37, 3) := by decide +kernel
theorem dX6_carryOutAct_4 : decode cX6_carryOutAct 4 = .ok (.getfield 115, 3) := by decide +kernel
theorem dX6_carryOutAct_7 : decode cX6_carryOutAct 7 = .ok (.lookupswitch 105 #[(103, 49), (104, 79), (114, 88), (115, 64), (120, 97)], 49) := by decide +kernel
theorem dX6_carryOutAct_56 : decode cX6_carryOutAct 56 = .ok (.aload_n 0, 1) := by decide +kernel
theorem dX6_carryOutAct_57 : decode cX6_carryOutAct 57 = .ok (.getfield 10, 3) := by decide +kernel
theorem dX6_carryOutAct_60 : decode cX6_carryOutAct 60 = .ok (.aload_n 0, 1) := by decide +kernel
theorem dX6_carryOutAct_61 : decode cX6_carryOutAct 61 = .ok (.getfield 37, 3) := by decide +kernel
theorem dX6_carryOutAct_64 : decode cX6_carryOutAct 64 = .ok (.getfield 118, 3) := by decide +kernel
theorem dX6_carryOutAct_67 : decode cX6_carryOutAct 67 = .ok (.invokevirtual 81, 3) := by decide +kernel
theorem dX6_carryOutAct_70 : decode cX6_carryOutAct 70 = .ok (.ireturn, 1) := by decide +kernel
theorem dX6_carryOutAct_71 : decode cX6_carryOutAct 71 = .ok (.aload_n 0, 1) := by decide +kernel
theorem dX6_carryOutAct_72 : decode cX6_carryOutAct 72 = .ok (.getfield 10, 3) := by decide +kernel
theorem dX6_carryOutAct_75 : decode cX6_carryOutAct 75 = .ok (.aload_n 0, 1) := by decide +kernel
theorem dX6_carryOutAct_76 : decode cX6_carryOutAct 76 = .ok (.getfield 37, 3) := by decide +kernel
theorem dX6_carryOutAct_79 : decode cX6_carryOutAct 79 = .ok (.getfield 118, 3) := by decide +kernel
theorem dX6_carryOutAct_82 : decode cX6_carryOutAct 82 = .ok (.invokevirtual 84, 3) := by decide +kernel
theorem dX6_carryOutAct_85 : decode cX6_carryOutAct 85 = .ok (.ireturn, 1) := by decide +kernel
theorem dX6_carryOutAct_86 : decode cX6_carryOutAct 86 = .ok (.aload_n 0, 1) := by decide +kernel
theorem dX6_carryOutAct_87 : decode cX6_carryOutAct 87 = .ok (.getfield 10, 3) := by decide +kernel
theorem dX6_carryOutAct_90 : decode cX6_carryOutAct 90 = .ok (.iconst 1, 1) := by decide +kernel
theorem dX6_carryOutAct_91 : decode cX6_carryOutAct 91 = .ok (.invokevirtual 87, 3) := by decide +kernel
theorem dX6_carryOutAct_94 : decode cX6_carryOutAct 94 = .ok (.ireturn, 1) := by decide +kernel
theorem dX6_carryOutAct_95 : decode cX6_carryOutAct 95 = .ok (.aload_n 0, 1) := by decide +kernel
theorem dX6_carryOutAct_96 : decode cX6_carryOutAct 96 = .ok (.getfield 10, 3) := by decide +kernel
theorem dX6_carryOutAct_99 : decode cX6_carryOutAct 99 = .ok (.iconst 0, 1) := by decide +kernel
theorem dX6_carryOutAct_100 : decode cX6_carryOutAct 100 = .ok (.invokevirtual 87, 3) := by decide +kernel
theorem dX6_carryOutAct_103 : decode cX6_carryOutAct 103 = .ok (.ireturn, 1) := by decide +kernel
theorem dX6_carryOutAct_104 : decode cX6_carryOutAct 104 = .ok (.aload_n 0, 1) := by decide +kernel
theorem dX6_carryOutAct_105 : decode cX6_carryOutAct 105 = .ok (.getfield 10, 3) := by decide +kernel
theorem dX6_carryOutAct_108 : decode cX6_carryOutAct 108 = .ok (.invokevirtual 91, 3) := by decide +kernel
theorem dX6_carryOutAct_111 : decode cX6_carryOutAct 111 = .ok (.ireturn, 1) := by decide +kernel
theorem dX6_carryOutAct_112 : decode cX6_carryOutAct 112 = .ok (.aload_n 0, 1) := by decide +kernel
theorem dX6_carryOutAct_113 : decode cX6_carryOutAct 113 = .ok (.getfield 10, 3) := by decide +kernel
theorem dX6_carryOutAct_116 : decode cX6_carryOutAct 116 = .ok (.aload_n 0, 1) := by decide +kernel
theorem dX6_carryOutAct_117 : decode cX6_carryOutAct 117 = .ok (.getfield 37, 3) := by decide +kernel
theorem dX6_carryOutAct_120 : decode cX6_carryOutAct 120 = .ok (.getfield 118, 3) := by decide +kernel
theorem dX6_carryOutAct_123 : decode cX6_carryOutAct 123 = .ok (.aload_n 0, 1) := by decide +kernel
theorem dX6_carryOutAct_124 : decode cX6_carryOutAct 124 = .ok (.getfield 37, 3) := by decide +kernel
theorem dX6_carryOutAct_127 : decode cX6_carryOutAct 127 = .ok (.getfield 121, 3) := by decide +kernel
theorem dX6_carryOutAct_130 : decode cX6_carryOutAct 130 = .ok (.invokevirtual 78, 3) := by decide +kernel
theorem dX6_carryOutAct_133 : decode cX6_carryOutAct 133 = .ok (.ireturn, 1) := by decide +kernel
theorem dX6_undo_0 : decode cX6_undo 0 = .ok (.aload_n 0, 1) := by decide +kernel
theorem dX6_undo_1 : decode cX6_undo 1 = .ok (.getfield 22, 3) := by decide +kernel
theorem dX6_undo_4 : decode cX6_undo 4 = .ok (.aload_n 0, 1) := by decide +kernel
theorem dX6_undo_5 : decode cX6_undo 5 = .ok (.getfield 10, 3) := by decide +kernel
theorem dX6_undo_8 : decode cX6_undo 8 = .ok (.invokevirtual 124, 3) := by decide +kernel
theorem dX6_undo_11 : decode cX6_undo 11 = .ok (.ireturn, 1) := by decide +kernel
theorem dX6_save_0 : decode cX6_save 0 = .ok (.iload_n 1, 1) := by decide +kernel
theorem dX6_save_1 : decode cX6_save 1 = .ok (.invokestatic 128, 3) := by decide +kernel
theorem dX6_save_4 : decode cX6_save 4 = .ok (.ifCond .ne 5, 3) := by decide +kernel
theorem dX6_save_7 : decode cX6_save 7 = .ok (.iconst (-1), 1) := by decide +kernel
theorem dX6_save_8 : decode cX6_save 8 = .ok (.ireturn, 1) := by decide +kernel
theorem dX6_save_9 : decode cX6_save 9 = .ok (.aload_n 0, 1) := by decide +kernel
theorem dX6_save_10 : decode cX6_save 10 = .ok (.getfield 26, 3) := by decide +kernel
theorem dX6_save_13 : decode cX6_save 13 = .ok (.iload_n 1, 1) := by decide +kernel
theorem dX6_save_14 : decode cX6_save 14 = .ok (.aaload, 1) := by decide +kernel
theorem dX6_save_15 : decode cX6_save 15 = .ok (.aload_n 0, 1) := by decide +kernel
theorem dX6_save_16 : decode cX6_save 16 = .ok (.getfield 10, 3) := by decide +kernel
theorem dX6_save_19 : decode cX6_save 19 = .ok (.invokevirtual 131, 3) := by decide +kernel
theorem dX6_save_22 : decode cX6_save 22 = .ok (.aload_n 0, 1) := by decide +kernel
theorem dX6_save_23 : decode cX6_save 23 = .ok (.getfield 30, 3) := by decide +kernel
theorem dX6_save_26 : decode cX6_save 26 = .ok (.iload_n 1, 1) := by decide +kernel
theorem dX6_save_27 : decode cX6_save 27 = .ok (.iconst 1, 1) := by decide +kernel
theorem dX6_save_28 : decode cX6_save 28 = .ok (.bastore, 1) := by decide +kernel
theorem dX6_save_29 : decode cX6_save 29 = .ok (.aload_n 0, 1) := by decide +kernel
theorem dX6_save_30 : decode cX6_save 30 = .ok (.getfield 10, 3) := by decide +kernel
theorem dX6_save_33 : decode cX6_save 33 = .ok (.getfield 134, 3) := by decide +kernel
theorem dX6_save_36 : decode cX6_save 36 = .ok (.ireturn, 1) := by decide +kernel
theorem dX6_restore_0 : decode cX6_restore 0 = .ok (.iload_n 1, 1) := by decide +kernel
theorem dX6_restore_1 : decode cX6_restore 1 = .ok (.invokestatic 128, 3) := by decide +kernel
theorem dX6_restore_4 : decode cX6_restore 4 = .ok (.ifCond .ne 5, 3) := by decide +kernel
theorem dX6_restore_7 : decode cX6_restore 7 = .ok (.iconst (-1), 1) := by decide +kernel
theorem dX6_restore_8 : decode cX6_restore 8 = .ok (.ireturn, 1) := by decide +kernel
theorem dX6_restore_9 : decode cX6_restore 9 = .ok (.aload_n 0, 1) := by decide +kernel
theorem dX6_restore_10 : decode cX6_restore 10 = .ok (.getfield 30, 3) := by decide +kernel
theorem dX6_restore_13 : decode cX6_restore 13 = .ok (.iload_n 1, 1) := by decide +kernel
theorem dX6_restore_14 : decode cX6_restore 14 = .ok (.baload, 1) := by decide +kernel
theorem dX6_restore_15 : decode cX6_restore 15 = .ok (.ifCond .ne 6, 3) := by decide +kernel
theorem dX6_restore_18 : decode cX6_restore 18 = .ok (.bipush (-3), 2) := by decide +kernel
theorem dX6_restore_20 : decode cX6_restore 20 = .ok (.ireturn, 1) := by decide +kernel
theorem dX6_restore_21 : decode cX6_restore 21 = .ok (.aload_n 0, 1) := by decide +kernel
theorem dX6_restore_22 : decode cX6_restore 22 = .ok (.getfield 22, 3) := by decide +kernel
theorem dX6_restore_25 : decode cX6_restore 25 = .ok (.aload_n 0, 1) := by decide +kernel
theorem dX6_restore_26 : decode cX6_restore 26 = .ok (.getfield 10, 3) := by decide +kernel
theorem dX6_restore_29 : decode cX6_restore 29 = .ok (.invokevirtual 41, 3) := by decide +kernel
theorem dX6_restore_32 : decode cX6_restore 32 = .ok (.aload_n 0, 1) := by decide +kernel
theorem dX6_restore_33 : decode cX6_restore 33 = .ok (.getfield 10, 3) := by decide +kernel
theorem dX6_restore_36 : decode cX6_restore 36 = .ok (.aload_n 0, 1) := by decide +kernel
theorem dX6_restore_37 : decode cX6_restore 37 = .ok (.getfield 26, 3) := by decide +kernel
theorem dX6_restore_40 : decode cX6_restore 40 = .ok (.iload_n 1, 1) := by decide +kernel
theorem dX6_restore_41 : decode cX6_restore 41 = .ok (.aaload, 1) := by decide +kernel
theorem dX6_restore_42 : decode cX6_restore 42 = .ok (.invokevirtual 131, 3) := by decide +kernel
theorem dX6_restore_45 : decode cX6_restore 45 = .ok (.aload_n 0, 1) := by decide +kernel
theorem dX6_restore_46 : decode cX6_restore 46 = .ok (.aload_n 0, 1) := by decide +kernel
theorem dX6_restore_47 : decode cX6_restore 47 = .ok (.getfield 10, 3) := by decide +kernel
theorem dX6_restore_50 : decode cX6_restore 50 = .ok (.getfield 134, 3) := by decide +kernel
theorem dX6_restore_53 : decode cX6_restore 53 = .ok (.invokevirtual 49, 3) := by decide +kernel
theorem dX6_restore_56 : decode cX6_restore 56 = .ok (.ireturn, 1) := by decide +kernel
theorem dX6_isSlot_0 : decode cX6_isSlot 0 = .ok (.iload_n 0, 1) := by decide +kernel
theorem dX6_isSlot_1 : decode cX6_isSlot 1 = .ok (.iconst 0, 1) := by decide +kernel
theorem dX6_isSlot_2 : decode cX6_isSlot 2 = .ok (.iconst 1, 1) := by decide +kernel
theorem dX6_isSlot_3 : decode cX6_isSlot 3 = .ok (.invokestatic 137, 3) := by decide +kernel
theorem dX6_isSlot_6 : decode cX6_isSlot 6 = .ok (.ireturn, 1) := by decide +kernel
theorem dX6_recorded_0 : decode cX6_recorded 0 = .ok (.iload_n 1, 1) := by decide +kernel
theorem dX6_recorded_1 : decode cX6_recorded 1 = .ok (.ifCond .lt 10, 3) := by decide +kernel
theorem dX6_recorded_4 : decode cX6_recorded 4 = .ok (.aload_n 0, 1) := by decide +kernel
theorem dX6_recorded_5 : decode cX6_recorded 5 = .ok (.getfield 22, 3) := by decide +kernel
theorem dX6_recorded_8 : decode cX6_recorded 8 = .ok (.invokevirtual 141, 3) := by decide +kernel
theorem dX6_recorded_11 : decode cX6_recorded 11 = .ok (.iload_n 1, 1) := by decide +kernel
theorem dX6_recorded_12 : decode cX6_recorded 12 = .ok (.ireturn, 1) := by decide +kernel
theorem dX6_frequency_0 : decode cX6_frequency 0 = .ok (.aload_n 0, 1) := by decide +kernel
theorem dX6_frequency_1 : decode cX6_frequency 1 = .ok (.aload_n 0, 1) := by decide +kernel
theorem dX6_frequency_2 : decode cX6_frequency 2 = .ok (.getfield 10, 3) := by decide +kernel
theorem dX6_frequency_5 : decode cX6_frequency 5 = .ok (.getfield 144, 3) := by decide +kernel
theorem dX6_frequency_8 : decode cX6_frequency 8 = .ok (.getfield 148, 3) := by decide +kernel
theorem dX6_frequency_11 : decode cX6_frequency 11 = .ok (.iload_n 1, 1) := by decide +kernel
theorem dX6_frequency_12 : decode cX6_frequency 12 = .ok (.invokevirtual 154, 3) := by decide +kernel
theorem dX6_frequency_15 : decode cX6_frequency 15 = .ok (.ireturn, 1) := by decide +kernel
theorem dX6_target_0 : decode cX6_target 0 = .ok (.iload_n 1, 1) := by decide +kernel
theorem dX6_target_1 : decode cX6_target 1 = .ok (.invokestatic 158, 3) := by decide +kernel
theorem dX6_target_4 : decode cX6_target 4 = .ok (.ifCond .ne 6, 3) := by decide +kernel
theorem dX6_target_7 : decode cX6_target 7 = .ok (.bipush (-2), 2) := by decide +kernel
theorem dX6_target_9 : decode cX6_target 9 = .ok (.ireturn, 1) := by decide +kernel
theorem dX6_target_10 : decode cX6_target 10 = .ok (.aload_n 0, 1) := by decide +kernel
theorem dX6_target_11 : decode cX6_target 11 = .ok (.getfield 10, 3) := by decide +kernel
theorem dX6_target_14 : decode cX6_target 14 = .ok (.getfield 161, 3) := by decide +kernel
theorem dX6_target_17 : decode cX6_target 17 = .ok (.iload_n 1, 1) := by decide +kernel
theorem dX6_target_18 : decode cX6_target 18 = .ok (.invokevirtual 165, 3) := by decide +kernel
theorem dX6_target_21 : decode cX6_target 21 = .ok (.ireturn, 1) := by decide +kernel
theorem dX6_gain_0 : decode cX6_gain 0 = .ok (.aload_n 0, 1) := by decide +kernel
theorem dX6_gain_1 : decode cX6_gain 1 = .ok (.getfield 10, 3) := by decide +kernel
theorem dX6_gain_4 : decode cX6_gain 4 = .ok (.iload_n 1, 1) := by decide +kernel
theorem dX6_gain_5 : decode cX6_gain 5 = .ok (.invokevirtual 61, 3) := by decide +kernel
theorem dX6_gain_8 : decode cX6_gain 8 = .ok (.ifCond .ne 5, 3) := by decide +kernel
theorem dX6_gain_11 : decode cX6_gain 11 = .ok (.iconst (-1), 1) := by decide +kernel
theorem dX6_gain_12 : decode cX6_gain 12 = .ok (.ireturn, 1) := by decide +kernel
theorem dX6_gain_13 : decode cX6_gain 13 = .ok (.iload_n 2, 1) := by decide +kernel
theorem dX6_gain_14 : decode cX6_gain 14 = .ok (.invokestatic 158, 3) := by decide +kernel
theorem dX6_gain_17 : decode cX6_gain 17 = .ok (.ifCond .ne 6, 3) := by decide +kernel
theorem dX6_gain_20 : decode cX6_gain 20 = .ok (.bipush (-2), 2) := by decide +kernel
theorem dX6_gain_22 : decode cX6_gain 22 = .ok (.ireturn, 1) := by decide +kernel
theorem dX6_gain_23 : decode cX6_gain 23 = .ok (.aload_n 0, 1) := by decide +kernel
theorem dX6_gain_24 : decode cX6_gain 24 = .ok (.getfield 10, 3) := by decide +kernel
theorem dX6_gain_27 : decode cX6_gain 27 = .ok (.getfield 65, 3) := by decide +kernel
theorem dX6_gain_30 : decode cX6_gain 30 = .ok (.iload_n 1, 1) := by decide +kernel
theorem dX6_gain_31 : decode cX6_gain 31 = .ok (.aaload, 1) := by decide +kernel
theorem dX6_gain_32 : decode cX6_gain 32 = .ok (.iload_n 2, 1) := by decide +kernel
theorem dX6_gain_33 : decode cX6_gain 33 = .ok (.invokevirtual 170, 3) := by decide +kernel
theorem dX6_gain_36 : decode cX6_gain 36 = .ok (.ireturn, 1) := by decide +kernel
theorem dX6_limit_0 : decode cX6_limit 0 = .ok (.aload_n 0, 1) := by decide +kernel
theorem dX6_limit_1 : decode cX6_limit 1 = .ok (.getfield 10, 3) := by decide +kernel
theorem dX6_limit_4 : decode cX6_limit 4 = .ok (.iload_n 1, 1) := by decide +kernel
theorem dX6_limit_5 : decode cX6_limit 5 = .ok (.invokevirtual 61, 3) := by decide +kernel
theorem dX6_limit_8 : decode cX6_limit 8 = .ok (.ifCond .ne 5, 3) := by decide +kernel
theorem dX6_limit_11 : decode cX6_limit 11 = .ok (.iconst (-1), 1) := by decide +kernel
theorem dX6_limit_12 : decode cX6_limit 12 = .ok (.ireturn, 1) := by decide +kernel
theorem dX6_limit_13 : decode cX6_limit 13 = .ok (.iload_n 2, 1) := by decide +kernel
theorem dX6_limit_14 : decode cX6_limit 14 = .ok (.invokestatic 158, 3) := by decide +kernel
theorem dX6_limit_17 : decode cX6_limit 17 = .ok (.ifCond .ne 6, 3) := by decide +kernel
theorem dX6_limit_20 : decode cX6_limit 20 = .ok (.bipush (-2), 2) := by decide +kernel
theorem dX6_limit_22 : decode cX6_limit 22 = .ok (.ireturn, 1) := by decide +kernel
theorem dX6_limit_23 : decode cX6_limit 23 = .ok (.aload_n 0, 1) := by decide +kernel
theorem dX6_limit_24 : decode cX6_limit 24 = .ok (.getfield 10, 3) := by decide +kernel
theorem dX6_limit_27 : decode cX6_limit 27 = .ok (.getfield 65, 3) := by decide +kernel
theorem dX6_limit_30 : decode cX6_limit 30 = .ok (.iload_n 1, 1) := by decide +kernel
theorem dX6_limit_31 : decode cX6_limit 31 = .ok (.aaload, 1) := by decide +kernel
theorem dX6_limit_32 : decode cX6_limit 32 = .ok (.iload_n 2, 1) := by decide +kernel
theorem dX6_limit_33 : decode cX6_limit 33 = .ok (.invokevirtual 173, 3) := by decide +kernel
theorem dX6_limit_36 : decode cX6_limit 36 = .ok (.ireturn, 1) := by decide +kernel
theorem dX6_channel_0 : decode cX6_channel 0 = .ok (.aload_n 0, 1) := by decide +kernel
theorem dX6_channel_1 : decode cX6_channel 1 = .ok (.getfield 10, 3) := by decide +kernel
theorem dX6_channel_4 : decode cX6_channel 4 = .ok (.iload_n 1, 1) := by decide +kernel
theorem dX6_channel_5 : decode cX6_channel 5 = .ok (.invokevirtual 61, 3) := by decide +kernel
theorem dX6_channel_8 : decode cX6_channel 8 = .ok (.ifCond .ne 5, 3) := by decide +kernel
theorem dX6_channel_11 : decode cX6_channel 11 = .ok (.iconst (-1), 1) := by decide +kernel
theorem dX6_channel_12 : decode cX6_channel 12 = .ok (.ireturn, 1) := by decide +kernel
theorem dX6_channel_13 : decode cX6_channel 13 = .ok (.iload_n 2, 1) := by decide +kernel
theorem dX6_channel_14 : decode cX6_channel 14 = .ok (.iconst 0, 1) := by decide +kernel
theorem dX6_channel_15 : decode cX6_channel 15 = .ok (.bipush 7, 2) := by decide +kernel
theorem dX6_channel_17 : decode cX6_channel 17 = .ok (.invokestatic 137, 3) := by decide +kernel
theorem dX6_channel_20 : decode cX6_channel 20 = .ok (.ifCond .ne 6, 3) := by decide +kernel
theorem dX6_channel_23 : decode cX6_channel 23 = .ok (.bipush (-2), 2) := by decide +kernel
theorem dX6_channel_25 : decode cX6_channel 25 = .ok (.ireturn, 1) := by decide +kernel
theorem dX6_channel_26 : decode cX6_channel 26 = .ok (.aload_n 0, 1) := by decide +kernel
theorem dX6_channel_27 : decode cX6_channel 27 = .ok (.getfield 10, 3) := by decide +kernel
theorem dX6_channel_30 : decode cX6_channel 30 = .ok (.getfield 65, 3) := by decide +kernel
theorem dX6_channel_33 : decode cX6_channel 33 = .ok (.iload_n 1, 1) := by decide +kernel
theorem dX6_channel_34 : decode cX6_channel 34 = .ok (.aaload, 1) := by decide +kernel
theorem dX6_channel_35 : decode cX6_channel 35 = .ok (.iload_n 2, 1) := by decide +kernel
theorem dX6_channel_36 : decode cX6_channel 36 = .ok (.invokevirtual 176, 3) := by decide +kernel
theorem dX6_channel_39 : decode cX6_channel 39 = .ok (.ireturn, 1) := by decide +kernel
theorem dX6_level_0 : decode cX6_level 0 = .ok (.aload_n 0, 1) := by decide +kernel
theorem dX6_level_1 : decode cX6_level 1 = .ok (.getfield 10, 3) := by decide +kernel
theorem dX6_level_4 : decode cX6_level 4 = .ok (.iload_n 2, 1) := by decide +kernel
theorem dX6_level_5 : decode cX6_level 5 = .ok (.invokevirtual 61, 3) := by decide +kernel
theorem dX6_level_8 : decode cX6_level 8 = .ok (.ifCond .ne 5, 3) := by decide +kernel
theorem dX6_level_11 : decode cX6_level 11 = .ok (.iconst (-1), 1) := by decide +kernel
theorem dX6_level_12 : decode cX6_level 12 = .ok (.ireturn, 1) := by decide +kernel
theorem dX6_level_13 : decode cX6_level 13 = .ok (.aload_n 0, 1) := by decide +kernel
theorem dX6_level_14 : decode cX6_level 14 = .ok (.aload_n 0, 1) := by decide +kernel
theorem dX6_level_15 : decode cX6_level 15 = .ok (.getfield 10, 3) := by decide +kernel
theorem dX6_level_18 : decode cX6_level 18 = .ok (.getfield 65, 3) := by decide +kernel
theorem dX6_level_21 : decode cX6_level 21 = .ok (.iload_n 2, 1) := by decide +kernel
theorem dX6_level_22 : decode cX6_level 22 = .ok (.aaload, 1) := by decide +kernel
theorem dX6_level_23 : decode cX6_level 23 = .ok (.getfield 179, 3) := by decide +kernel
theorem dX6_level_26 : decode cX6_level 26 = .ok (.iload_n 1, 1) := by decide +kernel
theorem dX6_level_27 : decode cX6_level 27 = .ok (.invokevirtual 154, 3) := by decide +kernel
theorem dX6_level_30 : decode cX6_level 30 = .ok (.ireturn, 1) := by decide +kernel
theorem dX6_averaged_0 : decode cX6_averaged 0 = .ok (.aload_n 0, 1) := by decide +kernel
theorem dX6_averaged_1 : decode cX6_averaged 1 = .ok (.getfield 10, 3) := by decide +kernel
theorem dX6_averaged_4 : decode cX6_averaged 4 = .ok (.iload_n 2, 1) := by decide +kernel
theorem dX6_averaged_5 : decode cX6_averaged 5 = .ok (.invokevirtual 61, 3) := by decide +kernel
theorem dX6_averaged_8 : decode cX6_averaged 8 = .ok (.ifCond .ne 5, 3) := by decide +kernel
theorem dX6_averaged_11 : decode cX6_averaged 11 = .ok (.iconst (-1), 1) := by decide +kernel
theorem dX6_averaged_12 : decode cX6_averaged 12 = .ok (.ireturn, 1) := by decide +kernel
theorem dX6_averaged_13 : decode cX6_averaged 13 = .ok (.aload_n 0, 1) := by decide +kernel
theorem dX6_averaged_14 : decode cX6_averaged 14 = .ok (.aload_n 0, 1) := by decide +kernel
theorem dX6_averaged_15 : decode cX6_averaged 15 = .ok (.getfield 10, 3) := by decide +kernel
theorem dX6_averaged_18 : decode cX6_averaged 18 = .ok (.getfield 65, 3) := by decide +kernel
theorem dX6_averaged_21 : decode cX6_averaged 21 = .ok (.iload_n 2, 1) := by decide +kernel
theorem dX6_averaged_22 : decode cX6_averaged 22 = .ok (.aaload, 1) := by decide +kernel
theorem dX6_averaged_23 : decode cX6_averaged 23 = .ok (.getfield 182, 3) := by decide +kernel
theorem dX6_averaged_26 : decode cX6_averaged 26 = .ok (.iload_n 1, 1) := by decide +kernel
theorem dX6_averaged_27 : decode cX6_averaged 27 = .ok (.invokevirtual 154, 3) := by decide +kernel
theorem dX6_averaged_30 : decode cX6_averaged 30 = .ok (.ireturn, 1) := by decide +kernel
theorem dX6_controlGain_0 : decode cX6_controlGain 0 = .ok (.aload_n 0, 1) := by decide +kernel
theorem dX6_controlGain_1 : decode cX6_controlGain 1 = .ok (.aload_n 0, 1) := by decide +kernel
theorem dX6_controlGain_2 : decode cX6_controlGain 2 = .ok (.getfield 10, 3) := by decide +kernel
theorem dX6_controlGain_5 : decode cX6_controlGain 5 = .ok (.getfield 185, 3) := by decide +kernel
theorem dX6_controlGain_8 : decode cX6_controlGain 8 = .ok (.iload_n 1, 1) := by decide +kernel
theorem dX6_controlGain_9 : decode cX6_controlGain 9 = .ok (.invokevirtual 154, 3) := by decide +kernel
theorem dX6_controlGain_12 : decode cX6_controlGain 12 = .ok (.ireturn, 1) := by decide +kernel
theorem dX6_driveAt_0 : decode cX6_driveAt 0 = .ok (.aload_n 0, 1) := by decide +kernel
theorem dX6_driveAt_1 : decode cX6_driveAt 1 = .ok (.aload_n 0, 1) := by decide +kernel
theorem dX6_driveAt_2 : decode cX6_driveAt 2 = .ok (.getfield 10, 3) := by decide +kernel
theorem dX6_driveAt_5 : decode cX6_driveAt 5 = .ok (.getfield 188, 3) := by decide +kernel
theorem dX6_driveAt_8 : decode cX6_driveAt 8 = .ok (.iload_n 1, 1) := by decide +kernel
theorem dX6_driveAt_9 : decode cX6_driveAt 9 = .ok (.invokevirtual 154, 3) := by decide +kernel
theorem dX6_driveAt_12 : decode cX6_driveAt 12 = .ok (.ireturn, 1) := by decide +kernel
theorem dX6_notchedBy_0 : decode cX6_notchedBy 0 = .ok (.aload_n 0, 1) := by decide +kernel
theorem dX6_notchedBy_1 : decode cX6_notchedBy 1 = .ok (.aload_n 0, 1) := by decide +kernel
theorem dX6_notchedBy_2 : decode cX6_notchedBy 2 = .ok (.getfield 10, 3) := by decide +kernel
theorem dX6_notchedBy_5 : decode cX6_notchedBy 5 = .ok (.getfield 191, 3) := by decide +kernel
theorem dX6_notchedBy_8 : decode cX6_notchedBy 8 = .ok (.iload_n 1, 1) := by decide +kernel
theorem dX6_notchedBy_9 : decode cX6_notchedBy 9 = .ok (.invokevirtual 154, 3) := by decide +kernel
theorem dX6_notchedBy_12 : decode cX6_notchedBy 12 = .ok (.ireturn, 1) := by decide +kernel
theorem dX6_resonance_0 : decode cX6_resonance 0 = .ok (.aload_n 0, 1) := by decide +kernel
theorem dX6_resonance_1 : decode cX6_resonance 1 = .ok (.getfield 10, 3) := by decide +kernel
theorem dX6_resonance_4 : decode cX6_resonance 4 = .ok (.iload_n 1, 1) := by decide +kernel
theorem dX6_resonance_5 : decode cX6_resonance 5 = .ok (.invokevirtual 61, 3) := by decide +kernel
theorem dX6_resonance_8 : decode cX6_resonance 8 = .ok (.ifCond .ne 5, 3) := by decide +kernel
theorem dX6_resonance_11 : decode cX6_resonance 11 = .ok (.iconst (-1), 1) := by decide +kernel
theorem dX6_resonance_12 : decode cX6_resonance 12 = .ok (.ireturn, 1) := by decide +kernel
theorem dX6_resonance_13 : decode cX6_resonance 13 = .ok (.iload_n 2, 1) := by decide +kernel
theorem dX6_resonance_14 : decode cX6_resonance 14 = .ok (.ifCond .ge 6, 3) := by decide +kernel
theorem dX6_resonance_17 : decode cX6_resonance 17 = .ok (.bipush (-2), 2) := by decide +kernel
theorem dX6_resonance_19 : decode cX6_resonance 19 = .ok (.ireturn, 1) := by decide +kernel
theorem dX6_resonance_20 : decode cX6_resonance 20 = .ok (.aload_n 0, 1) := by decide +kernel
theorem dX6_resonance_21 : decode cX6_resonance 21 = .ok (.getfield 10, 3) := by decide +kernel
theorem dX6_resonance_24 : decode cX6_resonance 24 = .ok (.getfield 65, 3) := by decide +kernel
theorem dX6_resonance_27 : decode cX6_resonance 27 = .ok (.iload_n 1, 1) := by decide +kernel
theorem dX6_resonance_28 : decode cX6_resonance 28 = .ok (.aaload, 1) := by decide +kernel
theorem dX6_resonance_29 : decode cX6_resonance 29 = .ok (.iload_n 2, 1) := by decide +kernel
theorem dX6_resonance_30 : decode cX6_resonance 30 = .ok (.aload_n 0, 1) := by decide +kernel
theorem dX6_resonance_31 : decode cX6_resonance 31 = .ok (.getfield 10, 3) := by decide +kernel
theorem dX6_resonance_34 : decode cX6_resonance 34 = .ok (.getfield 144, 3) := by decide +kernel
theorem dX6_resonance_37 : decode cX6_resonance 37 = .ok (.getfield 194, 3) := by decide +kernel
theorem dX6_resonance_40 : decode cX6_resonance 40 = .ok (.invokevirtual 197, 3) := by decide +kernel
theorem dX6_resonance_43 : decode cX6_resonance 43 = .ok (.ireturn, 1) := by decide +kernel
theorem dX6_total_0 : decode cX6_total 0 = .ok (.iload_n 1, 1) := by decide +kernel
theorem dX6_total_1 : decode cX6_total 1 = .ok (.iconst 0, 1) := by decide +kernel
theorem dX6_total_2 : decode cX6_total 2 = .ok (.bipush 19, 2) := by decide +kernel
theorem dX6_total_4 : decode cX6_total 4 = .ok (.invokestatic 137, 3) := by decide +kernel
theorem dX6_total_7 : decode cX6_total 7 = .ok (.ifCond .ne 6, 3) := by decide +kernel
theorem dX6_total_10 : decode cX6_total 10 = .ok (.bipush (-2), 2) := by decide +kernel
theorem dX6_total_12 : decode cX6_total 12 = .ok (.ireturn, 1) := by decide +kernel
theorem dX6_total_13 : decode cX6_total 13 = .ok (.iload_n 1, 1) := by decide +kernel
theorem dX6_total_14 : decode cX6_total 14 = .ok (.bipush 14, 2) := by decide +kernel
theorem dX6_total_16 : decode cX6_total 16 = .ok (.if_icmp .lt 16, 3) := by decide +kernel
theorem dX6_total_19 : decode cX6_total 19 = .ok (.aload_n 0, 1) := by decide +kernel
theorem dX6_total_20 : decode cX6_total 20 = .ok (.getfield 10, 3) := by decide +kernel
theorem dX6_total_23 : decode cX6_total 23 = .ok (.getfield 200, 3) := by decide +kernel
theorem dX6_total_26 : decode cX6_total 26 = .ok (.iload_n 1, 1) := by decide +kernel
theorem dX6_total_27 : decode cX6_total 27 = .ok (.bipush 14, 2) := by decide +kernel
theorem dX6_total_29 : decode cX6_total 29 = .ok (.isub, 1) := by decide +kernel
theorem dX6_total_30 : decode cX6_total 30 = .ok (.iaload, 1) := by decide +kernel
theorem dX6_total_31 : decode cX6_total 31 = .ok (.ireturn, 1) := by decide +kernel
theorem dX6_total_32 : decode cX6_total 32 = .ok (.iload_n 1, 1) := by decide +kernel
theorem dX6_total_33 : decode cX6_total 33 = .ok (.bipush 12, 2) := by decide +kernel
theorem dX6_total_35 : decode cX6_total 35 = .ok (.if_icmp .ne 11, 3) := by decide +kernel
theorem dX6_total_38 : decode cX6_total 38 = .ok (.aload_n 0, 1) := by decide +kernel
theorem dX6_total_39 : decode cX6_total 39 = .ok (.getfield 22, 3) := by decide +kernel
theorem dX6_total_42 : decode cX6_total 42 = .ok (.getfield 203, 3) := by decide +kernel
theorem dX6_total_45 : decode cX6_total 45 = .ok (.ireturn, 1) := by decide +kernel
theorem dX6_total_46 : decode cX6_total 46 = .ok (.iload_n 1, 1) := by decide +kernel
theorem dX6_total_47 : decode cX6_total 47 = .ok (.bipush 13, 2) := by decide +kernel
theorem dX6_total_49 : decode cX6_total 49 = .ok (.if_icmp .ne 11, 3) := by decide +kernel
theorem dX6_total_52 : decode cX6_total 52 = .ok (.aload_n 0, 1) := by decide +kernel
theorem dX6_total_53 : decode cX6_total 53 = .ok (.getfield 37, 3) := by decide +kernel
theorem dX6_total_56 : decode cX6_total 56 = .ok (.getfield 98, 3) := by decide +kernel
theorem dX6_total_59 : decode cX6_total 59 = .ok (.ireturn, 1) := by decide +kernel
theorem dX6_total_60 : decode cX6_total 60 = .ok (.aload_n 0, 1) := by decide +kernel
theorem dX6_total_61 : decode cX6_total 61 = .ok (.getfield 10, 3) := by decide +kernel
theorem dX6_total_64 : decode cX6_total 64 = .ok (.iload_n 1, 1) := by decide +kernel
theorem dX6_total_65 : decode cX6_total 65 = .ok (.invokevirtual 204, 3) := by decide +kernel
theorem dX6_total_68 : decode cX6_total 68 = .ok (.ireturn, 1) := by decide +kernel
theorem dX6_lookAtLine_0 : decode cX6_lookAtLine 0 = .ok (.aload_n 0, 1) := by decide +kernel
theorem dX6_lookAtLine_1 : decode cX6_lookAtLine 1 = .ok (.getfield 10, 3) := by decide +kernel
theorem dX6_lookAtLine_4 : decode cX6_lookAtLine 4 = .ok (.iload_n 2, 1) := by decide +kernel
theorem dX6_lookAtLine_5 : decode cX6_lookAtLine 5 = .ok (.invokevirtual 207, 3) := by decide +kernel
theorem dX6_lookAtLine_8 : decode cX6_lookAtLine 8 = .ok (.ifCond .eq 9, 3) := by decide +kernel
theorem dX6_lookAtLine_11 : decode cX6_lookAtLine 11 = .ok (.aload_n 1, 1) := by decide +kernel
theorem dX6_lookAtLine_12 : decode cX6_lookAtLine 12 = .ok (.iload_n 2, 1) := by decide +kernel
theorem dX6_lookAtLine_13 : decode cX6_lookAtLine 13 = .ok (.iaload, 1) := by decide +kernel
theorem dX6_lookAtLine_14 : decode cX6_lookAtLine 14 = .ok (.goto 4, 3) := by decide +kernel
theorem dX6_lookAtLine_17 : decode cX6_lookAtLine 17 = .ok (.iconst (-1), 1) := by decide +kernel
theorem dX6_lookAtLine_18 : decode cX6_lookAtLine 18 = .ok (.ireturn, 1) := by decide +kernel
theorem dX6_loopsLeft_0 : decode cX6_loopsLeft 0 = .ok (.aload_n 0, 1) := by decide +kernel
theorem dX6_loopsLeft_1 : decode cX6_loopsLeft 1 = .ok (.getfield 16, 3) := by decide +kernel
theorem dX6_loopsLeft_4 : decode cX6_loopsLeft 4 = .ok (.aload_n 0, 1) := by decide +kernel
theorem dX6_loopsLeft_5 : decode cX6_loopsLeft 5 = .ok (.getfield 10, 3) := by decide +kernel
theorem dX6_loopsLeft_8 : decode cX6_loopsLeft 8 = .ok (.invokevirtual 131, 3) := by decide +kernel
theorem dX6_loopsLeft_11 : decode cX6_loopsLeft 11 = .ok (.iconst 0, 1) := by decide +kernel
theorem dX6_loopsLeft_12 : decode cX6_loopsLeft 12 = .ok (.istore_n 1, 1) := by decide +kernel
theorem dX6_loopsLeft_13 : decode cX6_loopsLeft 13 = .ok (.iload_n 1, 1) := by decide +kernel
theorem dX6_loopsLeft_14 : decode cX6_loopsLeft 14 = .ok (.sipush 500, 3) := by decide +kernel
theorem dX6_loopsLeft_17 : decode cX6_loopsLeft 17 = .ok (.if_icmp .ge 26, 3) := by decide +kernel
theorem dX6_loopsLeft_20 : decode cX6_loopsLeft 20 = .ok (.aload_n 0, 1) := by decide +kernel
theorem dX6_loopsLeft_21 : decode cX6_loopsLeft 21 = .ok (.getfield 16, 3) := by decide +kernel
theorem dX6_loopsLeft_24 : decode cX6_loopsLeft 24 = .ok (.invokevirtual 210, 3) := by decide +kernel
theorem dX6_loopsLeft_27 : decode cX6_loopsLeft 27 = .ok (.ifCond .ne 16, 3) := by decide +kernel
theorem dX6_loopsLeft_30 : decode cX6_loopsLeft 30 = .ok (.aload_n 0, 1) := by decide +kernel
theorem dX6_loopsLeft_31 : decode cX6_loopsLeft 31 = .ok (.getfield 16, 3) := by decide +kernel
theorem dX6_loopsLeft_34 : decode cX6_loopsLeft 34 = .ok (.invokevirtual 213, 3) := by decide +kernel
theorem dX6_loopsLeft_37 : decode cX6_loopsLeft 37 = .ok (.iinc 1 1, 3) := by decide +kernel
theorem dX6_loopsLeft_40 : decode cX6_loopsLeft 40 = .ok (.goto (-27), 3) := by decide +kernel
theorem dX6_loopsLeft_43 : decode cX6_loopsLeft 43 = .ok (.aload_n 0, 1) := by decide +kernel
theorem dX6_loopsLeft_44 : decode cX6_loopsLeft 44 = .ok (.getfield 16, 3) := by decide +kernel
theorem dX6_loopsLeft_47 : decode cX6_loopsLeft 47 = .ok (.invokevirtual 210, 3) := by decide +kernel
theorem dX6_loopsLeft_50 : decode cX6_loopsLeft 50 = .ok (.ifCond .eq 7, 3) := by decide +kernel
theorem dX6_loopsLeft_53 : decode cX6_loopsLeft 53 = .ok (.iload_n 1, 1) := by decide +kernel
theorem dX6_loopsLeft_54 : decode cX6_loopsLeft 54 = .ok (.goto 5, 3) := by decide +kernel
theorem dX6_loopsLeft_57 : decode cX6_loopsLeft 57 = .ok (.bipush (-6), 2) := by decide +kernel
theorem dX6_loopsLeft_59 : decode cX6_loopsLeft 59 = .ok (.ireturn, 1) := by decide +kernel
theorem dX6_wouldAbort_0 : decode cX6_wouldAbort 0 = .ok (.iload_n 1, 1) := by decide +kernel
theorem dX6_wouldAbort_1 : decode cX6_wouldAbort 1 = .ok (.iconst 1, 1) := by decide +kernel
theorem dX6_wouldAbort_2 : decode cX6_wouldAbort 2 = .ok (.sipush 300, 3) := by decide +kernel
theorem dX6_wouldAbort_5 : decode cX6_wouldAbort 5 = .ok (.invokestatic 137, 3) := by decide +kernel
theorem dX6_wouldAbort_8 : decode cX6_wouldAbort 8 = .ok (.ifCond .ne 6, 3) := by decide +kernel
theorem dX6_wouldAbort_11 : decode cX6_wouldAbort 11 = .ok (.bipush (-2), 2) := by decide +kernel
theorem dX6_wouldAbort_13 : decode cX6_wouldAbort 13 = .ok (.ireturn, 1) := by decide +kernel
theorem dX6_wouldAbort_14 : decode cX6_wouldAbort 14 = .ok (.aload_n 0, 1) := by decide +kernel
theorem dX6_wouldAbort_15 : decode cX6_wouldAbort 15 = .ok (.getfield 10, 3) := by decide +kernel
theorem dX6_wouldAbort_18 : decode cX6_wouldAbort 18 = .ok (.invokevirtual 216, 3) := by decide +kernel
theorem dX6_wouldAbort_21 : decode cX6_wouldAbort 21 = .ok (.ifCond .ne 6, 3) := by decide +kernel
theorem dX6_wouldAbort_24 : decode cX6_wouldAbort 24 = .ok (.bipush (-6), 2) := by decide +kernel
theorem dX6_wouldAbort_26 : decode cX6_wouldAbort 26 = .ok (.ireturn, 1) := by decide +kernel
theorem dX6_wouldAbort_27 : decode cX6_wouldAbort 27 = .ok (.aload_n 0, 1) := by decide +kernel
theorem dX6_wouldAbort_28 : decode cX6_wouldAbort 28 = .ok (.getfield 16, 3) := by decide +kernel
theorem dX6_wouldAbort_31 : decode cX6_wouldAbort 31 = .ok (.aload_n 0, 1) := by decide +kernel
theorem dX6_wouldAbort_32 : decode cX6_wouldAbort 32 = .ok (.getfield 10, 3) := by decide +kernel
theorem dX6_wouldAbort_35 : decode cX6_wouldAbort 35 = .ok (.invokevirtual 131, 3) := by decide +kernel
theorem dX6_wouldAbort_38 : decode cX6_wouldAbort 38 = .ok (.iconst 0, 1) := by decide +kernel
theorem dX6_wouldAbort_39 : decode cX6_wouldAbort 39 = .ok (.istore_n 2, 1) := by decide +kernel
theorem dX6_wouldAbort_40 : decode cX6_wouldAbort 40 = .ok (.iload_n 2, 1) := by decide +kernel
theorem dX6_wouldAbort_41 : decode cX6_wouldAbort 41 = .ok (.iload_n 1, 1) := by decide +kernel
theorem dX6_wouldAbort_42 : decode cX6_wouldAbort 42 = .ok (.if_icmp .ge 26, 3) := by decide +kernel
theorem dX6_wouldAbort_45 : decode cX6_wouldAbort 45 = .ok (.aload_n 0, 1) := by decide +kernel
theorem dX6_wouldAbort_46 : decode cX6_wouldAbort 46 = .ok (.getfield 16, 3) := by decide +kernel
theorem dX6_wouldAbort_49 : decode cX6_wouldAbort 49 = .ok (.invokevirtual 216, 3) := by decide +kernel
theorem dX6_wouldAbort_52 : decode cX6_wouldAbort 52 = .ok (.ifCond .eq 16, 3) := by decide +kernel
theorem dX6_wouldAbort_55 : decode cX6_wouldAbort 55 = .ok (.aload_n 0, 1) := by decide +kernel
theorem dX6_wouldAbort_56 : decode cX6_wouldAbort 56 = .ok (.getfield 16, 3) := by decide +kernel
theorem dX6_wouldAbort_59 : decode cX6_wouldAbort 59 = .ok (.invokevirtual 213, 3) := by decide +kernel
theorem dX6_wouldAbort_62 : decode cX6_wouldAbort 62 = .ok (.iinc 2 1, 3) := by decide +kernel
theorem dX6_wouldAbort_65 : decode cX6_wouldAbort 65 = .ok (.goto (-25), 3) := by decide +kernel
theorem dX6_wouldAbort_68 : decode cX6_wouldAbort 68 = .ok (.aload_n 0, 1) := by decide +kernel
theorem dX6_wouldAbort_69 : decode cX6_wouldAbort 69 = .ok (.getfield 16, 3) := by decide +kernel
theorem dX6_wouldAbort_72 : decode cX6_wouldAbort 72 = .ok (.getfield 219, 3) := by decide +kernel
theorem dX6_wouldAbort_75 : decode cX6_wouldAbort 75 = .ok (.ireturn, 1) := by decide +kernel
theorem dX6_highest_0 : decode cX6_highest 0 = .ok (.aload_n 0, 1) := by decide +kernel
theorem dX6_highest_1 : decode cX6_highest 1 = .ok (.getfield 10, 3) := by decide +kernel
theorem dX6_highest_4 : decode cX6_highest 4 = .ok (.iload_n 1, 1) := by decide +kernel
theorem dX6_highest_5 : decode cX6_highest 5 = .ok (.invokevirtual 61, 3) := by decide +kernel
theorem dX6_highest_8 : decode cX6_highest 8 = .ok (.ifCond .ne 5, 3) := by decide +kernel
theorem dX6_highest_11 : decode cX6_highest 11 = .ok (.iconst (-1), 1) := by decide +kernel
theorem dX6_highest_12 : decode cX6_highest 12 = .ok (.ireturn, 1) := by decide +kernel
theorem dX6_highest_13 : decode cX6_highest 13 = .ok (.iload_n 2, 1) := by decide +kernel
theorem dX6_highest_14 : decode cX6_highest 14 = .ok (.iconst 1, 1) := by decide +kernel
theorem dX6_highest_15 : decode cX6_highest 15 = .ok (.sipush 300, 3) := by decide +kernel
theorem dX6_highest_18 : decode cX6_highest 18 = .ok (.invokestatic 137, 3) := by decide +kernel
theorem dX6_highest_21 : decode cX6_highest 21 = .ok (.ifCond .ne 6, 3) := by decide +kernel
theorem dX6_highest_24 : decode cX6_highest 24 = .ok (.bipush (-2), 2) := by decide +kernel
theorem dX6_highest_26 : decode cX6_highest 26 = .ok (.ireturn, 1) := by decide +kernel
theorem dX6_highest_27 : decode cX6_highest 27 = .ok (.aload_n 0, 1) := by decide +kernel
theorem dX6_highest_28 : decode cX6_highest 28 = .ok (.getfield 16, 3) := by decide +kernel
theorem dX6_highest_31 : decode cX6_highest 31 = .ok (.aload_n 0, 1) := by decide +kernel
theorem dX6_highest_32 : decode cX6_highest 32 = .ok (.getfield 10, 3) := by decide +kernel
theorem dX6_highest_35 : decode cX6_highest 35 = .ok (.invokevirtual 131, 3) := by decide +kernel
theorem dX6_highest_38 : decode cX6_highest 38 = .ok (.bipush (-6), 2) := by decide +kernel
theorem dX6_highest_40 : decode cX6_highest 40 = .ok (.istore_n 3, 1) := by decide +kernel
theorem dX6_highest_41 : decode cX6_highest 41 = .ok (.iconst 0, 1) := by decide +kernel
theorem dX6_highest_42 : decode cX6_highest 42 = .ok (.istore 4, 2) := by decide +kernel
theorem dX6_highest_44 : decode cX6_highest 44 = .ok (.iload 4, 2) := by decide +kernel
theorem dX6_highest_46 : decode cX6_highest 46 = .ok (.iload_n 2, 1) := by decide +kernel
theorem dX6_highest_47 : decode cX6_highest 47 = .ok (.if_icmp .ge 43, 3) := by decide +kernel
theorem dX6_highest_50 : decode cX6_highest 50 = .ok (.aload_n 0, 1) := by decide +kernel
theorem dX6_highest_51 : decode cX6_highest 51 = .ok (.getfield 16, 3) := by decide +kernel
theorem dX6_highest_54 : decode cX6_highest 54 = .ok (.invokevirtual 216, 3) := by decide +kernel
theorem dX6_highest_57 : decode cX6_highest 57 = .ok (.ifCond .eq 33, 3) := by decide +kernel
theorem dX6_highest_60 : decode cX6_highest 60 = .ok (.aload_n 0, 1) := by decide +kernel
theorem dX6_highest_61 : decode cX6_highest 61 = .ok (.getfield 16, 3) := by decide +kernel
theorem dX6_highest_64 : decode cX6_highest 64 = .ok (.invokevirtual 213, 3) := by decide +kernel
theorem dX6_highest_67 : decode cX6_highest 67 = .ok (.iload_n 3, 1) := by decide +kernel
theorem dX6_highest_68 : decode cX6_highest 68 = .ok (.aload_n 0, 1) := by decide +kernel
theorem dX6_highest_69 : decode cX6_highest 69 = .ok (.getfield 16, 3) := by decide +kernel
theorem dX6_highest_72 : decode cX6_highest 72 = .ok (.getfield 65, 3) := by decide +kernel
theorem dX6_highest_75 : decode cX6_highest 75 = .ok (.iload_n 1, 1) := by decide +kernel
theorem dX6_highest_76 : decode cX6_highest 76 = .ok (.aaload, 1) := by decide +kernel
theorem dX6_highest_77 : decode cX6_highest 77 = .ok (.getfield 222, 3) := by decide +kernel
theorem dX6_highest_80 : decode cX6_highest 80 = .ok (.invokestatic 225, 3) := by decide +kernel
theorem dX6_highest_83 : decode cX6_highest 83 = .ok (.istore_n 3, 1) := by decide +kernel
theorem dX6_highest_84 : decode cX6_highest 84 = .ok (.iinc 4 1, 3) := by decide +kernel
theorem dX6_highest_87 : decode cX6_highest 87 = .ok (.goto (-43), 3) := by decide +kernel
theorem dX6_highest_90 : decode cX6_highest 90 = .ok (.iload_n 3, 1) := by decide +kernel
theorem dX6_highest_91 : decode cX6_highest 91 = .ok (.ireturn, 1) := by decide +kernel
theorem dX6_isWithin_0 : decode cX6_isWithin 0 = .ok (.iload_n 0, 1) := by decide +kernel
theorem dX6_isWithin_1 : decode cX6_isWithin 1 = .ok (.iload_n 1, 1) := by decide +kernel
theorem dX6_isWithin_2 : decode cX6_isWithin 2 = .ok (.if_icmp .lt 12, 3) := by decide +kernel
theorem dX6_isWithin_5 : decode cX6_isWithin 5 = .ok (.iload_n 0, 1) := by decide +kernel
theorem dX6_isWithin_6 : decode cX6_isWithin 6 = .ok (.iload_n 2, 1) := by decide +kernel
theorem dX6_isWithin_7 : decode cX6_isWithin 7 = .ok (.if_icmp .gt 7, 3) := by decide +kernel
theorem dX6_isWithin_10 : decode cX6_isWithin 10 = .ok (.iconst 1, 1) := by decide +kernel
theorem dX6_isWithin_11 : decode cX6_isWithin 11 = .ok (.goto 4, 3) := by decide +kernel
theorem dX6_isWithin_14 : decode cX6_isWithin 14 = .ok (.iconst 0, 1) := by decide +kernel
theorem dX6_isWithin_15 : decode cX6_isWithin 15 = .ok (.ireturn, 1) := by decide +kernel
theorem dX6_isFrequency_0 : decode cX6_isFrequency 0 = .ok (.iload_n 0, 1) := by decide +kernel
theorem dX6_isFrequency_1 : decode cX6_isFrequency 1 = .ok (.iconst 1, 1) := by decide +kernel
theorem dX6_isFrequency_2 : decode cX6_isFrequency 2 = .ok (.sipush 2000, 3) := by decide +kernel
theorem dX6_isFrequency_5 : decode cX6_isFrequency 5 = .ok (.invokestatic 137, 3) := by decide +kernel
theorem dX6_isFrequency_8 : decode cX6_isFrequency 8 = .ok (.ireturn, 1) := by decide +kernel
theorem dX6_copyRow_0 : decode cX6_copyRow 0 = .ok (.aload_n 0, 1) := by decide +kernel
theorem dX6_copyRow_1 : decode cX6_copyRow 1 = .ok (.iconst 0, 1) := by decide +kernel
theorem dX6_copyRow_2 : decode cX6_copyRow 2 = .ok (.aload_n 1, 1) := by decide +kernel
theorem dX6_copyRow_3 : decode cX6_copyRow 3 = .ok (.iconst 0, 1) := by decide +kernel
theorem dX6_copyRow_4 : decode cX6_copyRow 4 = .ok (.aload_n 0, 1) := by decide +kernel
theorem dX6_copyRow_5 : decode cX6_copyRow 5 = .ok (.arraylength, 1) := by decide +kernel
theorem dX6_copyRow_6 : decode cX6_copyRow 6 = .ok (.aload_n 1, 1) := by decide +kernel
theorem dX6_copyRow_7 : decode cX6_copyRow 7 = .ok (.arraylength, 1) := by decide +kernel
theorem dX6_copyRow_8 : decode cX6_copyRow 8 = .ok (.invokestatic 230, 3) := by decide +kernel
theorem dX6_copyRow_11 : decode cX6_copyRow 11 = .ok (.invokestatic 233, 3) := by decide +kernel
theorem dX6_copyRow_14 : decode cX6_copyRow 14 = .ok (.return_, 1) := by decide +kernel
theorem dX6_measuredGain_0 : decode cX6_measuredGain 0 = .ok (.iload_n 1, 1) := by decide +kernel
theorem dX6_measuredGain_1 : decode cX6_measuredGain 1 = .ok (.ifCond .le 16, 3) := by decide +kernel
theorem dX6_measuredGain_4 : decode cX6_measuredGain 4 = .ok (.iload_n 0, 1) := by decide +kernel
theorem dX6_measuredGain_5 : decode cX6_measuredGain 5 = .ok (.i2l, 1) := by decide +kernel
theorem dX6_measuredGain_6 : decode cX6_measuredGain 6 = .ok (.ldc2_w 239, 3) := by decide +kernel
theorem dX6_measuredGain_9 : decode cX6_measuredGain 9 = .ok (.lmul, 1) := by decide +kernel
theorem dX6_measuredGain_10 : decode cX6_measuredGain 10 = .ok (.iload_n 1, 1) := by decide +kernel
theorem dX6_measuredGain_11 : decode cX6_measuredGain 11 = .ok (.i2l, 1) := by decide +kernel
theorem dX6_measuredGain_12 : decode cX6_measuredGain 12 = .ok (.ldiv, 1) := by decide +kernel
theorem dX6_measuredGain_13 : decode cX6_measuredGain 13 = .ok (.l2i, 1) := by decide +kernel
theorem dX6_measuredGain_14 : decode cX6_measuredGain 14 = .ok (.goto 4, 3) := by decide +kernel
theorem dX6_measuredGain_17 : decode cX6_measuredGain 17 = .ok (.iconst 0, 1) := by decide +kernel
theorem dX6_measuredGain_18 : decode cX6_measuredGain 18 = .ok (.ireturn, 1) := by decide +kernel
theorem dX6_averagedGain_0 : decode cX6_averagedGain 0 = .ok (.iload_n 0, 1) := by decide +kernel
theorem dX6_averagedGain_1 : decode cX6_averagedGain 1 = .ok (.bipush (-6), 2) := by decide +kernel
theorem dX6_averagedGain_3 : decode cX6_averagedGain 3 = .ok (.if_icmp .eq 7, 3) := by decide +kernel
theorem dX6_averagedGain_6 : decode cX6_averagedGain 6 = .ok (.iload_n 2, 1) := by decide +kernel
theorem dX6_averagedGain_7 : decode cX6_averagedGain 7 = .ok (.ifCond .gt 5, 3) := by decide +kernel
theorem dX6_averagedGain_10 : decode cX6_averagedGain 10 = .ok (.iload_n 1, 1) := by decide +kernel
theorem dX6_averagedGain_11 : decode cX6_averagedGain 11 = .ok (.ireturn, 1) := by decide +kernel
theorem dX6_averagedGain_12 : decode cX6_averagedGain 12 = .ok (.iload_n 0, 1) := by decide +kernel
theorem dX6_averagedGain_13 : decode cX6_averagedGain 13 = .ok (.iload_n 2, 1) := by decide +kernel
theorem dX6_averagedGain_14 : decode cX6_averagedGain 14 = .ok (.iconst 1, 1) := by decide +kernel
theorem dX6_averagedGain_15 : decode cX6_averagedGain 15 = .ok (.isub, 1) := by decide +kernel
theorem dX6_averagedGain_16 : decode cX6_averagedGain 16 = .ok (.imul, 1) := by decide +kernel
theorem dX6_averagedGain_17 : decode cX6_averagedGain 17 = .ok (.iload_n 1, 1) := by decide +kernel
theorem dX6_averagedGain_18 : decode cX6_averagedGain 18 = .ok (.iadd, 1) := by decide +kernel
theorem dX6_averagedGain_19 : decode cX6_averagedGain 19 = .ok (.iload_n 2, 1) := by decide +kernel
theorem dX6_averagedGain_20 : decode cX6_averagedGain 20 = .ok (.idiv, 1) := by decide +kernel
theorem dX6_averagedGain_21 : decode cX6_averagedGain 21 = .ok (.ireturn, 1) := by decide +kernel
end
section
theorem dX7_init_0 : decode cX7_init 0 = .ok (.aload_n 0, 1) := by decide +kernel
theorem dX7_init_1 : decode cX7_init 1 = .ok (.invokespecial 1, 3) := by decide +kernel
theorem dX7_init_4 : decode cX7_init 4 = .ok (.aload_n 0, 1) := by decide +kernel
theorem dX7_init_5 : decode cX7_init 5 = .ok (.sipush 16272, 3) := by decide +kernel
theorem dX7_init_8 : decode cX7_init 8 = .ok (.newarray .int, 2) := by decide +kernel
theorem dX7_init_10 : decode cX7_init 10 = .ok (.putfield 7, 3) := by decide +kernel
theorem dX7_init_13 : decode cX7_init 13 = .ok (.aload_n 0, 1) := by decide +kernel
theorem dX7_init_14 : decode cX7_init 14 = .ok (.iconst 2, 1) := by decide +kernel
theorem dX7_init_15 : decode cX7_init 15 = .ok (.newarray .boolean, 2) := by decide +kernel
theorem dX7_init_17 : decode cX7_init 17 = .ok (.putfield 13, 3) := by decide +kernel
theorem dX7_init_20 : decode cX7_init 20 = .ok (.aload_n 0, 1) := by decide +kernel
theorem dX7_init_21 : decode cX7_init 21 = .ok (.bipush 80, 2) := by decide +kernel
theorem dX7_init_23 : decode cX7_init 23 = .ok (.newarray .int, 2) := by decide +kernel
theorem dX7_init_25 : decode cX7_init 25 = .ok (.putfield 17, 3) := by decide +kernel
theorem dX7_init_28 : decode cX7_init 28 = .ok (.aload_n 0, 1) := by decide +kernel
theorem dX7_init_29 : decode cX7_init 29 = .ok (.bipush 6, 2) := by decide +kernel
theorem dX7_init_31 : decode cX7_init 31 = .ok (.newarray .int, 2) := by decide +kernel
theorem dX7_init_33 : decode cX7_init 33 = .ok (.putfield 20, 3) := by decide +kernel
theorem dX7_init_36 : decode cX7_init 36 = .ok (.aload_n 0, 1) := by decide +kernel
theorem dX7_init_37 : decode cX7_init 37 = .ok (.getfield 7, 3) := by decide +kernel
theorem dX7_init_40 : decode cX7_init 40 = .ok (.bipush 13, 2) := by decide +kernel
theorem dX7_init_42 : decode cX7_init 42 = .ok (.iconst 1, 1) := by decide +kernel
theorem dX7_init_43 : decode cX7_init 43 = .ok (.iastore, 1) := by decide +kernel
theorem dX7_init_44 : decode cX7_init 44 = .ok (.aload_n 0, 1) := by decide +kernel
theorem dX7_init_45 : decode cX7_init 45 = .ok (.getfield 7, 3) := by decide +kernel
theorem dX7_init_48 : decode cX7_init 48 = .ok (.bipush 14, 2) := by decide +kernel
theorem dX7_init_50 : decode cX7_init 50 = .ok (.iconst 1, 1) := by decide +kernel
theorem dX7_init_51 : decode cX7_init 51 = .ok (.iastore, 1) := by decide +kernel
theorem dX7_init_52 : decode cX7_init 52 = .ok (.aload_n 0, 1) := by decide +kernel
theorem dX7_init_53 : decode cX7_init 53 = .ok (.getfield 7, 3) := by decide +kernel
theorem dX7_init_56 : decode cX7_init 56 = .ok (.bipush 15, 2) := by decide +kernel
theorem dX7_init_58 : decode cX7_init 58 = .ok (.bipush 25, 2) := by decide +kernel
theorem dX7_init_60 : decode cX7_init 60 = .ok (.iastore, 1) := by decide +kernel
theorem dX7_init_61 : decode cX7_init 61 = .ok (.aload_n 0, 1) := by decide +kernel
theorem dX7_init_62 : decode cX7_init 62 = .ok (.getfield 7, 3) := by decide +kernel
theorem dX7_init_65 : decode cX7_init 65 = .ok (.bipush 16, 2) := by decide +kernel
theorem dX7_init_67 : decode cX7_init 67 = .ok (.bipush 50, 2) := by decide +kernel
theorem dX7_init_69 : decode cX7_init 69 = .ok (.iastore, 1) := by decide +kernel
theorem dX7_init_70 : decode cX7_init 70 = .ok (.aload_n 0, 1) := by decide +kernel
theorem dX7_init_71 : decode cX7_init 71 = .ok (.getfield 7, 3) := by decide +kernel
theorem dX7_init_74 : decode cX7_init 74 = .ok (.bipush 17, 2) := by decide +kernel
theorem dX7_init_76 : decode cX7_init 76 = .ok (.iconst 1, 1) := by decide +kernel
theorem dX7_init_77 : decode cX7_init 77 = .ok (.iastore, 1) := by decide +kernel
theorem dX7_init_78 : decode cX7_init 78 = .ok (.aload_n 0, 1) := by decide +kernel
theorem dX7_init_79 : decode cX7_init 79 = .ok (.invokevirtual 23, 3) := by decide +kernel
theorem dX7_init_82 : decode cX7_init 82 = .ok (.aload_n 0, 1) := by decide +kernel
theorem dX7_init_83 : decode cX7_init 83 = .ok (.invokevirtual 26, 3) := by decide +kernel
theorem dX7_init_86 : decode cX7_init 86 = .ok (.return_, 1) := by decide +kernel
theorem dX7_in_0 : decode cX7_in 0 = .ok (.iload_n 0, 1) := by decide +kernel
theorem dX7_in_1 : decode cX7_in 1 = .ok (.iload_n 1, 1) := by decide +kernel
theorem dX7_in_2 : decode cX7_in 2 = .ok (.if_icmp .lt 12, 3) := by decide +kernel
theorem dX7_in_5 : decode cX7_in 5 = .ok (.iload_n 0, 1) := by decide +kernel
theorem dX7_in_6 : decode cX7_in 6 = .ok (.iload_n 2, 1) := by decide +kernel
theorem dX7_in_7 : decode cX7_in 7 = .ok (.if_icmp .gt 7, 3) := by decide +kernel
theorem dX7_in_10 : decode cX7_in 10 = .ok (.iconst 1, 1) := by decide +kernel
theorem dX7_in_11 : decode cX7_in 11 = .ok (.goto 4, 3) := by decide +kernel
theorem dX7_in_14 : decode cX7_in 14 = .ok (.iconst 0, 1) := by decide +kernel
theorem dX7_in_15 : decode cX7_in 15 = .ok (.ireturn, 1) := by decide +kernel
theorem dX7_copies_0 : decode cX7_copies 0 = .ok (.iconst 0, 1) := by decide +kernel
theorem dX7_copies_1 : decode cX7_copies 1 = .ok (.istore_n 3, 1) := by decide +kernel
theorem dX7_copies_2 : decode cX7_copies 2 = .ok (.iload_n 3, 1) := by decide +kernel
theorem dX7_copies_3 : decode cX7_copies 3 = .ok (.sipush 1808, 3) := by decide +kernel
theorem dX7_copies_6 : decode cX7_copies 6 = .ok (.if_icmp .ge 25, 3) := by decide +kernel
theorem dX7_copies_9 : decode cX7_copies 9 = .ok (.aload_n 0, 1) := by decide +kernel
theorem dX7_copies_10 : decode cX7_copies 10 = .ok (.getfield 7, 3) := by decide +kernel
theorem dX7_copies_13 : decode cX7_copies 13 = .ok (.iload_n 2, 1) := by decide +kernel
theorem dX7_copies_14 : decode cX7_copies 14 = .ok (.iload_n 3, 1) := by decide +kernel
theorem dX7_copies_15 : decode cX7_copies 15 = .ok (.iadd, 1) := by decide +kernel
theorem dX7_copies_16 : decode cX7_copies 16 = .ok (.aload_n 0, 1) := by decide +kernel
theorem dX7_copies_17 : decode cX7_copies 17 = .ok (.getfield 7, 3) := by decide +kernel
theorem dX7_copies_20 : decode cX7_copies 20 = .ok (.iload_n 1, 1) := by decide +kernel
theorem dX7_copies_21 : decode cX7_copies 21 = .ok (.iload_n 3, 1) := by decide +kernel
theorem dX7_copies_22 : decode cX7_copies 22 = .ok (.iadd, 1) := by decide +kernel
theorem dX7_copies_23 : decode cX7_copies 23 = .ok (.iaload, 1) := by decide +kernel
theorem dX7_copies_24 : decode cX7_copies 24 = .ok (.iastore, 1) := by decide +kernel
theorem dX7_copies_25 : decode cX7_copies 25 = .ok (.iinc 3 1, 3) := by decide +kernel
theorem dX7_copies_28 : decode cX7_copies 28 = .ok (.goto (-26), 3) := by decide +kernel
theorem dX7_copies_31 : decode cX7_copies 31 = .ok (.return_, 1) := by decide +kernel
theorem dX7_records_0 : decode cX7_records 0 = .ok (.aload_n 0, 1) := by decide +kernel
theorem dX7_records_1 : decode cX7_records 1 = .ok (.getfield 29, 3) := by decide +kernel
theorem dX7_records_4 : decode cX7_records 4 = .ok (.iconst 5, 1) := by decide +kernel
theorem dX7_records_5 : decode cX7_records 5 = .ok (.if_icmp .ne 42, 3) := by decide +kernel
theorem dX7_records_8 : decode cX7_records 8 = .ok (.iconst 1, 1) := by decide +kernel
theorem dX7_records_9 : decode cX7_records 9 = .ok (.istore_n 1, 1) := by decide +kernel
theorem dX7_records_10 : decode cX7_records 10 = .ok (.iload_n 1, 1) := by decide +kernel
theorem dX7_records_11 : decode cX7_records 11 = .ok (.iconst 5, 1) := by decide +kernel
theorem dX7_records_12 : decode cX7_records 12 = .ok (.if_icmp .ge 25, 3) := by decide +kernel
theorem dX7_records_15 : decode cX7_records 15 = .ok (.aload_n 0, 1) := by decide +kernel
theorem dX7_records_16 : decode cX7_records 16 = .ok (.sipush 1808, 3) := by decide +kernel
theorem dX7_records_19 : decode cX7_records 19 = .ok (.iload_n 1, 1) := by decide +kernel
theorem dX7_records_20 : decode cX7_records 20 = .ok (.iconst 1, 1) := by decide +kernel
theorem dX7_records_21 : decode cX7_records 21 = .ok (.iadd, 1) := by decide +kernel
theorem dX7_records_22 : decode cX7_records 22 = .ok (.imul, 1) := by decide +kernel
theorem dX7_records_23 : decode cX7_records 23 = .ok (.sipush 1808, 3) := by decide +kernel
theorem dX7_records_26 : decode cX7_records 26 = .ok (.iload_n 1, 1) := by decide +kernel
theorem dX7_records_27 : decode cX7_records 27 = .ok (.imul, 1) := by decide +kernel
theorem dX7_records_28 : decode cX7_records 28 = .ok (.invokevirtual 33, 3) := by decide +kernel
theorem dX7_records_31 : decode cX7_records 31 = .ok (.iinc 1 1, 3) := by decide +kernel
theorem dX7_records_34 : decode cX7_records 34 = .ok (.goto (-24), 3) := by decide +kernel
theorem dX7_records_37 : decode cX7_records 37 = .ok (.aload_n 0, 1) := by decide +kernel
theorem dX7_records_38 : decode cX7_records 38 = .ok (.dup, 1) := by decide +kernel
theorem dX7_records_39 : decode cX7_records 39 = .ok (.getfield 29, 3) := by decide +kernel
theorem dX7_records_42 : decode cX7_records 42 = .ok (.iconst 1, 1) := by decide +kernel
theorem dX7_records_43 : decode cX7_records 43 = .ok (.isub, 1) := by decide +kernel
theorem dX7_records_44 : decode cX7_records 44 = .ok (.putfield 29, 3) := by decide +kernel
theorem dX7_records_47 : decode cX7_records 47 = .ok (.aload_n 0, 1) := by decide +kernel
theorem dX7_records_48 : decode cX7_records 48 = .ok (.dup, 1) := by decide +kernel
theorem dX7_records_49 : decode cX7_records 49 = .ok (.getfield 29, 3) := by decide +kernel
theorem dX7_records_52 : decode cX7_records 52 = .ok (.iconst 1, 1) := by decide +kernel
theorem dX7_records_53 : decode cX7_records 53 = .ok (.iadd, 1) := by decide +kernel
theorem dX7_records_54 : decode cX7_records 54 = .ok (.putfield 29, 3) := by decide +kernel
theorem dX7_records_57 : decode cX7_records 57 = .ok (.aload_n 0, 1) := by decide +kernel
theorem dX7_records_58 : decode cX7_records 58 = .ok (.iconst 0, 1) := by decide +kernel
theorem dX7_records_59 : decode cX7_records 59 = .ok (.sipush 1808, 3) := by decide +kernel
theorem dX7_records_62 : decode cX7_records 62 = .ok (.aload_n 0, 1) := by decide +kernel
theorem dX7_records_63 : decode cX7_records 63 = .ok (.getfield 29, 3) := by decide +kernel
theorem dX7_records_66 : decode cX7_records 66 = .ok (.imul, 1) := by decide +kernel
theorem dX7_records_67 : decode cX7_records 67 = .ok (.invokevirtual 33, 3) := by decide +kernel
theorem dX7_records_70 : decode cX7_records 70 = .ok (.return_, 1) := by decide +kernel
theorem dX7_forgets_0 : decode cX7_forgets 0 = .ok (.sipush 308, 3) := by decide +kernel
theorem dX7_forgets_3 : decode cX7_forgets 3 = .ok (.istore_n 1, 1) := by decide +kernel
theorem dX7_forgets_4 : decode cX7_forgets 4 = .ok (.iload_n 1, 1) := by decide +kernel
theorem dX7_forgets_5 : decode cX7_forgets 5 = .ok (.sipush 908, 3) := by decide +kernel
theorem dX7_forgets_8 : decode cX7_forgets 8 = .ok (.if_icmp .ge 17, 3) := by decide +kernel
theorem dX7_forgets_11 : decode cX7_forgets 11 = .ok (.aload_n 0, 1) := by decide +kernel
theorem dX7_forgets_12 : decode cX7_forgets 12 = .ok (.getfield 7, 3) := by decide +kernel
theorem dX7_forgets_15 : decode cX7_forgets 15 = .ok (.iload_n 1, 1) := by decide +kernel
theorem dX7_forgets_16 : decode cX7_forgets 16 = .ok (.bipush (-6), 2) := by decide +kernel
theorem dX7_forgets_18 : decode cX7_forgets 18 = .ok (.iastore, 1) := by decide +kernel
theorem dX7_forgets_19 : decode cX7_forgets 19 = .ok (.iinc 1 1, 3) := by decide +kernel
theorem dX7_forgets_22 : decode cX7_forgets 22 = .ok (.goto (-18), 3) := by decide +kernel
theorem dX7_forgets_25 : decode cX7_forgets 25 = .ok (.sipush 1608, 3) := by decide +kernel
theorem dX7_forgets_28 : decode cX7_forgets 28 = .ok (.istore_n 1, 1) := by decide +kernel
theorem dX7_forgets_29 : decode cX7_forgets 29 = .ok (.iload_n 1, 1) := by decide +kernel
theorem dX7_forgets_30 : decode cX7_forgets 30 = .ok (.sipush 1808, 3) := by decide +kernel
theorem dX7_forgets_33 : decode cX7_forgets 33 = .ok (.if_icmp .ge 17, 3) := by decide +kernel
theorem dX7_forgets_36 : decode cX7_forgets 36 = .ok (.aload_n 0, 1) := by decide +kernel
theorem dX7_forgets_37 : decode cX7_forgets 37 = .ok (.getfield 7, 3) := by decide +kernel
theorem dX7_forgets_40 : decode cX7_forgets 40 = .ok (.iload_n 1, 1) := by decide +kernel
theorem dX7_forgets_41 : decode cX7_forgets 41 = .ok (.bipush (-6), 2) := by decide +kernel
theorem dX7_forgets_43 : decode cX7_forgets 43 = .ok (.iastore, 1) := by decide +kernel
theorem dX7_forgets_44 : decode cX7_forgets 44 = .ok (.iinc 1 1, 3) := by decide +kernel
theorem dX7_forgets_47 : decode cX7_forgets 47 = .ok (.goto (-18), 3) := by decide +kernel
theorem dX7_forgets_50 : decode cX7_forgets 50 = .ok (.iconst 0, 1) := by decide +kernel
theorem dX7_forgets_51 : decode cX7_forgets 51 = .ok (.istore_n 1, 1) := by decide +kernel
theorem dX7_forgets_52 : decode cX7_forgets 52 = .ok (.iload_n 1, 1) := by decide +kernel
theorem dX7_forgets_53 : decode cX7_forgets 53 = .ok (.bipush 6, 2) := by decide +kernel
theorem dX7_forgets_55 : decode cX7_forgets 55 = .ok (.if_icmp .ge 31, 3) := by decide +kernel
theorem dX7_forgets_58 : decode cX7_forgets 58 = .ok (.bipush 25, 2) := by decide +kernel
theorem dX7_forgets_60 : decode cX7_forgets 60 = .ok (.istore_n 2, 1) := by decide +kernel
theorem dX7_forgets_61 : decode cX7_forgets 61 = .ok (.iload_n 2, 1) := by decide +kernel
theorem dX7_forgets_62 : decode cX7_forgets 62 = .ok (.bipush 29, 2) := by decide +kernel
theorem dX7_forgets_64 : decode cX7_forgets 64 = .ok (.if_icmp .ge 16, 3) := by decide +kernel
theorem dX7_forgets_67 : decode cX7_forgets 67 = .ok (.aload_n 0, 1) := by decide +kernel
theorem dX7_forgets_68 : decode cX7_forgets 68 = .ok (.iload_n 1, 1) := by decide +kernel
theorem dX7_forgets_69 : decode cX7_forgets 69 = .ok (.iload_n 2, 1) := by decide +kernel
theorem dX7_forgets_70 : decode cX7_forgets 70 = .ok (.iconst 0, 1) := by decide +kernel
theorem dX7_forgets_71 : decode cX7_forgets 71 = .ok (.invokevirtual 37, 3) := by decide +kernel
theorem dX7_forgets_74 : decode cX7_forgets 74 = .ok (.iinc 2 1, 3) := by decide +kernel
theorem dX7_forgets_77 : decode cX7_forgets 77 = .ok (.goto (-16), 3) := by decide +kernel
theorem dX7_forgets_80 : decode cX7_forgets 80 = .ok (.iinc 1 1, 3) := by decide +kernel
theorem dX7_forgets_83 : decode cX7_forgets 83 = .ok (.goto (-31), 3) := by decide +kernel
theorem dX7_forgets_86 : decode cX7_forgets 86 = .ok (.aload_n 0, 1) := by decide +kernel
theorem dX7_forgets_87 : decode cX7_forgets 87 = .ok (.getfield 7, 3) := by decide +kernel
theorem dX7_forgets_90 : decode cX7_forgets 90 = .ok (.bipush 6, 2) := by decide +kernel
theorem dX7_forgets_92 : decode cX7_forgets 92 = .ok (.iconst 0, 1) := by decide +kernel
theorem dX7_forgets_93 : decode cX7_forgets 93 = .ok (.iastore, 1) := by decide +kernel
theorem dX7_forgets_94 : decode cX7_forgets 94 = .ok (.aload_n 0, 1) := by decide +kernel
theorem dX7_forgets_95 : decode cX7_forgets 95 = .ok (.getfield 7, 3) := by decide +kernel
theorem dX7_forgets_98 : decode cX7_forgets 98 = .ok (.bipush 7, 2) := by decide +kernel
theorem dX7_forgets_100 : decode cX7_forgets 100 = .ok (.iconst 1, 1) := by decide +kernel
theorem dX7_forgets_101 : decode cX7_forgets 101 = .ok (.iastore, 1) := by decide +kernel
theorem dX7_forgets_102 : decode cX7_forgets 102 = .ok (.aload_n 0, 1) := by decide +kernel
theorem dX7_forgets_103 : decode cX7_forgets 103 = .ok (.getfield 7, 3) := by decide +kernel
theorem dX7_forgets_106 : decode cX7_forgets 106 = .ok (.bipush 8, 2) := by decide +kernel
theorem dX7_forgets_108 : decode cX7_forgets 108 = .ok (.iconst 0, 1) := by decide +kernel
theorem dX7_forgets_109 : decode cX7_forgets 109 = .ok (.iastore, 1) := by decide +kernel
theorem dX7_forgets_110 : decode cX7_forgets 110 = .ok (.aload_n 0, 1) := by decide +kernel
theorem dX7_forgets_111 : decode cX7_forgets 111 = .ok (.getfield 7, 3) := by decide +kernel
theorem dX7_forgets_114 : decode cX7_forgets 114 = .ok (.bipush 9, 2) := by decide +kernel
theorem dX7_forgets_116 : decode cX7_forgets 116 = .ok (.bipush (-6), 2) := by decide +kernel
theorem dX7_forgets_118 : decode cX7_forgets 118 = .ok (.iastore, 1) := by decide +kernel
theorem dX7_forgets_119 : decode cX7_forgets 119 = .ok (.aload_n 0, 1) := by decide +kernel
theorem dX7_forgets_120 : decode cX7_forgets 120 = .ok (.getfield 7, 3) := by decide +kernel
theorem dX7_forgets_123 : decode cX7_forgets 123 = .ok (.bipush 10, 2) := by decide +kernel
theorem dX7_forgets_125 : decode cX7_forgets 125 = .ok (.bipush (-6), 2) := by decide +kernel
theorem dX7_forgets_127 : decode cX7_forgets 127 = .ok (.iastore, 1) := by decide +kernel
theorem dX7_forgets_128 : decode cX7_forgets 128 = .ok (.return_, 1) := by decide +kernel
theorem dX7_forgetsGains_0 : decode cX7_forgetsGains 0 = .ok (.sipush 908, 3) := by decide +kernel
theorem dX7_forgetsGains_3 : decode cX7_forgetsGains 3 = .ok (.istore_n 1, 1) := by decide +kernel
theorem dX7_forgetsGains_4 : decode cX7_forgetsGains 4 = .ok (.iload_n 1, 1) := by decide +kernel
theorem dX7_forgetsGains_5 : decode cX7_forgetsGains 5 = .ok (.sipush 1608, 3) := by decide +kernel
theorem dX7_forgetsGains_8 : decode cX7_forgetsGains 8 = .ok (.if_icmp .ge 17, 3) := by decide +kernel
theorem dX7_forgetsGains_11 : decode cX7_forgetsGains 11 = .ok (.aload_n 0, 1) := by decide +kernel
theorem dX7_forgetsGains_12 : decode cX7_forgetsGains 12 = .ok (.getfield 7, 3) := by decide +kernel
theorem dX7_forgetsGains_15 : decode cX7_forgetsGains 15 = .ok (.iload_n 1, 1) := by decide +kernel
theorem dX7_forgetsGains_16 : decode cX7_forgetsGains 16 = .ok (.bipush (-6), 2) := by decide +kernel
theorem dX7_forgetsGains_18 : decode cX7_forgetsGains 18 = .ok (.iastore, 1) := by decide +kernel
theorem dX7_forgetsGains_19 : decode cX7_forgetsGains 19 = .ok (.iinc 1 1, 3) := by decide +kernel
theorem dX7_forgetsGains_22 : decode cX7_forgetsGains 22 = .ok (.goto (-18), 3) := by decide +kernel
theorem dX7_forgetsGains_25 : decode cX7_forgetsGains 25 = .ok (.return_, 1) := by decide +kernel
theorem dX7_ofChannel_0 : decode cX7_ofChannel 0 = .ok (.aload_n 0, 1) := by decide +kernel
theorem dX7_ofChannel_1 : decode cX7_ofChannel 1 = .ok (.getfield 7, 3) := by decide +kernel
theorem dX7_ofChannel_4 : decode cX7_ofChannel 4 = .ok (.bipush 34, 2) := by decide +kernel
theorem dX7_ofChannel_6 : decode cX7_ofChannel 6 = .ok (.bipush 29, 2) := by decide +kernel
theorem dX7_ofChannel_8 : decode cX7_ofChannel 8 = .ok (.iload_n 1, 1) := by decide +kernel
theorem dX7_ofChannel_9 : decode cX7_ofChannel 9 = .ok (.imul, 1) := by decide +kernel
theorem dX7_ofChannel_10 : decode cX7_ofChannel 10 = .ok (.iadd, 1) := by decide +kernel
theorem dX7_ofChannel_11 : decode cX7_ofChannel 11 = .ok (.iload_n 2, 1) := by decide +kernel
theorem dX7_ofChannel_12 : decode cX7_ofChannel 12 = .ok (.iadd, 1) := by decide +kernel
theorem dX7_ofChannel_13 : decode cX7_ofChannel 13 = .ok (.iaload, 1) := by decide +kernel
theorem dX7_ofChannel_14 : decode cX7_ofChannel 14 = .ok (.ireturn, 1) := by decide +kernel
theorem dX7_setChannel_0 : decode cX7_setChannel 0 = .ok (.aload_n 0, 1) := by decide +kernel
theorem dX7_setChannel_1 : decode cX7_setChannel 1 = .ok (.getfield 7, 3) := by decide +kernel
theorem dX7_setChannel_4 : decode cX7_setChannel 4 = .ok (.bipush 34, 2) := by decide +kernel
theorem dX7_setChannel_6 : decode cX7_setChannel 6 = .ok (.bipush 29, 2) := by decide +kernel
theorem dX7_setChannel_8 : decode cX7_setChannel 8 = .ok (.iload_n 1, 1) := by decide +kernel
theorem dX7_setChannel_9 : decode cX7_setChannel 9 = .ok (.imul, 1) := by decide +kernel
theorem dX7_setChannel_10 : decode cX7_setChannel 10 = .ok (.iadd, 1) := by decide +kernel
theorem dX7_setChannel_11 : decode cX7_setChannel 11 = .ok (.iload_n 2, 1) := by decide +kernel
theorem dX7_setChannel_12 : decode cX7_setChannel 12 = .ok (.iadd, 1) := by decide +kernel
theorem dX7_setChannel_13 : decode cX7_setChannel 13 = .ok (.iload_n 3, 1) := by decide +kernel
theorem dX7_setChannel_14 : decode cX7_setChannel 14 = .ok (.iastore, 1) := by decide +kernel
theorem dX7_setChannel_15 : decode cX7_setChannel 15 = .ok (.return_, 1) := by decide +kernel
theorem dX7_isLine_0 : decode cX7_isLine 0 = .ok (.iload_n 1, 1) := by decide +kernel
theorem dX7_isLine_1 : decode cX7_isLine 1 = .ok (.iconst 0, 1) := by decide +kernel
theorem dX7_isLine_2 : decode cX7_isLine 2 = .ok (.aload_n 0, 1) := by decide +kernel
theorem dX7_isLine_3 : decode cX7_isLine 3 = .ok (.getfield 7, 3) := by decide +kernel
theorem dX7_isLine_6 : decode cX7_isLine 6 = .ok (.iconst 0, 1) := by decide +kernel
theorem dX7_isLine_7 : decode cX7_isLine 7 = .ok (.iaload, 1) := by decide +kernel
theorem dX7_isLine_8 : decode cX7_isLine 8 = .ok (.iconst 1, 1) := by decide +kernel
theorem dX7_isLine_9 : decode cX7_isLine 9 = .ok (.isub, 1) := by decide +kernel
theorem dX7_isLine_10 : decode cX7_isLine 10 = .ok (.invokestatic 41, 3) := by decide +kernel
theorem dX7_isLine_13 : decode cX7_isLine 13 = .ok (.ireturn, 1) := by decide +kernel
theorem dX7_isChannel_0 : decode cX7_isChannel 0 = .ok (.iload_n 1, 1) := by decide +kernel
theorem dX7_isChannel_1 : decode cX7_isChannel 1 = .ok (.iconst 0, 1) := by decide +kernel
theorem dX7_isChannel_2 : decode cX7_isChannel 2 = .ok (.aload_n 0, 1) := by decide +kernel
theorem dX7_isChannel_3 : decode cX7_isChannel 3 = .ok (.getfield 7, 3) := by decide +kernel
theorem dX7_isChannel_6 : decode cX7_isChannel 6 = .ok (.iconst 5, 1) := by decide +kernel
theorem dX7_isChannel_7 : decode cX7_isChannel 7 = .ok (.iaload, 1) := by decide +kernel
theorem dX7_isChannel_8 : decode cX7_isChannel 8 = .ok (.iconst 1, 1) := by decide +kernel
theorem dX7_isChannel_9 : decode cX7_isChannel 9 = .ok (.isub, 1) := by decide +kernel
theorem dX7_isChannel_10 : decode cX7_isChannel 10 = .ok (.invokestatic 41, 3) := by decide +kernel
theorem dX7_isChannel_13 : decode cX7_isChannel 13 = .ok (.ireturn, 1) := by decide +kernel
theorem dX7_rests_0 : decode cX7_rests 0 = .ok (.aload_n 0, 1) := by decide +kernel
theorem dX7_rests_1 : decode cX7_rests 1 = .ok (.getfield 7, 3) := by decide +kernel
theorem dX7_rests_4 : decode cX7_rests 4 = .ok (.iconst 1, 1) := by decide +kernel
theorem dX7_rests_5 : decode cX7_rests 5 = .ok (.iaload, 1) := by decide +kernel
theorem dX7_rests_6 : decode cX7_rests 6 = .ok (.ifCond .eq 13, 3) := by decide +kernel
theorem dX7_rests_9 : decode cX7_rests 9 = .ok (.aload_n 0, 1) := by decide +kernel
theorem dX7_rests_10 : decode cX7_rests 10 = .ok (.getfield 7, 3) := by decide +kernel
theorem dX7_rests_13 : decode cX7_rests 13 = .ok (.iconst 1, 1) := by decide +kernel
theorem dX7_rests_14 : decode cX7_rests 14 = .ok (.iaload, 1) := by decide +kernel
theorem dX7_rests_15 : decode cX7_rests 15 = .ok (.iconst 4, 1) := by decide +kernel
theorem dX7_rests_16 : decode cX7_rests 16 = .ok (.if_icmp .lt 7, 3) := by decide +kernel
theorem dX7_rests_19 : decode cX7_rests 19 = .ok (.iconst 1, 1) := by decide +kernel
theorem dX7_rests_20 : decode cX7_rests 20 = .ok (.goto 4, 3) := by decide +kernel
theorem dX7_rests_23 : decode cX7_rests 23 = .ok (.iconst 0, 1) := by decide +kernel
theorem dX7_rests_24 : decode cX7_rests 24 = .ok (.ireturn, 1) := by decide +kernel
theorem dX7_setting_0 : decode cX7_setting 0 = .ok (.aload_n 0, 1) := by decide +kernel
theorem dX7_setting_1 : decode cX7_setting 1 = .ok (.getfield 7, 3) := by decide +kernel
theorem dX7_setting_4 : decode cX7_setting 4 = .ok (.bipush 12, 2) := by decide +kernel
theorem dX7_setting_6 : decode cX7_setting 6 = .ok (.iload_n 1, 1) := by decide +kernel
theorem dX7_setting_7 : decode cX7_setting 7 = .ok (.iadd, 1) := by decide +kernel
theorem dX7_setting_8 : decode cX7_setting 8 = .ok (.iaload, 1) := by decide +kernel
theorem dX7_setting_9 : decode cX7_setting 9 = .ok (.ireturn, 1) := by decide +kernel
theorem dX7_setLines_0 : decode cX7_setLines 0 = .ok (.iload_n 1, 1) := by decide +kernel
theorem dX7_setLines_1 : decode cX7_setLines 1 = .ok (.iconst 5, 1) := by decide +kernel
theorem dX7_setLines_2 : decode cX7_setLines 2 = .ok (.sipush 1000, 3) := by decide +kernel
theorem dX7_setLines_5 : decode cX7_setLines 5 = .ok (.invokestatic 41, 3) := by decide +kernel
theorem dX7_setLines_8 : decode cX7_setLines 8 = .ok (.ifCond .eq 26, 3) := by decide +kernel
theorem dX7_setLines_11 : decode cX7_setLines 11 = .ok (.iload_n 2, 1) := by decide +kernel
theorem dX7_setLines_12 : decode cX7_setLines 12 = .ok (.iload_n 1, 1) := by decide +kernel
theorem dX7_setLines_13 : decode cX7_setLines 13 = .ok (.sipush 2000, 3) := by decide +kernel
theorem dX7_setLines_16 : decode cX7_setLines 16 = .ok (.invokestatic 41, 3) := by decide +kernel
theorem dX7_setLines_19 : decode cX7_setLines 19 = .ok (.ifCond .eq 15, 3) := by decide +kernel
theorem dX7_setLines_22 : decode cX7_setLines 22 = .ok (.iload_n 3, 1) := by decide +kernel
theorem dX7_setLines_23 : decode cX7_setLines 23 = .ok (.bipush 10, 2) := by decide +kernel
theorem dX7_setLines_25 : decode cX7_setLines 25 = .ok (.sipush 1000, 3) := by decide +kernel
theorem dX7_setLines_28 : decode cX7_setLines 28 = .ok (.invokestatic 41, 3) := by decide +kernel
theorem dX7_setLines_31 : decode cX7_setLines 31 = .ok (.ifCond .ne 6, 3) := by decide +kernel
theorem dX7_setLines_34 : decode cX7_setLines 34 = .ok (.bipush (-2), 2) := by decide +kernel
theorem dX7_setLines_36 : decode cX7_setLines 36 = .ok (.ireturn, 1) := by decide +kernel
theorem dX7_setLines_37 : decode cX7_setLines 37 = .ok (.aload_n 0, 1) := by decide +kernel
theorem dX7_setLines_38 : decode cX7_setLines 38 = .ok (.invokevirtual 45, 3) := by decide +kernel
theorem dX7_setLines_41 : decode cX7_setLines 41 = .ok (.ifCond .ne 6, 3) := by decide +kernel
theorem dX7_setLines_44 : decode cX7_setLines 44 = .ok (.bipush (-3), 2) := by decide +kernel
theorem dX7_setLines_46 : decode cX7_setLines 46 = .ok (.ireturn, 1) := by decide +kernel
theorem dX7_setLines_47 : decode cX7_setLines 47 = .ok (.iconst 0, 1) := by decide +kernel
theorem dX7_setLines_48 : decode cX7_setLines 48 = .ok (.istore 4, 2) := by decide +kernel
theorem dX7_setLines_50 : decode cX7_setLines 50 = .ok (.iload_n 1, 1) := by decide +kernel
theorem dX7_setLines_51 : decode cX7_setLines 51 = .ok (.istore 5, 2) := by decide +kernel
theorem dX7_setLines_53 : decode cX7_setLines 53 = .ok (.iload 5, 2) := by decide +kernel
theorem dX7_setLines_55 : decode cX7_setLines 55 = .ok (.iload_n 2, 1) := by decide +kernel
theorem dX7_setLines_56 : decode cX7_setLines 56 = .ok (.if_icmp .gt 20, 3) := by decide +kernel
theorem dX7_setLines_59 : decode cX7_setLines 59 = .ok (.iinc 4 1, 3) := by decide +kernel
theorem dX7_setLines_62 : decode cX7_setLines 62 = .ok (.iload 5, 2) := by decide +kernel
theorem dX7_setLines_64 : decode cX7_setLines 64 = .ok (.iload 5, 2) := by decide +kernel
theorem dX7_setLines_66 : decode cX7_setLines 66 = .ok (.iload_n 3, 1) := by decide +kernel
theorem dX7_setLines_67 : decode cX7_setLines 67 = .ok (.invokestatic 49, 3) := by decide +kernel
theorem dX7_setLines_70 : decode cX7_setLines 70 = .ok (.iadd, 1) := by decide +kernel
theorem dX7_setLines_71 : decode cX7_setLines 71 = .ok (.istore 5, 2) := by decide +kernel
theorem dX7_setLines_73 : decode cX7_setLines 73 = .ok (.goto (-20), 3) := by decide +kernel
theorem dX7_setLines_76 : decode cX7_setLines 76 = .ok (.iload 4, 2) := by decide +kernel
theorem dX7_setLines_78 : decode cX7_setLines 78 = .ok (.bipush 100, 2) := by decide +kernel
theorem dX7_setLines_80 : decode cX7_setLines 80 = .ok (.if_icmp .le 6, 3) := by decide +kernel
theorem dX7_setLines_83 : decode cX7_setLines 83 = .ok (.bipush (-4), 2) := by decide +kernel
theorem dX7_setLines_85 : decode cX7_setLines 85 = .ok (.ireturn, 1) := by decide +kernel
theorem dX7_setLines_86 : decode cX7_setLines 86 = .ok (.aload_n 0, 1) := by decide +kernel
theorem dX7_setLines_87 : decode cX7_setLines 87 = .ok (.invokevirtual 53, 3) := by decide +kernel
theorem dX7_setLines_90 : decode cX7_setLines 90 = .ok (.iload_n 1, 1) := by decide +kernel
theorem dX7_setLines_91 : decode cX7_setLines 91 = .ok (.istore 5, 2) := by decide +kernel
theorem dX7_setLines_93 : decode cX7_setLines 93 = .ok (.iconst 0, 1) := by decide +kernel
theorem dX7_setLines_94 : decode cX7_setLines 94 = .ok (.istore 6, 2) := by decide +kernel
theorem dX7_setLines_96 : decode cX7_setLines 96 = .ok (.iload 6, 2) := by decide +kernel
theorem dX7_setLines_98 : decode cX7_setLines 98 = .ok (.iload 4, 2) := by decide +kernel
theorem dX7_setLines_100 : decode cX7_setLines 100 = .ok (.if_icmp .ge 33, 3) := by decide +kernel
theorem dX7_setLines_103 : decode cX7_setLines 103 = .ok (.aload_n 0, 1) := by decide +kernel
theorem dX7_setLines_104 : decode cX7_setLines 104 = .ok (.getfield 7, 3) := by decide +kernel
theorem dX7_setLines_107 : decode cX7_setLines 107 = .ok (.sipush 208, 3) := by decide +kernel
theorem dX7_setLines_110 : decode cX7_setLines 110 = .ok (.iload 6, 2) := by decide +kernel
theorem dX7_setLines_112 : decode cX7_setLines 112 = .ok (.iadd, 1) := by decide +kernel
theorem dX7_setLines_113 : decode cX7_setLines 113 = .ok (.iload 5, 2) := by decide +kernel
theorem dX7_setLines_115 : decode cX7_setLines 115 = .ok (.iastore, 1) := by decide +kernel
theorem dX7_setLines_116 : decode cX7_setLines 116 = .ok (.iload 5, 2) := by decide +kernel
theorem dX7_setLines_118 : decode cX7_setLines 118 = .ok (.iload 5, 2) := by decide +kernel
theorem dX7_setLines_120 : decode cX7_setLines 120 = .ok (.iload_n 3, 1) := by decide +kernel
theorem dX7_setLines_121 : decode cX7_setLines 121 = .ok (.invokestatic 49, 3) := by decide +kernel
theorem dX7_setLines_124 : decode cX7_setLines 124 = .ok (.iadd, 1) := by decide +kernel
theorem dX7_setLines_125 : decode cX7_setLines 125 = .ok (.istore 5, 2) := by decide +kernel
theorem dX7_setLines_127 : decode cX7_setLines 127 = .ok (.iinc 6 1, 3) := by decide +kernel
theorem dX7_setLines_130 : decode cX7_setLines 130 = .ok (.goto (-34), 3) := by decide +kernel
theorem dX7_setLines_133 : decode cX7_setLines 133 = .ok (.aload_n 0, 1) := by decide +kernel
theorem dX7_setLines_134 : decode cX7_setLines 134 = .ok (.getfield 7, 3) := by decide +kernel
theorem dX7_setLines_137 : decode cX7_setLines 137 = .ok (.iconst 0, 1) := by decide +kernel
theorem dX7_setLines_138 : decode cX7_setLines 138 = .ok (.iload 4, 2) := by decide +kernel
theorem dX7_setLines_140 : decode cX7_setLines 140 = .ok (.iastore, 1) := by decide +kernel
theorem dX7_setLines_141 : decode cX7_setLines 141 = .ok (.aload_n 0, 1) := by decide +kernel
theorem dX7_setLines_142 : decode cX7_setLines 142 = .ok (.getfield 7, 3) := by decide +kernel
theorem dX7_setLines_145 : decode cX7_setLines 145 = .ok (.iconst 1, 1) := by decide +kernel
theorem dX7_setLines_146 : decode cX7_setLines 146 = .ok (.iconst 0, 1) := by decide +kernel
theorem dX7_setLines_147 : decode cX7_setLines 147 = .ok (.iastore, 1) := by decide +kernel
theorem dX7_setLines_148 : decode cX7_setLines 148 = .ok (.aload_n 0, 1) := by decide +kernel
theorem dX7_setLines_149 : decode cX7_setLines 149 = .ok (.getfield 7, 3) := by decide +kernel
theorem dX7_setLines_152 : decode cX7_setLines 152 = .ok (.iconst 2, 1) := by decide +kernel
theorem dX7_setLines_153 : decode cX7_setLines 153 = .ok (.iconst 0, 1) := by decide +kernel
theorem dX7_setLines_154 : decode cX7_setLines 154 = .ok (.iastore, 1) := by decide +kernel
theorem dX7_setLines_155 : decode cX7_setLines 155 = .ok (.aload_n 0, 1) := by decide +kernel
theorem dX7_setLines_156 : decode cX7_setLines 156 = .ok (.getfield 7, 3) := by decide +kernel
theorem dX7_setLines_159 : decode cX7_setLines 159 = .ok (.iconst 3, 1) := by decide +kernel
theorem dX7_setLines_160 : decode cX7_setLines 160 = .ok (.iconst 0, 1) := by decide +kernel
theorem dX7_setLines_161 : decode cX7_setLines 161 = .ok (.iastore, 1) := by decide +kernel
theorem dX7_setLines_162 : decode cX7_setLines 162 = .ok (.aload_n 0, 1) := by decide +kernel
theorem dX7_setLines_163 : decode cX7_setLines 163 = .ok (.invokevirtual 23, 3) := by decide +kernel
theorem dX7_setLines_166 : decode cX7_setLines 166 = .ok (.aload_n 0, 1) := by decide +kernel
theorem dX7_setLines_167 : decode cX7_setLines 167 = .ok (.invokevirtual 26, 3) := by decide +kernel
theorem dX7_setLines_170 : decode cX7_setLines 170 = .ok (.iload 4, 2) := by decide +kernel
theorem dX7_setLines_172 : decode cX7_setLines 172 = .ok (.ireturn, 1) := by decide +kernel
theorem dX7_next_0 : decode cX7_next 0 = .ok (.iload_n 0, 1) := by decide +kernel
theorem dX7_next_1 : decode cX7_next 1 = .ok (.iload_n 1, 1) := by decide +kernel
theorem dX7_next_2 : decode cX7_next 2 = .ok (.imul, 1) := by decide +kernel
theorem dX7_next_3 : decode cX7_next 3 = .ok (.sipush 1000, 3) := by decide +kernel
theorem dX7_next_6 : decode cX7_next 6 = .ok (.idiv, 1) := by decide +kernel
theorem dX7_next_7 : decode cX7_next 7 = .ok (.istore_n 2, 1) := by decide +kernel
theorem dX7_next_8 : decode cX7_next 8 = .ok (.iload_n 2, 1) := by decide +kernel
theorem dX7_next_9 : decode cX7_next 9 = .ok (.iconst 1, 1) := by decide +kernel
theorem dX7_next_10 : decode cX7_next 10 = .ok (.if_icmp .ge 7, 3) := by decide +kernel
theorem dX7_next_13 : decode cX7_next 13 = .ok (.iconst 1, 1) := by decide +kernel
theorem dX7_next_14 : decode cX7_next 14 = .ok (.goto 4, 3) := by decide +kernel
theorem dX7_next_17 : decode cX7_next 17 = .ok (.iload_n 2, 1) := by decide +kernel
theorem dX7_next_18 : decode cX7_next 18 = .ok (.ireturn, 1) := by decide +kernel
theorem dX7_setPoint_0 : decode cX7_setPoint 0 = .ok (.iload_n 1, 1) := by decide +kernel
theorem dX7_setPoint_1 : decode cX7_setPoint 1 = .ok (.iconst 1, 1) := by decide +kernel
theorem dX7_setPoint_2 : decode cX7_setPoint 2 = .ok (.sipush 2000, 3) := by decide +kernel
theorem dX7_setPoint_5 : decode cX7_setPoint 5 = .ok (.invokestatic 41, 3) := by decide +kernel
theorem dX7_setPoint_8 : decode cX7_setPoint 8 = .ok (.ifCond .eq 13, 3) := by decide +kernel
theorem dX7_setPoint_11 : decode cX7_setPoint 11 = .ok (.iload_n 2, 1) := by decide +kernel
theorem dX7_setPoint_12 : decode cX7_setPoint 12 = .ok (.iconst 1, 1) := by decide +kernel
theorem dX7_setPoint_13 : decode cX7_setPoint 13 = .ok (.ldc 56, 2) := by decide +kernel
theorem dX7_setPoint_15 : decode cX7_setPoint 15 = .ok (.invokestatic 41, 3) := by decide +kernel
theorem dX7_setPoint_18 : decode cX7_setPoint 18 = .ok (.ifCond .ne 6, 3) := by decide +kernel
theorem dX7_setPoint_21 : decode cX7_setPoint 21 = .ok (.bipush (-2), 2) := by decide +kernel
theorem dX7_setPoint_23 : decode cX7_setPoint 23 = .ok (.ireturn, 1) := by decide +kernel
theorem dX7_setPoint_24 : decode cX7_setPoint 24 = .ok (.aload_n 0, 1) := by decide +kernel
theorem dX7_setPoint_25 : decode cX7_setPoint 25 = .ok (.invokevirtual 45, 3) := by decide +kernel
theorem dX7_setPoint_28 : decode cX7_setPoint 28 = .ok (.ifCond .ne 6, 3) := by decide +kernel
theorem dX7_setPoint_31 : decode cX7_setPoint 31 = .ok (.bipush (-3), 2) := by decide +kernel
theorem dX7_setPoint_33 : decode cX7_setPoint 33 = .ok (.ireturn, 1) := by decide +kernel
theorem dX7_setPoint_34 : decode cX7_setPoint 34 = .ok (.iconst 0, 1) := by decide +kernel
theorem dX7_setPoint_35 : decode cX7_setPoint 35 = .ok (.istore_n 3, 1) := by decide +kernel
theorem dX7_setPoint_36 : decode cX7_setPoint 36 = .ok (.iload_n 3, 1) := by decide +kernel
theorem dX7_setPoint_37 : decode cX7_setPoint 37 = .ok (.aload_n 0, 1) := by decide +kernel
theorem dX7_setPoint_38 : decode cX7_setPoint 38 = .ok (.getfield 7, 3) := by decide +kernel
theorem dX7_setPoint_41 : decode cX7_setPoint 41 = .ok (.iconst 4, 1) := by decide +kernel
theorem dX7_setPoint_42 : decode cX7_setPoint 42 = .ok (.iaload, 1) := by decide +kernel
theorem dX7_setPoint_43 : decode cX7_setPoint 43 = .ok (.if_icmp .ge 24, 3) := by decide +kernel
theorem dX7_setPoint_46 : decode cX7_setPoint 46 = .ok (.aload_n 0, 1) := by decide +kernel
theorem dX7_setPoint_47 : decode cX7_setPoint 47 = .ok (.getfield 7, 3) := by decide +kernel
theorem dX7_setPoint_50 : decode cX7_setPoint 50 = .ok (.bipush 18, 2) := by decide +kernel
theorem dX7_setPoint_52 : decode cX7_setPoint 52 = .ok (.iconst 2, 1) := by decide +kernel
theorem dX7_setPoint_53 : decode cX7_setPoint 53 = .ok (.iload_n 3, 1) := by decide +kernel
theorem dX7_setPoint_54 : decode cX7_setPoint 54 = .ok (.imul, 1) := by decide +kernel
theorem dX7_setPoint_55 : decode cX7_setPoint 55 = .ok (.iadd, 1) := by decide +kernel
theorem dX7_setPoint_56 : decode cX7_setPoint 56 = .ok (.iaload, 1) := by decide +kernel
theorem dX7_setPoint_57 : decode cX7_setPoint 57 = .ok (.iload_n 1, 1) := by decide +kernel
theorem dX7_setPoint_58 : decode cX7_setPoint 58 = .ok (.if_icmp .eq 9, 3) := by decide +kernel
theorem dX7_setPoint_61 : decode cX7_setPoint 61 = .ok (.iinc 3 1, 3) := by decide +kernel
theorem dX7_setPoint_64 : decode cX7_setPoint 64 = .ok (.goto (-28), 3) := by decide +kernel
theorem dX7_setPoint_67 : decode cX7_setPoint 67 = .ok (.iload_n 3, 1) := by decide +kernel
theorem dX7_setPoint_68 : decode cX7_setPoint 68 = .ok (.bipush 8, 2) := by decide +kernel
theorem dX7_setPoint_70 : decode cX7_setPoint 70 = .ok (.if_icmp .ne 6, 3) := by decide +kernel
theorem dX7_setPoint_73 : decode cX7_setPoint 73 = .ok (.bipush (-4), 2) := by decide +kernel
theorem dX7_setPoint_75 : decode cX7_setPoint 75 = .ok (.ireturn, 1) := by decide +kernel
theorem dX7_setPoint_76 : decode cX7_setPoint 76 = .ok (.aload_n 0, 1) := by decide +kernel
theorem dX7_setPoint_77 : decode cX7_setPoint 77 = .ok (.invokevirtual 53, 3) := by decide +kernel
theorem dX7_setPoint_80 : decode cX7_setPoint 80 = .ok (.aload_n 0, 1) := by decide +kernel
theorem dX7_setPoint_81 : decode cX7_setPoint 81 = .ok (.getfield 7, 3) := by decide +kernel
theorem dX7_setPoint_84 : decode cX7_setPoint 84 = .ok (.bipush 18, 2) := by decide +kernel
theorem dX7_setPoint_86 : decode cX7_setPoint 86 = .ok (.iconst 2, 1) := by decide +kernel
theorem dX7_setPoint_87 : decode cX7_setPoint 87 = .ok (.iload_n 3, 1) := by decide +kernel
theorem dX7_setPoint_88 : decode cX7_setPoint 88 = .ok (.imul, 1) := by decide +kernel
theorem dX7_setPoint_89 : decode cX7_setPoint 89 = .ok (.iadd, 1) := by decide +kernel
theorem dX7_setPoint_90 : decode cX7_setPoint 90 = .ok (.iload_n 1, 1) := by decide +kernel
theorem dX7_setPoint_91 : decode cX7_setPoint 91 = .ok (.iastore, 1) := by decide +kernel
theorem dX7_setPoint_92 : decode cX7_setPoint 92 = .ok (.aload_n 0, 1) := by decide +kernel
theorem dX7_setPoint_93 : decode cX7_setPoint 93 = .ok (.getfield 7, 3) := by decide +kernel
theorem dX7_setPoint_96 : decode cX7_setPoint 96 = .ok (.bipush 18, 2) := by decide +kernel
theorem dX7_setPoint_98 : decode cX7_setPoint 98 = .ok (.iconst 2, 1) := by decide +kernel
theorem dX7_setPoint_99 : decode cX7_setPoint 99 = .ok (.iload_n 3, 1) := by decide +kernel
theorem dX7_setPoint_100 : decode cX7_setPoint 100 = .ok (.imul, 1) := by decide +kernel
theorem dX7_setPoint_101 : decode cX7_setPoint 101 = .ok (.iadd, 1) := by decide +kernel
theorem dX7_setPoint_102 : decode cX7_setPoint 102 = .ok (.iconst 1, 1) := by decide +kernel
theorem dX7_setPoint_103 : decode cX7_setPoint 103 = .ok (.iadd, 1) := by decide +kernel
theorem dX7_setPoint_104 : decode cX7_setPoint 104 = .ok (.iload_n 2, 1) := by decide +kernel
theorem dX7_setPoint_105 : decode cX7_setPoint 105 = .ok (.iastore, 1) := by decide +kernel
theorem dX7_setPoint_106 : decode cX7_setPoint 106 = .ok (.aload_n 0, 1) := by decide +kernel
theorem dX7_setPoint_107 : decode cX7_setPoint 107 = .ok (.getfield 7, 3) := by decide +kernel
theorem dX7_setPoint_110 : decode cX7_setPoint 110 = .ok (.iconst 4, 1) := by decide +kernel
theorem dX7_setPoint_111 : decode cX7_setPoint 111 = .ok (.dup2, 1) := by decide +kernel
theorem dX7_setPoint_112 : decode cX7_setPoint 112 = .ok (.iaload, 1) := by decide +kernel
theorem dX7_setPoint_113 : decode cX7_setPoint 113 = .ok (.iload_n 3, 1) := by decide +kernel
theorem dX7_setPoint_114 : decode cX7_setPoint 114 = .ok (.aload_n 0, 1) := by decide +kernel
theorem dX7_setPoint_115 : decode cX7_setPoint 115 = .ok (.getfield 7, 3) := by decide +kernel
theorem dX7_setPoint_118 : decode cX7_setPoint 118 = .ok (.iconst 4, 1) := by decide +kernel
theorem dX7_setPoint_119 : decode cX7_setPoint 119 = .ok (.iaload, 1) := by decide +kernel
theorem dX7_setPoint_120 : decode cX7_setPoint 120 = .ok (.if_icmp .ne 7, 3) := by decide +kernel
theorem dX7_setPoint_123 : decode cX7_setPoint 123 = .ok (.iconst 1, 1) := by decide +kernel
theorem dX7_setPoint_124 : decode cX7_setPoint 124 = .ok (.goto 4, 3) := by decide +kernel
theorem dX7_setPoint_127 : decode cX7_setPoint 127 = .ok (.iconst 0, 1) := by decide +kernel
theorem dX7_setPoint_128 : decode cX7_setPoint 128 = .ok (.iadd, 1) := by decide +kernel
theorem dX7_setPoint_129 : decode cX7_setPoint 129 = .ok (.iastore, 1) := by decide +kernel
theorem dX7_setPoint_130 : decode cX7_setPoint 130 = .ok (.aload_n 0, 1) := by decide +kernel
theorem dX7_setPoint_131 : decode cX7_setPoint 131 = .ok (.getfield 7, 3) := by decide +kernel
theorem dX7_setPoint_134 : decode cX7_setPoint 134 = .ok (.iconst 4, 1) := by decide +kernel
theorem dX7_setPoint_135 : decode cX7_setPoint 135 = .ok (.iaload, 1) := by decide +kernel
theorem dX7_setPoint_136 : decode cX7_setPoint 136 = .ok (.ireturn, 1) := by decide +kernel
theorem dX7_addChannel_0 : decode cX7_addChannel 0 = .ok (.iload_n 2, 1) := by decide +kernel
theorem dX7_addChannel_1 : decode cX7_addChannel 1 = .ok (.iconst 0, 1) := by decide +kernel
theorem dX7_addChannel_2 : decode cX7_addChannel 2 = .ok (.sipush 5000, 3) := by decide +kernel
theorem dX7_addChannel_5 : decode cX7_addChannel 5 = .ok (.invokestatic 41, 3) := by decide +kernel
theorem dX7_addChannel_8 : decode cX7_addChannel 8 = .ok (.ifCond .eq 13, 3) := by decide +kernel
theorem dX7_addChannel_11 : decode cX7_addChannel 11 = .ok (.iload_n 3, 1) := by decide +kernel
theorem dX7_addChannel_12 : decode cX7_addChannel 12 = .ok (.iconst 1, 1) := by decide +kernel
theorem dX7_addChannel_13 : decode cX7_addChannel 13 = .ok (.ldc 57, 2) := by decide +kernel
theorem dX7_addChannel_15 : decode cX7_addChannel 15 = .ok (.invokestatic 41, 3) := by decide +kernel
theorem dX7_addChannel_18 : decode cX7_addChannel 18 = .ok (.ifCond .ne 6, 3) := by decide +kernel
theorem dX7_addChannel_21 : decode cX7_addChannel 21 = .ok (.bipush (-2), 2) := by decide +kernel
theorem dX7_addChannel_23 : decode cX7_addChannel 23 = .ok (.ireturn, 1) := by decide +kernel
theorem dX7_addChannel_24 : decode cX7_addChannel 24 = .ok (.aload_n 0, 1) := by decide +kernel
theorem dX7_addChannel_25 : decode cX7_addChannel 25 = .ok (.invokevirtual 45, 3) := by decide +kernel
theorem dX7_addChannel_28 : decode cX7_addChannel 28 = .ok (.ifCond .ne 6, 3) := by decide +kernel
theorem dX7_addChannel_31 : decode cX7_addChannel 31 = .ok (.bipush (-3), 2) := by decide +kernel
theorem dX7_addChannel_33 : decode cX7_addChannel 33 = .ok (.ireturn, 1) := by decide +kernel
theorem dX7_addChannel_34 : decode cX7_addChannel 34 = .ok (.aload_n 0, 1) := by decide +kernel
theorem dX7_addChannel_35 : decode cX7_addChannel 35 = .ok (.getfield 7, 3) := by decide +kernel
theorem dX7_addChannel_38 : decode cX7_addChannel 38 = .ok (.iconst 5, 1) := by decide +kernel
theorem dX7_addChannel_39 : decode cX7_addChannel 39 = .ok (.iaload, 1) := by decide +kernel
theorem dX7_addChannel_40 : decode cX7_addChannel 40 = .ok (.bipush 6, 2) := by decide +kernel
theorem dX7_addChannel_42 : decode cX7_addChannel 42 = .ok (.if_icmp .ne 6, 3) := by decide +kernel
theorem dX7_addChannel_45 : decode cX7_addChannel 45 = .ok (.bipush (-4), 2) := by decide +kernel
theorem dX7_addChannel_47 : decode cX7_addChannel 47 = .ok (.ireturn, 1) := by decide +kernel
theorem dX7_addChannel_48 : decode cX7_addChannel 48 = .ok (.aload_n 0, 1) := by decide +kernel
theorem dX7_addChannel_49 : decode cX7_addChannel 49 = .ok (.invokevirtual 53, 3) := by decide +kernel
theorem dX7_addChannel_52 : decode cX7_addChannel 52 = .ok (.aload_n 0, 1) := by decide +kernel
theorem dX7_addChannel_53 : decode cX7_addChannel 53 = .ok (.getfield 7, 3) := by decide +kernel
theorem dX7_addChannel_56 : decode cX7_addChannel 56 = .ok (.iconst 5, 1) := by decide +kernel
theorem dX7_addChannel_57 : decode cX7_addChannel 57 = .ok (.iaload, 1) := by decide +kernel
theorem dX7_addChannel_58 : decode cX7_addChannel 58 = .ok (.istore 4, 2) := by decide +kernel
theorem dX7_addChannel_60 : decode cX7_addChannel 60 = .ok (.aload_n 0, 1) := by decide +kernel
theorem dX7_addChannel_61 : decode cX7_addChannel 61 = .ok (.getfield 7, 3) := by decide +kernel
theorem dX7_addChannel_64 : decode cX7_addChannel 64 = .ok (.iconst 5, 1) := by decide +kernel
theorem dX7_addChannel_65 : decode cX7_addChannel 65 = .ok (.dup2, 1) := by decide +kernel
theorem dX7_addChannel_66 : decode cX7_addChannel 66 = .ok (.iaload, 1) := by decide +kernel
theorem dX7_addChannel_67 : decode cX7_addChannel 67 = .ok (.iconst 1, 1) := by decide +kernel
theorem dX7_addChannel_68 : decode cX7_addChannel 68 = .ok (.iadd, 1) := by decide +kernel
theorem dX7_addChannel_69 : decode cX7_addChannel 69 = .ok (.iastore, 1) := by decide +kernel
theorem dX7_addChannel_70 : decode cX7_addChannel 70 = .ok (.aload_n 0, 1) := by decide +kernel
theorem dX7_addChannel_71 : decode cX7_addChannel 71 = .ok (.iload 4, 2) := by decide +kernel
theorem dX7_addChannel_73 : decode cX7_addChannel 73 = .ok (.iconst 0, 1) := by decide +kernel
theorem dX7_addChannel_74 : decode cX7_addChannel 74 = .ok (.iload_n 1, 1) := by decide +kernel
theorem dX7_addChannel_75 : decode cX7_addChannel 75 = .ok (.ifCond .eq 7, 3) := by decide +kernel
theorem dX7_addChannel_78 : decode cX7_addChannel 78 = .ok (.iconst 1, 1) := by decide +kernel
theorem dX7_addChannel_79 : decode cX7_addChannel 79 = .ok (.goto 4, 3) := by decide +kernel
theorem dX7_addChannel_82 : decode cX7_addChannel 82 = .ok (.iconst 0, 1) := by decide +kernel
theorem dX7_addChannel_83 : decode cX7_addChannel 83 = .ok (.invokevirtual 37, 3) := by decide +kernel
theorem dX7_addChannel_86 : decode cX7_addChannel 86 = .ok (.aload_n 0, 1) := by decide +kernel
theorem dX7_addChannel_87 : decode cX7_addChannel 87 = .ok (.iload 4, 2) := by decide +kernel
theorem dX7_addChannel_89 : decode cX7_addChannel 89 = .ok (.iconst 1, 1) := by decide +kernel
theorem dX7_addChannel_90 : decode cX7_addChannel 90 = .ok (.iload_n 2, 1) := by decide +kernel
theorem dX7_addChannel_91 : decode cX7_addChannel 91 = .ok (.invokevirtual 37, 3) := by decide +kernel
theorem dX7_addChannel_94 : decode cX7_addChannel 94 = .ok (.aload_n 0, 1) := by decide +kernel
theorem dX7_addChannel_95 : decode cX7_addChannel 95 = .ok (.iload 4, 2) := by decide +kernel
theorem dX7_addChannel_97 : decode cX7_addChannel 97 = .ok (.iconst 2, 1) := by decide +kernel
theorem dX7_addChannel_98 : decode cX7_addChannel 98 = .ok (.iload_n 3, 1) := by decide +kernel
theorem dX7_addChannel_99 : decode cX7_addChannel 99 = .ok (.invokevirtual 37, 3) := by decide +kernel
theorem dX7_addChannel_102 : decode cX7_addChannel 102 = .ok (.iconst 0, 1) := by decide +kernel
theorem dX7_addChannel_103 : decode cX7_addChannel 103 = .ok (.istore 5, 2) := by decide +kernel
theorem dX7_addChannel_105 : decode cX7_addChannel 105 = .ok (.iload 5, 2) := by decide +kernel
theorem dX7_addChannel_107 : decode cX7_addChannel 107 = .ok (.iconst 3, 1) := by decide +kernel
theorem dX7_addChannel_108 : decode cX7_addChannel 108 = .ok (.if_icmp .ge 37, 3) := by decide +kernel
theorem dX7_addChannel_111 : decode cX7_addChannel 111 = .ok (.aload_n 0, 1) := by decide +kernel
theorem dX7_addChannel_112 : decode cX7_addChannel 112 = .ok (.iload 4, 2) := by decide +kernel
theorem dX7_addChannel_114 : decode cX7_addChannel 114 = .ok (.iconst 3, 1) := by decide +kernel
theorem dX7_addChannel_115 : decode cX7_addChannel 115 = .ok (.iconst 3, 1) := by decide +kernel
theorem dX7_addChannel_116 : decode cX7_addChannel 116 = .ok (.iload 5, 2) := by decide +kernel
theorem dX7_addChannel_118 : decode cX7_addChannel 118 = .ok (.imul, 1) := by decide +kernel
theorem dX7_addChannel_119 : decode cX7_addChannel 119 = .ok (.iadd, 1) := by decide +kernel
theorem dX7_addChannel_120 : decode cX7_addChannel 120 = .ok (.iconst 1, 1) := by decide +kernel
theorem dX7_addChannel_121 : decode cX7_addChannel 121 = .ok (.invokevirtual 37, 3) := by decide +kernel
theorem dX7_addChannel_124 : decode cX7_addChannel 124 = .ok (.aload_n 0, 1) := by decide +kernel
theorem dX7_addChannel_125 : decode cX7_addChannel 125 = .ok (.iload 4, 2) := by decide +kernel
theorem dX7_addChannel_127 : decode cX7_addChannel 127 = .ok (.iconst 3, 1) := by decide +kernel
theorem dX7_addChannel_128 : decode cX7_addChannel 128 = .ok (.iconst 3, 1) := by decide +kernel
theorem dX7_addChannel_129 : decode cX7_addChannel 129 = .ok (.iload 5, 2) := by decide +kernel
theorem dX7_addChannel_131 : decode cX7_addChannel 131 = .ok (.imul, 1) := by decide +kernel
theorem dX7_addChannel_132 : decode cX7_addChannel 132 = .ok (.iadd, 1) := by decide +kernel
theorem dX7_addChannel_133 : decode cX7_addChannel 133 = .ok (.iconst 1, 1) := by decide +kernel
theorem dX7_addChannel_134 : decode cX7_addChannel 134 = .ok (.iadd, 1) := by decide +kernel
theorem dX7_addChannel_135 : decode cX7_addChannel 135 = .ok (.iconst 1, 1) := by decide +kernel
theorem dX7_addChannel_136 : decode cX7_addChannel 136 = .ok (.invokevirtual 37, 3) := by decide +kernel
theorem dX7_addChannel_139 : decode cX7_addChannel 139 = .ok (.iinc 5 1, 3) := by decide +kernel
theorem dX7_addChannel_142 : decode cX7_addChannel 142 = .ok (.goto (-37), 3) := by decide +kernel
theorem dX7_addChannel_145 : decode cX7_addChannel 145 = .ok (.iload 4, 2) := by decide +kernel
theorem dX7_addChannel_147 : decode cX7_addChannel 147 = .ok (.ireturn, 1) := by decide +kernel
theorem dX7_setMode_0 : decode cX7_setMode 0 = .ok (.aload_n 0, 1) := by decide +kernel
theorem dX7_setMode_1 : decode cX7_setMode 1 = .ok (.iload_n 1, 1) := by decide +kernel
theorem dX7_setMode_2 : decode cX7_setMode 2 = .ok (.invokevirtual 58, 3) := by decide +kernel
theorem dX7_setMode_5 : decode cX7_setMode 5 = .ok (.ifCond .eq 12, 3) := by decide +kernel
theorem dX7_setMode_8 : decode cX7_setMode 8 = .ok (.iload_n 2, 1) := by decide +kernel
theorem dX7_setMode_9 : decode cX7_setMode 9 = .ok (.iconst 0, 1) := by decide +kernel
theorem dX7_setMode_10 : decode cX7_setMode 10 = .ok (.iconst 2, 1) := by decide +kernel
theorem dX7_setMode_11 : decode cX7_setMode 11 = .ok (.invokestatic 41, 3) := by decide +kernel
theorem dX7_setMode_14 : decode cX7_setMode 14 = .ok (.ifCond .ne 5, 3) := by decide +kernel
theorem dX7_setMode_17 : decode cX7_setMode 17 = .ok (.iconst (-1), 1) := by decide +kernel
theorem dX7_setMode_18 : decode cX7_setMode 18 = .ok (.ireturn, 1) := by decide +kernel
theorem dX7_setMode_19 : decode cX7_setMode 19 = .ok (.iload_n 3, 1) := by decide +kernel
theorem dX7_setMode_20 : decode cX7_setMode 20 = .ok (.iconst 1, 1) := by decide +kernel
theorem dX7_setMode_21 : decode cX7_setMode 21 = .ok (.sipush 2000, 3) := by decide +kernel
theorem dX7_setMode_24 : decode cX7_setMode 24 = .ok (.invokestatic 41, 3) := by decide +kernel
theorem dX7_setMode_27 : decode cX7_setMode 27 = .ok (.ifCond .eq 26, 3) := by decide +kernel
theorem dX7_setMode_30 : decode cX7_setMode 30 = .ok (.iload 4, 2) := by decide +kernel
theorem dX7_setMode_32 : decode cX7_setMode 32 = .ok (.iconst 1, 1) := by decide +kernel
theorem dX7_setMode_33 : decode cX7_setMode 33 = .ok (.sipush 500, 3) := by decide +kernel
theorem dX7_setMode_36 : decode cX7_setMode 36 = .ok (.invokestatic 41, 3) := by decide +kernel
theorem dX7_setMode_39 : decode cX7_setMode 39 = .ok (.ifCond .eq 14, 3) := by decide +kernel
theorem dX7_setMode_42 : decode cX7_setMode 42 = .ok (.iload 5, 2) := by decide +kernel
theorem dX7_setMode_44 : decode cX7_setMode 44 = .ok (.iconst 0, 1) := by decide +kernel
theorem dX7_setMode_45 : decode cX7_setMode 45 = .ok (.ldc 56, 2) := by decide +kernel
theorem dX7_setMode_47 : decode cX7_setMode 47 = .ok (.invokestatic 41, 3) := by decide +kernel
theorem dX7_setMode_50 : decode cX7_setMode 50 = .ok (.ifCond .ne 6, 3) := by decide +kernel
theorem dX7_setMode_53 : decode cX7_setMode 53 = .ok (.bipush (-2), 2) := by decide +kernel
theorem dX7_setMode_55 : decode cX7_setMode 55 = .ok (.ireturn, 1) := by decide +kernel
theorem dX7_setMode_56 : decode cX7_setMode 56 = .ok (.aload_n 0, 1) := by decide +kernel
theorem dX7_setMode_57 : decode cX7_setMode 57 = .ok (.invokevirtual 53, 3) := by decide +kernel
theorem dX7_setMode_60 : decode cX7_setMode 60 = .ok (.aload_n 0, 1) := by decide +kernel
theorem dX7_setMode_61 : decode cX7_setMode 61 = .ok (.iload_n 1, 1) := by decide +kernel
theorem dX7_setMode_62 : decode cX7_setMode 62 = .ok (.iconst 3, 1) := by decide +kernel
theorem dX7_setMode_63 : decode cX7_setMode 63 = .ok (.iconst 3, 1) := by decide +kernel
theorem dX7_setMode_64 : decode cX7_setMode 64 = .ok (.iload_n 2, 1) := by decide +kernel
theorem dX7_setMode_65 : decode cX7_setMode 65 = .ok (.imul, 1) := by decide +kernel
theorem dX7_setMode_66 : decode cX7_setMode 66 = .ok (.iadd, 1) := by decide +kernel
theorem dX7_setMode_67 : decode cX7_setMode 67 = .ok (.iload_n 3, 1) := by decide +kernel
theorem dX7_setMode_68 : decode cX7_setMode 68 = .ok (.invokevirtual 37, 3) := by decide +kernel
theorem dX7_setMode_71 : decode cX7_setMode 71 = .ok (.aload_n 0, 1) := by decide +kernel
theorem dX7_setMode_72 : decode cX7_setMode 72 = .ok (.iload_n 1, 1) := by decide +kernel
theorem dX7_setMode_73 : decode cX7_setMode 73 = .ok (.iconst 3, 1) := by decide +kernel
theorem dX7_setMode_74 : decode cX7_setMode 74 = .ok (.iconst 3, 1) := by decide +kernel
theorem dX7_setMode_75 : decode cX7_setMode 75 = .ok (.iload_n 2, 1) := by decide +kernel
theorem dX7_setMode_76 : decode cX7_setMode 76 = .ok (.imul, 1) := by decide +kernel
theorem dX7_setMode_77 : decode cX7_setMode 77 = .ok (.iadd, 1) := by decide +kernel
theorem dX7_setMode_78 : decode cX7_setMode 78 = .ok (.iconst 1, 1) := by decide +kernel
theorem dX7_setMode_79 : decode cX7_setMode 79 = .ok (.iadd, 1) := by decide +kernel
theorem dX7_setMode_80 : decode cX7_setMode 80 = .ok (.iload 4, 2) := by decide +kernel
theorem dX7_setMode_82 : decode cX7_setMode 82 = .ok (.invokevirtual 37, 3) := by decide +kernel
theorem dX7_setMode_85 : decode cX7_setMode 85 = .ok (.aload_n 0, 1) := by decide +kernel
theorem dX7_setMode_86 : decode cX7_setMode 86 = .ok (.iload_n 1, 1) := by decide +kernel
theorem dX7_setMode_87 : decode cX7_setMode 87 = .ok (.iconst 3, 1) := by decide +kernel
theorem dX7_setMode_88 : decode cX7_setMode 88 = .ok (.iconst 3, 1) := by decide +kernel
theorem dX7_setMode_89 : decode cX7_setMode 89 = .ok (.iload_n 2, 1) := by decide +kernel
theorem dX7_setMode_90 : decode cX7_setMode 90 = .ok (.imul, 1) := by decide +kernel
theorem dX7_setMode_91 : decode cX7_setMode 91 = .ok (.iadd, 1) := by decide +kernel
theorem dX7_setMode_92 : decode cX7_setMode 92 = .ok (.iconst 2, 1) := by decide +kernel
theorem dX7_setMode_93 : decode cX7_setMode 93 = .ok (.iadd, 1) := by decide +kernel
theorem dX7_setMode_94 : decode cX7_setMode 94 = .ok (.iload 5, 2) := by decide +kernel
theorem dX7_setMode_96 : decode cX7_setMode 96 = .ok (.invokevirtual 37, 3) := by decide +kernel
theorem dX7_setMode_99 : decode cX7_setMode 99 = .ok (.aload_n 0, 1) := by decide +kernel
theorem dX7_setMode_100 : decode cX7_setMode 100 = .ok (.iload_n 1, 1) := by decide +kernel
theorem dX7_setMode_101 : decode cX7_setMode 101 = .ok (.iload_n 3, 1) := by decide +kernel
theorem dX7_setMode_102 : decode cX7_setMode 102 = .ok (.invokevirtual 62, 3) := by decide +kernel
theorem dX7_setMode_105 : decode cX7_setMode 105 = .ok (.ireturn, 1) := by decide +kernel
theorem dX7_addNotch_0 : decode cX7_addNotch 0 = .ok (.aload_n 0, 1) := by decide +kernel
theorem dX7_addNotch_1 : decode cX7_addNotch 1 = .ok (.iload_n 1, 1) := by decide +kernel
theorem dX7_addNotch_2 : decode cX7_addNotch 2 = .ok (.invokevirtual 58, 3) := by decide +kernel
theorem dX7_addNotch_5 : decode cX7_addNotch 5 = .ok (.ifCond .ne 5, 3) := by decide +kernel
theorem dX7_addNotch_8 : decode cX7_addNotch 8 = .ok (.iconst (-1), 1) := by decide +kernel
theorem dX7_addNotch_9 : decode cX7_addNotch 9 = .ok (.ireturn, 1) := by decide +kernel
theorem dX7_addNotch_10 : decode cX7_addNotch 10 = .ok (.iload_n 2, 1) := by decide +kernel
theorem dX7_addNotch_11 : decode cX7_addNotch 11 = .ok (.iconst 1, 1) := by decide +kernel
theorem dX7_addNotch_12 : decode cX7_addNotch 12 = .ok (.sipush 2000, 3) := by decide +kernel
theorem dX7_addNotch_15 : decode cX7_addNotch 15 = .ok (.invokestatic 41, 3) := by decide +kernel
theorem dX7_addNotch_18 : decode cX7_addNotch 18 = .ok (.ifCond .eq 25, 3) := by decide +kernel
theorem dX7_addNotch_21 : decode cX7_addNotch 21 = .ok (.iload_n 3, 1) := by decide +kernel
theorem dX7_addNotch_22 : decode cX7_addNotch 22 = .ok (.iload_n 2, 1) := by decide +kernel
theorem dX7_addNotch_23 : decode cX7_addNotch 23 = .ok (.sipush 2000, 3) := by decide +kernel
theorem dX7_addNotch_26 : decode cX7_addNotch 26 = .ok (.invokestatic 41, 3) := by decide +kernel
theorem dX7_addNotch_29 : decode cX7_addNotch 29 = .ok (.ifCond .eq 14, 3) := by decide +kernel
theorem dX7_addNotch_32 : decode cX7_addNotch 32 = .ok (.iload 4, 2) := by decide +kernel
theorem dX7_addNotch_34 : decode cX7_addNotch 34 = .ok (.iconst 1, 1) := by decide +kernel
theorem dX7_addNotch_35 : decode cX7_addNotch 35 = .ok (.ldc 57, 2) := by decide +kernel
theorem dX7_addNotch_37 : decode cX7_addNotch 37 = .ok (.invokestatic 41, 3) := by decide +kernel
theorem dX7_addNotch_40 : decode cX7_addNotch 40 = .ok (.ifCond .ne 6, 3) := by decide +kernel
theorem dX7_addNotch_43 : decode cX7_addNotch 43 = .ok (.bipush (-2), 2) := by decide +kernel
theorem dX7_addNotch_45 : decode cX7_addNotch 45 = .ok (.ireturn, 1) := by decide +kernel
theorem dX7_addNotch_46 : decode cX7_addNotch 46 = .ok (.aload_n 0, 1) := by decide +kernel
theorem dX7_addNotch_47 : decode cX7_addNotch 47 = .ok (.iload_n 1, 1) := by decide +kernel
theorem dX7_addNotch_48 : decode cX7_addNotch 48 = .ok (.bipush 12, 2) := by decide +kernel
theorem dX7_addNotch_50 : decode cX7_addNotch 50 = .ok (.invokevirtual 65, 3) := by decide +kernel
theorem dX7_addNotch_53 : decode cX7_addNotch 53 = .ok (.istore 5, 2) := by decide +kernel
theorem dX7_addNotch_55 : decode cX7_addNotch 55 = .ok (.iload 5, 2) := by decide +kernel
theorem dX7_addNotch_57 : decode cX7_addNotch 57 = .ok (.iconst 4, 1) := by decide +kernel
theorem dX7_addNotch_58 : decode cX7_addNotch 58 = .ok (.if_icmp .ne 6, 3) := by decide +kernel
theorem dX7_addNotch_61 : decode cX7_addNotch 61 = .ok (.bipush (-4), 2) := by decide +kernel
theorem dX7_addNotch_63 : decode cX7_addNotch 63 = .ok (.ireturn, 1) := by decide +kernel
theorem dX7_addNotch_64 : decode cX7_addNotch 64 = .ok (.aload_n 0, 1) := by decide +kernel
theorem dX7_addNotch_65 : decode cX7_addNotch 65 = .ok (.invokevirtual 53, 3) := by decide +kernel
theorem dX7_addNotch_68 : decode cX7_addNotch 68 = .ok (.aload_n 0, 1) := by decide +kernel
theorem dX7_addNotch_69 : decode cX7_addNotch 69 = .ok (.iload_n 1, 1) := by decide +kernel
theorem dX7_addNotch_70 : decode cX7_addNotch 70 = .ok (.bipush 13, 2) := by decide +kernel
theorem dX7_addNotch_72 : decode cX7_addNotch 72 = .ok (.iconst 3, 1) := by decide +kernel
theorem dX7_addNotch_73 : decode cX7_addNotch 73 = .ok (.iload 5, 2) := by decide +kernel
theorem dX7_addNotch_75 : decode cX7_addNotch 75 = .ok (.imul, 1) := by decide +kernel
theorem dX7_addNotch_76 : decode cX7_addNotch 76 = .ok (.iadd, 1) := by decide +kernel
theorem dX7_addNotch_77 : decode cX7_addNotch 77 = .ok (.iload_n 2, 1) := by decide +kernel
theorem dX7_addNotch_78 : decode cX7_addNotch 78 = .ok (.invokevirtual 37, 3) := by decide +kernel
theorem dX7_addNotch_81 : decode cX7_addNotch 81 = .ok (.aload_n 0, 1) := by decide +kernel
theorem dX7_addNotch_82 : decode cX7_addNotch 82 = .ok (.iload_n 1, 1) := by decide +kernel
theorem dX7_addNotch_83 : decode cX7_addNotch 83 = .ok (.bipush 13, 2) := by decide +kernel
theorem dX7_addNotch_85 : decode cX7_addNotch 85 = .ok (.iconst 3, 1) := by decide +kernel
theorem dX7_addNotch_86 : decode cX7_addNotch 86 = .ok (.iload 5, 2) := by decide +kernel
theorem dX7_addNotch_88 : decode cX7_addNotch 88 = .ok (.imul, 1) := by decide +kernel
theorem dX7_addNotch_89 : decode cX7_addNotch 89 = .ok (.iadd, 1) := by decide +kernel
theorem dX7_addNotch_90 : decode cX7_addNotch 90 = .ok (.iconst 1, 1) := by decide +kernel
theorem dX7_addNotch_91 : decode cX7_addNotch 91 = .ok (.iadd, 1) := by decide +kernel
theorem dX7_addNotch_92 : decode cX7_addNotch 92 = .ok (.iload_n 3, 1) := by decide +kernel
theorem dX7_addNotch_93 : decode cX7_addNotch 93 = .ok (.invokevirtual 37, 3) := by decide +kernel
theorem dX7_addNotch_96 : decode cX7_addNotch 96 = .ok (.aload_n 0, 1) := by decide +kernel
theorem dX7_addNotch_97 : decode cX7_addNotch 97 = .ok (.iload_n 1, 1) := by decide +kernel
theorem dX7_addNotch_98 : decode cX7_addNotch 98 = .ok (.bipush 13, 2) := by decide +kernel
theorem dX7_addNotch_100 : decode cX7_addNotch 100 = .ok (.iconst 3, 1) := by decide +kernel
theorem dX7_addNotch_101 : decode cX7_addNotch 101 = .ok (.iload 5, 2) := by decide +kernel
theorem dX7_addNotch_103 : decode cX7_addNotch 103 = .ok (.imul, 1) := by decide +kernel
theorem dX7_addNotch_104 : decode cX7_addNotch 104 = .ok (.iadd, 1) := by decide +kernel
theorem dX7_addNotch_105 : decode cX7_addNotch 105 = .ok (.iconst 2, 1) := by decide +kernel
theorem dX7_addNotch_106 : decode cX7_addNotch 106 = .ok (.iadd, 1) := by decide +kernel
theorem dX7_addNotch_107 : decode cX7_addNotch 107 = .ok (.iload 4, 2) := by decide +kernel
theorem dX7_addNotch_109 : decode cX7_addNotch 109 = .ok (.invokevirtual 37, 3) := by decide +kernel
theorem dX7_addNotch_112 : decode cX7_addNotch 112 = .ok (.aload_n 0, 1) := by decide +kernel
theorem dX7_addNotch_113 : decode cX7_addNotch 113 = .ok (.iload_n 1, 1) := by decide +kernel
theorem dX7_addNotch_114 : decode cX7_addNotch 114 = .ok (.bipush 12, 2) := by decide +kernel
theorem dX7_addNotch_116 : decode cX7_addNotch 116 = .ok (.iload 5, 2) := by decide +kernel
theorem dX7_addNotch_118 : decode cX7_addNotch 118 = .ok (.iconst 1, 1) := by decide +kernel
theorem dX7_addNotch_119 : decode cX7_addNotch 119 = .ok (.iadd, 1) := by decide +kernel
theorem dX7_addNotch_120 : decode cX7_addNotch 120 = .ok (.invokevirtual 37, 3) := by decide +kernel
theorem dX7_addNotch_123 : decode cX7_addNotch 123 = .ok (.iload 5, 2) := by decide +kernel
theorem dX7_addNotch_125 : decode cX7_addNotch 125 = .ok (.ireturn, 1) := by decide +kernel
theorem dX7_least_0 : decode cX7_least 0 = .ok (.iload_n 0, 1) := by decide +kernel
theorem dX7_least_1 : decode cX7_least 1 = .ok (.ifCond .ne 7, 3) := by decide +kernel
theorem dX7_least_4 : decode cX7_least 4 = .ok (.iconst 0, 1) := by decide +kernel
theorem dX7_least_5 : decode cX7_least 5 = .ok (.goto 14, 3) := by decide +kernel
theorem dX7_least_8 : decode cX7_least 8 = .ok (.iload_n 0, 1) := by decide +kernel
theorem dX7_least_9 : decode cX7_least 9 = .ok (.iconst 4, 1) := by decide +kernel
theorem dX7_least_10 : decode cX7_least 10 = .ok (.if_icmp .ne 8, 3) := by decide +kernel
theorem dX7_least_13 : decode cX7_least 13 = .ok (.bipush 10, 2) := by decide +kernel
theorem dX7_least_15 : decode cX7_least 15 = .ok (.goto 4, 3) := by decide +kernel
theorem dX7_least_18 : decode cX7_least 18 = .ok (.iconst 1, 1) := by decide +kernel
theorem dX7_least_19 : decode cX7_least 19 = .ok (.ireturn, 1) := by decide +kernel
theorem dX7_most_0 : decode cX7_most 0 = .ok (.iload_n 0, 1) := by decide +kernel
theorem dX7_most_1 : decode cX7_most 1 = .ok (.tableswitch 48 0 4 #[35, 37, 40, 42, 45], 35) := by decide +kernel
theorem dX7_most_36 : decode cX7_most 36 = .ok (.iconst 2, 1) := by decide +kernel
theorem dX7_most_37 : decode cX7_most 37 = .ok (.ireturn, 1) := by decide +kernel
theorem dX7_most_38 : decode cX7_most 38 = .ok (.bipush 8, 2) := by decide +kernel
theorem dX7_most_40 : decode cX7_most 40 = .ok (.ireturn, 1) := by decide +kernel
theorem dX7_most_41 : decode cX7_most 41 = .ok (.iconst 5, 1) := by decide +kernel
theorem dX7_most_42 : decode cX7_most 42 = .ok (.ireturn, 1) := by decide +kernel
theorem dX7_most_43 : decode cX7_most 43 = .ok (.bipush 100, 2) := by decide +kernel
theorem dX7_most_45 : decode cX7_most 45 = .ok (.ireturn, 1) := by decide +kernel
theorem dX7_most_46 : decode cX7_most 46 = .ok (.bipush 90, 2) := by decide +kernel
theorem dX7_most_48 : decode cX7_most 48 = .ok (.ireturn, 1) := by decide +kernel
theorem dX7_most_49 : decode cX7_most 49 = .ok (.bipush 9, 2) := by decide +kernel
theorem dX7_most_51 : decode cX7_most 51 = .ok (.ireturn, 1) := by decide +kernel
theorem dX7_whyNotSet_0 : decode cX7_whyNotSet 0 = .ok (.iload_n 1, 1) := by decide +kernel
theorem dX7_whyNotSet_1 : decode cX7_whyNotSet 1 = .ok (.iconst 0, 1) := by decide +kernel
theorem dX7_whyNotSet_2 : decode cX7_whyNotSet 2 = .ok (.iconst 5, 1) := by decide +kernel
theorem dX7_whyNotSet_3 : decode cX7_whyNotSet 3 = .ok (.invokestatic 41, 3) := by decide +kernel
theorem dX7_whyNotSet_6 : decode cX7_whyNotSet 6 = .ok (.ifCond .ne 7, 3) := by decide +kernel
theorem dX7_whyNotSet_9 : decode cX7_whyNotSet 9 = .ok (.iconst (-1), 1) := by decide +kernel
theorem dX7_whyNotSet_10 : decode cX7_whyNotSet 10 = .ok (.goto 24, 3) := by decide +kernel
theorem dX7_whyNotSet_13 : decode cX7_whyNotSet 13 = .ok (.iload_n 2, 1) := by decide +kernel
theorem dX7_whyNotSet_14 : decode cX7_whyNotSet 14 = .ok (.iload_n 1, 1) := by decide +kernel
theorem dX7_whyNotSet_15 : decode cX7_whyNotSet 15 = .ok (.invokestatic 68, 3) := by decide +kernel
theorem dX7_whyNotSet_18 : decode cX7_whyNotSet 18 = .ok (.iload_n 1, 1) := by decide +kernel
theorem dX7_whyNotSet_19 : decode cX7_whyNotSet 19 = .ok (.invokestatic 72, 3) := by decide +kernel
theorem dX7_whyNotSet_22 : decode cX7_whyNotSet 22 = .ok (.invokestatic 41, 3) := by decide +kernel
theorem dX7_whyNotSet_25 : decode cX7_whyNotSet 25 = .ok (.ifCond .eq 7, 3) := by decide +kernel
theorem dX7_whyNotSet_28 : decode cX7_whyNotSet 28 = .ok (.iconst 0, 1) := by decide +kernel
theorem dX7_whyNotSet_29 : decode cX7_whyNotSet 29 = .ok (.goto 5, 3) := by decide +kernel
theorem dX7_whyNotSet_32 : decode cX7_whyNotSet 32 = .ok (.bipush (-2), 2) := by decide +kernel
theorem dX7_whyNotSet_34 : decode cX7_whyNotSet 34 = .ok (.ireturn, 1) := by decide +kernel
theorem dX7_set_0 : decode cX7_set 0 = .ok (.aload_n 0, 1) := by decide +kernel
theorem dX7_set_1 : decode cX7_set 1 = .ok (.iload_n 1, 1) := by decide +kernel
theorem dX7_set_2 : decode cX7_set 2 = .ok (.iload_n 2, 1) := by decide +kernel
theorem dX7_set_3 : decode cX7_set 3 = .ok (.invokevirtual 75, 3) := by decide +kernel
theorem dX7_set_6 : decode cX7_set 6 = .ok (.istore_n 3, 1) := by decide +kernel
theorem dX7_set_7 : decode cX7_set 7 = .ok (.iload_n 3, 1) := by decide +kernel
theorem dX7_set_8 : decode cX7_set 8 = .ok (.ifCond .eq 5, 3) := by decide +kernel
theorem dX7_set_11 : decode cX7_set 11 = .ok (.iload_n 3, 1) := by decide +kernel
theorem dX7_set_12 : decode cX7_set 12 = .ok (.ireturn, 1) := by decide +kernel
theorem dX7_set_13 : decode cX7_set 13 = .ok (.aload_n 0, 1) := by decide +kernel
theorem dX7_set_14 : decode cX7_set 14 = .ok (.invokevirtual 53, 3) := by decide +kernel
theorem dX7_set_17 : decode cX7_set 17 = .ok (.aload_n 0, 1) := by decide +kernel
theorem dX7_set_18 : decode cX7_set 18 = .ok (.iload_n 1, 1) := by decide +kernel
theorem dX7_set_19 : decode cX7_set 19 = .ok (.invokevirtual 78, 3) := by decide +kernel
theorem dX7_set_22 : decode cX7_set 22 = .ok (.istore 4, 2) := by decide +kernel
theorem dX7_set_24 : decode cX7_set 24 = .ok (.aload_n 0, 1) := by decide +kernel
theorem dX7_set_25 : decode cX7_set 25 = .ok (.getfield 7, 3) := by decide +kernel
theorem dX7_set_28 : decode cX7_set 28 = .ok (.bipush 12, 2) := by decide +kernel
theorem dX7_set_30 : decode cX7_set 30 = .ok (.iload_n 1, 1) := by decide +kernel
theorem dX7_set_31 : decode cX7_set 31 = .ok (.iadd, 1) := by decide +kernel
theorem dX7_set_32 : decode cX7_set 32 = .ok (.iload_n 2, 1) := by decide +kernel
theorem dX7_set_33 : decode cX7_set 33 = .ok (.iastore, 1) := by decide +kernel
theorem dX7_set_34 : decode cX7_set 34 = .ok (.iload 4, 2) := by decide +kernel
theorem dX7_set_36 : decode cX7_set 36 = .ok (.ireturn, 1) := by decide +kernel
theorem dX7_targetOf_0 : decode cX7_targetOf 0 = .ok (.bipush (-6), 2) := by decide +kernel
theorem dX7_targetOf_2 : decode cX7_targetOf 2 = .ok (.istore_n 2, 1) := by decide +kernel
theorem dX7_targetOf_3 : decode cX7_targetOf 3 = .ok (.bipush (-6), 2) := by decide +kernel
theorem dX7_targetOf_5 : decode cX7_targetOf 5 = .ok (.istore_n 3, 1) := by decide +kernel
theorem dX7_targetOf_6 : decode cX7_targetOf 6 = .ok (.iconst 0, 1) := by decide +kernel
theorem dX7_targetOf_7 : decode cX7_targetOf 7 = .ok (.istore 4, 2) := by decide +kernel
theorem dX7_targetOf_9 : decode cX7_targetOf 9 = .ok (.iload 4, 2) := by decide +kernel
theorem dX7_targetOf_11 : decode cX7_targetOf 11 = .ok (.aload_n 0, 1) := by decide +kernel
theorem dX7_targetOf_12 : decode cX7_targetOf 12 = .ok (.getfield 7, 3) := by decide +kernel
theorem dX7_targetOf_15 : decode cX7_targetOf 15 = .ok (.iconst 4, 1) := by decide +kernel
theorem dX7_targetOf_16 : decode cX7_targetOf 16 = .ok (.iaload, 1) := by decide +kernel
theorem dX7_targetOf_17 : decode cX7_targetOf 17 = .ok (.if_icmp .ge 93, 3) := by decide +kernel
theorem dX7_targetOf_20 : decode cX7_targetOf 20 = .ok (.aload_n 0, 1) := by decide +kernel
theorem dX7_targetOf_21 : decode cX7_targetOf 21 = .ok (.getfield 7, 3) := by decide +kernel
theorem dX7_targetOf_24 : decode cX7_targetOf 24 = .ok (.bipush 18, 2) := by decide +kernel
theorem dX7_targetOf_26 : decode cX7_targetOf 26 = .ok (.iconst 2, 1) := by decide +kernel
theorem dX7_targetOf_27 : decode cX7_targetOf 27 = .ok (.iload 4, 2) := by decide +kernel
theorem dX7_targetOf_29 : decode cX7_targetOf 29 = .ok (.imul, 1) := by decide +kernel
theorem dX7_targetOf_30 : decode cX7_targetOf 30 = .ok (.iadd, 1) := by decide +kernel
theorem dX7_targetOf_31 : decode cX7_targetOf 31 = .ok (.iaload, 1) := by decide +kernel
theorem dX7_targetOf_32 : decode cX7_targetOf 32 = .ok (.istore 5, 2) := by decide +kernel
theorem dX7_targetOf_34 : decode cX7_targetOf 34 = .ok (.iload 5, 2) := by decide +kernel
theorem dX7_targetOf_36 : decode cX7_targetOf 36 = .ok (.iload_n 1, 1) := by decide +kernel
theorem dX7_targetOf_37 : decode cX7_targetOf 37 = .ok (.if_icmp .gt 30, 3) := by decide +kernel
theorem dX7_targetOf_40 : decode cX7_targetOf 40 = .ok (.iload_n 2, 1) := by decide +kernel
theorem dX7_targetOf_41 : decode cX7_targetOf 41 = .ok (.bipush (-6), 2) := by decide +kernel
theorem dX7_targetOf_43 : decode cX7_targetOf 43 = .ok (.if_icmp .eq 19, 3) := by decide +kernel
theorem dX7_targetOf_46 : decode cX7_targetOf 46 = .ok (.iload 5, 2) := by decide +kernel
theorem dX7_targetOf_48 : decode cX7_targetOf 48 = .ok (.aload_n 0, 1) := by decide +kernel
theorem dX7_targetOf_49 : decode cX7_targetOf 49 = .ok (.getfield 7, 3) := by decide +kernel
theorem dX7_targetOf_52 : decode cX7_targetOf 52 = .ok (.bipush 18, 2) := by decide +kernel
theorem dX7_targetOf_54 : decode cX7_targetOf 54 = .ok (.iconst 2, 1) := by decide +kernel
theorem dX7_targetOf_55 : decode cX7_targetOf 55 = .ok (.iload_n 2, 1) := by decide +kernel
theorem dX7_targetOf_56 : decode cX7_targetOf 56 = .ok (.imul, 1) := by decide +kernel
theorem dX7_targetOf_57 : decode cX7_targetOf 57 = .ok (.iadd, 1) := by decide +kernel
theorem dX7_targetOf_58 : decode cX7_targetOf 58 = .ok (.iaload, 1) := by decide +kernel
theorem dX7_targetOf_59 : decode cX7_targetOf 59 = .ok (.if_icmp .le 8, 3) := by decide +kernel
theorem dX7_targetOf_62 : decode cX7_targetOf 62 = .ok (.iload 4, 2) := by decide +kernel
theorem dX7_targetOf_64 : decode cX7_targetOf 64 = .ok (.goto 4, 3) := by decide +kernel
theorem dX7_targetOf_67 : decode cX7_targetOf 67 = .ok (.iload_n 2, 1) := by decide +kernel
theorem dX7_targetOf_68 : decode cX7_targetOf 68 = .ok (.istore_n 2, 1) := by decide +kernel
theorem dX7_targetOf_69 : decode cX7_targetOf 69 = .ok (.iload 5, 2) := by decide +kernel
theorem dX7_targetOf_71 : decode cX7_targetOf 71 = .ok (.iload_n 1, 1) := by decide +kernel
theorem dX7_targetOf_72 : decode cX7_targetOf 72 = .ok (.if_icmp .lt 30, 3) := by decide +kernel
theorem dX7_targetOf_75 : decode cX7_targetOf 75 = .ok (.iload_n 3, 1) := by decide +kernel
theorem dX7_targetOf_76 : decode cX7_targetOf 76 = .ok (.bipush (-6), 2) := by decide +kernel
theorem dX7_targetOf_78 : decode cX7_targetOf 78 = .ok (.if_icmp .eq 19, 3) := by decide +kernel
theorem dX7_targetOf_81 : decode cX7_targetOf 81 = .ok (.iload 5, 2) := by decide +kernel
theorem dX7_targetOf_83 : decode cX7_targetOf 83 = .ok (.aload_n 0, 1) := by decide +kernel
theorem dX7_targetOf_84 : decode cX7_targetOf 84 = .ok (.getfield 7, 3) := by decide +kernel
theorem dX7_targetOf_87 : decode cX7_targetOf 87 = .ok (.bipush 18, 2) := by decide +kernel
theorem dX7_targetOf_89 : decode cX7_targetOf 89 = .ok (.iconst 2, 1) := by decide +kernel
theorem dX7_targetOf_90 : decode cX7_targetOf 90 = .ok (.iload_n 3, 1) := by decide +kernel
theorem dX7_targetOf_91 : decode cX7_targetOf 91 = .ok (.imul, 1) := by decide +kernel
theorem dX7_targetOf_92 : decode cX7_targetOf 92 = .ok (.iadd, 1) := by decide +kernel
theorem dX7_targetOf_93 : decode cX7_targetOf 93 = .ok (.iaload, 1) := by decide +kernel
theorem dX7_targetOf_94 : decode cX7_targetOf 94 = .ok (.if_icmp .ge 8, 3) := by decide +kernel
theorem dX7_targetOf_97 : decode cX7_targetOf 97 = .ok (.iload 4, 2) := by decide +kernel
theorem dX7_targetOf_99 : decode cX7_targetOf 99 = .ok (.goto 4, 3) := by decide +kernel
theorem dX7_targetOf_102 : decode cX7_targetOf 102 = .ok (.iload_n 3, 1) := by decide +kernel
theorem dX7_targetOf_103 : decode cX7_targetOf 103 = .ok (.istore_n 3, 1) := by decide +kernel
theorem dX7_targetOf_104 : decode cX7_targetOf 104 = .ok (.iinc 4 1, 3) := by decide +kernel
theorem dX7_targetOf_107 : decode cX7_targetOf 107 = .ok (.goto (-98), 3) := by decide +kernel
theorem dX7_targetOf_110 : decode cX7_targetOf 110 = .ok (.iload_n 2, 1) := by decide +kernel
theorem dX7_targetOf_111 : decode cX7_targetOf 111 = .ok (.bipush (-6), 2) := by decide +kernel
theorem dX7_targetOf_113 : decode cX7_targetOf 113 = .ok (.if_icmp .eq 9, 3) := by decide +kernel
theorem dX7_targetOf_116 : decode cX7_targetOf 116 = .ok (.iload_n 3, 1) := by decide +kernel
theorem dX7_targetOf_117 : decode cX7_targetOf 117 = .ok (.bipush (-6), 2) := by decide +kernel
theorem dX7_targetOf_119 : decode cX7_targetOf 119 = .ok (.if_icmp .ne 27, 3) := by decide +kernel
theorem dX7_targetOf_122 : decode cX7_targetOf 122 = .ok (.aload_n 0, 1) := by decide +kernel
theorem dX7_targetOf_123 : decode cX7_targetOf 123 = .ok (.getfield 7, 3) := by decide +kernel
theorem dX7_targetOf_126 : decode cX7_targetOf 126 = .ok (.bipush 18, 2) := by decide +kernel
theorem dX7_targetOf_128 : decode cX7_targetOf 128 = .ok (.iconst 2, 1) := by decide +kernel
theorem dX7_targetOf_129 : decode cX7_targetOf 129 = .ok (.iload_n 2, 1) := by decide +kernel
theorem dX7_targetOf_130 : decode cX7_targetOf 130 = .ok (.bipush (-6), 2) := by decide +kernel
theorem dX7_targetOf_132 : decode cX7_targetOf 132 = .ok (.if_icmp .ne 7, 3) := by decide +kernel
theorem dX7_targetOf_135 : decode cX7_targetOf 135 = .ok (.iload_n 3, 1) := by decide +kernel
theorem dX7_targetOf_136 : decode cX7_targetOf 136 = .ok (.goto 4, 3) := by decide +kernel
theorem dX7_targetOf_139 : decode cX7_targetOf 139 = .ok (.iload_n 2, 1) := by decide +kernel
theorem dX7_targetOf_140 : decode cX7_targetOf 140 = .ok (.imul, 1) := by decide +kernel
theorem dX7_targetOf_141 : decode cX7_targetOf 141 = .ok (.iadd, 1) := by decide +kernel
theorem dX7_targetOf_142 : decode cX7_targetOf 142 = .ok (.iconst 1, 1) := by decide +kernel
theorem dX7_targetOf_143 : decode cX7_targetOf 143 = .ok (.iadd, 1) := by decide +kernel
theorem dX7_targetOf_144 : decode cX7_targetOf 144 = .ok (.iaload, 1) := by decide +kernel
theorem dX7_targetOf_145 : decode cX7_targetOf 145 = .ok (.ireturn, 1) := by decide +kernel
theorem dX7_targetOf_146 : decode cX7_targetOf 146 = .ok (.aload_n 0, 1) := by decide +kernel
theorem dX7_targetOf_147 : decode cX7_targetOf 147 = .ok (.getfield 7, 3) := by decide +kernel
theorem dX7_targetOf_150 : decode cX7_targetOf 150 = .ok (.bipush 18, 2) := by decide +kernel
theorem dX7_targetOf_152 : decode cX7_targetOf 152 = .ok (.iconst 2, 1) := by decide +kernel
theorem dX7_targetOf_153 : decode cX7_targetOf 153 = .ok (.iload_n 2, 1) := by decide +kernel
theorem dX7_targetOf_154 : decode cX7_targetOf 154 = .ok (.imul, 1) := by decide +kernel
theorem dX7_targetOf_155 : decode cX7_targetOf 155 = .ok (.iadd, 1) := by decide +kernel
theorem dX7_targetOf_156 : decode cX7_targetOf 156 = .ok (.iaload, 1) := by decide +kernel
theorem dX7_targetOf_157 : decode cX7_targetOf 157 = .ok (.istore 4, 2) := by decide +kernel
theorem dX7_targetOf_159 : decode cX7_targetOf 159 = .ok (.aload_n 0, 1) := by decide +kernel
theorem dX7_targetOf_160 : decode cX7_targetOf 160 = .ok (.getfield 7, 3) := by decide +kernel
theorem dX7_targetOf_163 : decode cX7_targetOf 163 = .ok (.bipush 18, 2) := by decide +kernel
theorem dX7_targetOf_165 : decode cX7_targetOf 165 = .ok (.iconst 2, 1) := by decide +kernel
theorem dX7_targetOf_166 : decode cX7_targetOf 166 = .ok (.iload_n 3, 1) := by decide +kernel
theorem dX7_targetOf_167 : decode cX7_targetOf 167 = .ok (.imul, 1) := by decide +kernel
theorem dX7_targetOf_168 : decode cX7_targetOf 168 = .ok (.iadd, 1) := by decide +kernel
theorem dX7_targetOf_169 : decode cX7_targetOf 169 = .ok (.iaload, 1) := by decide +kernel
theorem dX7_targetOf_170 : decode cX7_targetOf 170 = .ok (.istore 5, 2) := by decide +kernel
theorem dX7_targetOf_172 : decode cX7_targetOf 172 = .ok (.aload_n 0, 1) := by decide +kernel
theorem dX7_targetOf_173 : decode cX7_targetOf 173 = .ok (.getfield 7, 3) := by decide +kernel
theorem dX7_targetOf_176 : decode cX7_targetOf 176 = .ok (.bipush 18, 2) := by decide +kernel
theorem dX7_targetOf_178 : decode cX7_targetOf 178 = .ok (.iconst 2, 1) := by decide +kernel
theorem dX7_targetOf_179 : decode cX7_targetOf 179 = .ok (.iload_n 2, 1) := by decide +kernel
theorem dX7_targetOf_180 : decode cX7_targetOf 180 = .ok (.imul, 1) := by decide +kernel
theorem dX7_targetOf_181 : decode cX7_targetOf 181 = .ok (.iadd, 1) := by decide +kernel
theorem dX7_targetOf_182 : decode cX7_targetOf 182 = .ok (.iconst 1, 1) := by decide +kernel
theorem dX7_targetOf_183 : decode cX7_targetOf 183 = .ok (.iadd, 1) := by decide +kernel
theorem dX7_targetOf_184 : decode cX7_targetOf 184 = .ok (.iaload, 1) := by decide +kernel
theorem dX7_targetOf_185 : decode cX7_targetOf 185 = .ok (.istore 6, 2) := by decide +kernel
theorem dX7_targetOf_187 : decode cX7_targetOf 187 = .ok (.aload_n 0, 1) := by decide +kernel
theorem dX7_targetOf_188 : decode cX7_targetOf 188 = .ok (.getfield 7, 3) := by decide +kernel
theorem dX7_targetOf_191 : decode cX7_targetOf 191 = .ok (.bipush 18, 2) := by decide +kernel
theorem dX7_targetOf_193 : decode cX7_targetOf 193 = .ok (.iconst 2, 1) := by decide +kernel
theorem dX7_targetOf_194 : decode cX7_targetOf 194 = .ok (.iload_n 3, 1) := by decide +kernel
theorem dX7_targetOf_195 : decode cX7_targetOf 195 = .ok (.imul, 1) := by decide +kernel
theorem dX7_targetOf_196 : decode cX7_targetOf 196 = .ok (.iadd, 1) := by decide +kernel
theorem dX7_targetOf_197 : decode cX7_targetOf 197 = .ok (.iconst 1, 1) := by decide +kernel
theorem dX7_targetOf_198 : decode cX7_targetOf 198 = .ok (.iadd, 1) := by decide +kernel
theorem dX7_targetOf_199 : decode cX7_targetOf 199 = .ok (.iaload, 1) := by decide +kernel
theorem dX7_targetOf_200 : decode cX7_targetOf 200 = .ok (.istore 7, 2) := by decide +kernel
theorem dX7_targetOf_202 : decode cX7_targetOf 202 = .ok (.iload 4, 2) := by decide +kernel
theorem dX7_targetOf_204 : decode cX7_targetOf 204 = .ok (.iload 5, 2) := by decide +kernel
theorem dX7_targetOf_206 : decode cX7_targetOf 206 = .ok (.if_icmp .ne 8, 3) := by decide +kernel
theorem dX7_targetOf_209 : decode cX7_targetOf 209 = .ok (.iload 6, 2) := by decide +kernel
theorem dX7_targetOf_211 : decode cX7_targetOf 211 = .ok (.goto 24, 3) := by decide +kernel
theorem dX7_targetOf_214 : decode cX7_targetOf 214 = .ok (.iload 6, 2) := by decide +kernel
theorem dX7_targetOf_216 : decode cX7_targetOf 216 = .ok (.iload 5, 2) := by decide +kernel
theorem dX7_targetOf_218 : decode cX7_targetOf 218 = .ok (.iload_n 1, 1) := by decide +kernel
theorem dX7_targetOf_219 : decode cX7_targetOf 219 = .ok (.isub, 1) := by decide +kernel
theorem dX7_targetOf_220 : decode cX7_targetOf 220 = .ok (.imul, 1) := by decide +kernel
theorem dX7_targetOf_221 : decode cX7_targetOf 221 = .ok (.iload 7, 2) := by decide +kernel
theorem dX7_targetOf_223 : decode cX7_targetOf 223 = .ok (.iload_n 1, 1) := by decide +kernel
theorem dX7_targetOf_224 : decode cX7_targetOf 224 = .ok (.iload 4, 2) := by decide +kernel
theorem dX7_targetOf_226 : decode cX7_targetOf 226 = .ok (.isub, 1) := by decide +kernel
theorem dX7_targetOf_227 : decode cX7_targetOf 227 = .ok (.imul, 1) := by decide +kernel
theorem dX7_targetOf_228 : decode cX7_targetOf 228 = .ok (.iadd, 1) := by decide +kernel
theorem dX7_targetOf_229 : decode cX7_targetOf 229 = .ok (.iload 5, 2) := by decide +kernel
theorem dX7_targetOf_231 : decode cX7_targetOf 231 = .ok (.iload 4, 2) := by decide +kernel
theorem dX7_targetOf_233 : decode cX7_targetOf 233 = .ok (.isub, 1) := by decide +kernel
theorem dX7_targetOf_234 : decode cX7_targetOf 234 = .ok (.idiv, 1) := by decide +kernel
theorem dX7_targetOf_235 : decode cX7_targetOf 235 = .ok (.ireturn, 1) := by decide +kernel
theorem dX7_gainOf_0 : decode cX7_gainOf 0 = .ok (.aload_n 0, 1) := by decide +kernel
theorem dX7_gainOf_1 : decode cX7_gainOf 1 = .ok (.iload_n 1, 1) := by decide +kernel
theorem dX7_gainOf_2 : decode cX7_gainOf 2 = .ok (.iconst 1, 1) := by decide +kernel
theorem dX7_gainOf_3 : decode cX7_gainOf 3 = .ok (.invokevirtual 65, 3) := by decide +kernel
theorem dX7_gainOf_6 : decode cX7_gainOf 6 = .ok (.istore_n 3, 1) := by decide +kernel
theorem dX7_gainOf_7 : decode cX7_gainOf 7 = .ok (.iconst 0, 1) := by decide +kernel
theorem dX7_gainOf_8 : decode cX7_gainOf 8 = .ok (.istore 4, 2) := by decide +kernel
theorem dX7_gainOf_10 : decode cX7_gainOf 10 = .ok (.iload 4, 2) := by decide +kernel
theorem dX7_gainOf_12 : decode cX7_gainOf 12 = .ok (.iconst 3, 1) := by decide +kernel
theorem dX7_gainOf_13 : decode cX7_gainOf 13 = .ok (.if_icmp .ge 81, 3) := by decide +kernel
theorem dX7_gainOf_16 : decode cX7_gainOf 16 = .ok (.iload_n 2, 1) := by decide +kernel
theorem dX7_gainOf_17 : decode cX7_gainOf 17 = .ok (.aload_n 0, 1) := by decide +kernel
theorem dX7_gainOf_18 : decode cX7_gainOf 18 = .ok (.iload_n 1, 1) := by decide +kernel
theorem dX7_gainOf_19 : decode cX7_gainOf 19 = .ok (.iconst 3, 1) := by decide +kernel
theorem dX7_gainOf_20 : decode cX7_gainOf 20 = .ok (.iconst 3, 1) := by decide +kernel
theorem dX7_gainOf_21 : decode cX7_gainOf 21 = .ok (.iload 4, 2) := by decide +kernel
theorem dX7_gainOf_23 : decode cX7_gainOf 23 = .ok (.imul, 1) := by decide +kernel
theorem dX7_gainOf_24 : decode cX7_gainOf 24 = .ok (.iadd, 1) := by decide +kernel
theorem dX7_gainOf_25 : decode cX7_gainOf 25 = .ok (.invokevirtual 65, 3) := by decide +kernel
theorem dX7_gainOf_28 : decode cX7_gainOf 28 = .ok (.isub, 1) := by decide +kernel
theorem dX7_gainOf_29 : decode cX7_gainOf 29 = .ok (.i2l, 1) := by decide +kernel
theorem dX7_gainOf_30 : decode cX7_gainOf 30 = .ok (.lstore 5, 2) := by decide +kernel
theorem dX7_gainOf_32 : decode cX7_gainOf 32 = .ok (.aload_n 0, 1) := by decide +kernel
theorem dX7_gainOf_33 : decode cX7_gainOf 33 = .ok (.iload_n 1, 1) := by decide +kernel
theorem dX7_gainOf_34 : decode cX7_gainOf 34 = .ok (.iconst 3, 1) := by decide +kernel
theorem dX7_gainOf_35 : decode cX7_gainOf 35 = .ok (.iconst 3, 1) := by decide +kernel
theorem dX7_gainOf_36 : decode cX7_gainOf 36 = .ok (.iload 4, 2) := by decide +kernel
theorem dX7_gainOf_38 : decode cX7_gainOf 38 = .ok (.imul, 1) := by decide +kernel
theorem dX7_gainOf_39 : decode cX7_gainOf 39 = .ok (.iadd, 1) := by decide +kernel
theorem dX7_gainOf_40 : decode cX7_gainOf 40 = .ok (.iconst 1, 1) := by decide +kernel
theorem dX7_gainOf_41 : decode cX7_gainOf 41 = .ok (.iadd, 1) := by decide +kernel
theorem dX7_gainOf_42 : decode cX7_gainOf 42 = .ok (.invokevirtual 65, 3) := by decide +kernel
theorem dX7_gainOf_45 : decode cX7_gainOf 45 = .ok (.i2l, 1) := by decide +kernel
theorem dX7_gainOf_46 : decode cX7_gainOf 46 = .ok (.lstore 7, 2) := by decide +kernel
theorem dX7_gainOf_48 : decode cX7_gainOf 48 = .ok (.aload_n 0, 1) := by decide +kernel
theorem dX7_gainOf_49 : decode cX7_gainOf 49 = .ok (.iload_n 1, 1) := by decide +kernel
theorem dX7_gainOf_50 : decode cX7_gainOf 50 = .ok (.iconst 3, 1) := by decide +kernel
theorem dX7_gainOf_51 : decode cX7_gainOf 51 = .ok (.iconst 3, 1) := by decide +kernel
theorem dX7_gainOf_52 : decode cX7_gainOf 52 = .ok (.iload 4, 2) := by decide +kernel
theorem dX7_gainOf_54 : decode cX7_gainOf 54 = .ok (.imul, 1) := by decide +kernel
theorem dX7_gainOf_55 : decode cX7_gainOf 55 = .ok (.iadd, 1) := by decide +kernel
theorem dX7_gainOf_56 : decode cX7_gainOf 56 = .ok (.iconst 2, 1) := by decide +kernel
theorem dX7_gainOf_57 : decode cX7_gainOf 57 = .ok (.iadd, 1) := by decide +kernel
theorem dX7_gainOf_58 : decode cX7_gainOf 58 = .ok (.invokevirtual 65, 3) := by decide +kernel
theorem dX7_gainOf_61 : decode cX7_gainOf 61 = .ok (.i2l, 1) := by decide +kernel
theorem dX7_gainOf_62 : decode cX7_gainOf 62 = .ok (.lstore 9, 2) := by decide +kernel
theorem dX7_gainOf_64 : decode cX7_gainOf 64 = .ok (.iload_n 3, 1) := by decide +kernel
theorem dX7_gainOf_65 : decode cX7_gainOf 65 = .ok (.lload 9, 2) := by decide +kernel
theorem dX7_gainOf_67 : decode cX7_gainOf 67 = .ok (.lload 7, 2) := by decide +kernel
theorem dX7_gainOf_69 : decode cX7_gainOf 69 = .ok (.lmul, 1) := by decide +kernel
theorem dX7_gainOf_70 : decode cX7_gainOf 70 = .ok (.lload 7, 2) := by decide +kernel
theorem dX7_gainOf_72 : decode cX7_gainOf 72 = .ok (.lmul, 1) := by decide +kernel
theorem dX7_gainOf_73 : decode cX7_gainOf 73 = .ok (.lload 7, 2) := by decide +kernel
theorem dX7_gainOf_75 : decode cX7_gainOf 75 = .ok (.lload 7, 2) := by decide +kernel
theorem dX7_gainOf_77 : decode cX7_gainOf 77 = .ok (.lmul, 1) := by decide +kernel
theorem dX7_gainOf_78 : decode cX7_gainOf 78 = .ok (.lload 5, 2) := by decide +kernel
theorem dX7_gainOf_80 : decode cX7_gainOf 80 = .ok (.lload 5, 2) := by decide +kernel
theorem dX7_gainOf_82 : decode cX7_gainOf 82 = .ok (.lmul, 1) := by decide +kernel
theorem dX7_gainOf_83 : decode cX7_gainOf 83 = .ok (.ladd, 1) := by decide +kernel
theorem dX7_gainOf_84 : decode cX7_gainOf 84 = .ok (.ldiv, 1) := by decide +kernel
theorem dX7_gainOf_85 : decode cX7_gainOf 85 = .ok (.l2i, 1) := by decide +kernel
theorem dX7_gainOf_86 : decode cX7_gainOf 86 = .ok (.iadd, 1) := by decide +kernel
theorem dX7_gainOf_87 : decode cX7_gainOf 87 = .ok (.istore_n 3, 1) := by decide +kernel
theorem dX7_gainOf_88 : decode cX7_gainOf 88 = .ok (.iinc 4 1, 3) := by decide +kernel
theorem dX7_gainOf_91 : decode cX7_gainOf 91 = .ok (.goto (-81), 3) := by decide +kernel
theorem dX7_gainOf_94 : decode cX7_gainOf 94 = .ok (.iload_n 3, 1) := by decide +kernel
theorem dX7_gainOf_95 : decode cX7_gainOf 95 = .ok (.ireturn, 1) := by decide +kernel
theorem dX7_limitOf_0 : decode cX7_limitOf 0 = .ok (.bipush (-6), 2) := by decide +kernel
theorem dX7_limitOf_2 : decode cX7_limitOf 2 = .ok (.istore_n 3, 1) := by decide +kernel
theorem dX7_limitOf_3 : decode cX7_limitOf 3 = .ok (.iconst 0, 1) := by decide +kernel
theorem dX7_limitOf_4 : decode cX7_limitOf 4 = .ok (.istore 4, 2) := by decide +kernel
theorem dX7_limitOf_6 : decode cX7_limitOf 6 = .ok (.iload 4, 2) := by decide +kernel
theorem dX7_limitOf_8 : decode cX7_limitOf 8 = .ok (.aload_n 0, 1) := by decide +kernel
theorem dX7_limitOf_9 : decode cX7_limitOf 9 = .ok (.iload_n 1, 1) := by decide +kernel
theorem dX7_limitOf_10 : decode cX7_limitOf 10 = .ok (.bipush 12, 2) := by decide +kernel
theorem dX7_limitOf_12 : decode cX7_limitOf 12 = .ok (.invokevirtual 65, 3) := by decide +kernel
theorem dX7_limitOf_15 : decode cX7_limitOf 15 = .ok (.if_icmp .ge 81, 3) := by decide +kernel
theorem dX7_limitOf_18 : decode cX7_limitOf 18 = .ok (.iload_n 2, 1) := by decide +kernel
theorem dX7_limitOf_19 : decode cX7_limitOf 19 = .ok (.aload_n 0, 1) := by decide +kernel
theorem dX7_limitOf_20 : decode cX7_limitOf 20 = .ok (.iload_n 1, 1) := by decide +kernel
theorem dX7_limitOf_21 : decode cX7_limitOf 21 = .ok (.bipush 13, 2) := by decide +kernel
theorem dX7_limitOf_23 : decode cX7_limitOf 23 = .ok (.iconst 3, 1) := by decide +kernel
theorem dX7_limitOf_24 : decode cX7_limitOf 24 = .ok (.iload 4, 2) := by decide +kernel
theorem dX7_limitOf_26 : decode cX7_limitOf 26 = .ok (.imul, 1) := by decide +kernel
theorem dX7_limitOf_27 : decode cX7_limitOf 27 = .ok (.iadd, 1) := by decide +kernel
theorem dX7_limitOf_28 : decode cX7_limitOf 28 = .ok (.invokevirtual 65, 3) := by decide +kernel
theorem dX7_limitOf_31 : decode cX7_limitOf 31 = .ok (.aload_n 0, 1) := by decide +kernel
theorem dX7_limitOf_32 : decode cX7_limitOf 32 = .ok (.iload_n 1, 1) := by decide +kernel
theorem dX7_limitOf_33 : decode cX7_limitOf 33 = .ok (.bipush 13, 2) := by decide +kernel
theorem dX7_limitOf_35 : decode cX7_limitOf 35 = .ok (.iconst 3, 1) := by decide +kernel
theorem dX7_limitOf_36 : decode cX7_limitOf 36 = .ok (.iload 4, 2) := by decide +kernel
theorem dX7_limitOf_38 : decode cX7_limitOf 38 = .ok (.imul, 1) := by decide +kernel
theorem dX7_limitOf_39 : decode cX7_limitOf 39 = .ok (.iadd, 1) := by decide +kernel
theorem dX7_limitOf_40 : decode cX7_limitOf 40 = .ok (.iconst 1, 1) := by decide +kernel
theorem dX7_limitOf_41 : decode cX7_limitOf 41 = .ok (.iadd, 1) := by decide +kernel
theorem dX7_limitOf_42 : decode cX7_limitOf 42 = .ok (.invokevirtual 65, 3) := by decide +kernel
theorem dX7_limitOf_45 : decode cX7_limitOf 45 = .ok (.invokestatic 41, 3) := by decide +kernel
theorem dX7_limitOf_48 : decode cX7_limitOf 48 = .ok (.istore 5, 2) := by decide +kernel
theorem dX7_limitOf_50 : decode cX7_limitOf 50 = .ok (.aload_n 0, 1) := by decide +kernel
theorem dX7_limitOf_51 : decode cX7_limitOf 51 = .ok (.iload_n 1, 1) := by decide +kernel
theorem dX7_limitOf_52 : decode cX7_limitOf 52 = .ok (.bipush 13, 2) := by decide +kernel
theorem dX7_limitOf_54 : decode cX7_limitOf 54 = .ok (.iconst 3, 1) := by decide +kernel
end
section
theorem dX7_limitOf_55 : decode cX7_limitOf 55 = .ok (.iload 4, 2) := by decide +kernel
theorem dX7_limitOf_57 : decode cX7_limitOf 57 = .ok (.imul, 1) := by decide +kernel
theorem dX7_limitOf_58 : decode cX7_limitOf 58 = .ok (.iadd, 1) := by decide +kernel
theorem dX7_limitOf_59 : decode cX7_limitOf 59 = .ok (.iconst 2, 1) := by decide +kernel
theorem dX7_limitOf_60 : decode cX7_limitOf 60 = .ok (.iadd, 1) := by decide +kernel
theorem dX7_limitOf_61 : decode cX7_limitOf 61 = .ok (.invokevirtual 65, 3) := by decide +kernel
theorem dX7_limitOf_64 : decode cX7_limitOf 64 = .ok (.istore 6, 2) := by decide +kernel
theorem dX7_limitOf_66 : decode cX7_limitOf 66 = .ok (.iload 5, 2) := by decide +kernel
theorem dX7_limitOf_68 : decode cX7_limitOf 68 = .ok (.ifCond .eq 20, 3) := by decide +kernel
theorem dX7_limitOf_71 : decode cX7_limitOf 71 = .ok (.iload_n 3, 1) := by decide +kernel
theorem dX7_limitOf_72 : decode cX7_limitOf 72 = .ok (.bipush (-6), 2) := by decide +kernel
theorem dX7_limitOf_74 : decode cX7_limitOf 74 = .ok (.if_icmp .eq 9, 3) := by decide +kernel
theorem dX7_limitOf_77 : decode cX7_limitOf 77 = .ok (.iload 6, 2) := by decide +kernel
theorem dX7_limitOf_79 : decode cX7_limitOf 79 = .ok (.iload_n 3, 1) := by decide +kernel
theorem dX7_limitOf_80 : decode cX7_limitOf 80 = .ok (.if_icmp .ge 8, 3) := by decide +kernel
theorem dX7_limitOf_83 : decode cX7_limitOf 83 = .ok (.iload 6, 2) := by decide +kernel
theorem dX7_limitOf_85 : decode cX7_limitOf 85 = .ok (.goto 4, 3) := by decide +kernel
theorem dX7_limitOf_88 : decode cX7_limitOf 88 = .ok (.iload_n 3, 1) := by decide +kernel
theorem dX7_limitOf_89 : decode cX7_limitOf 89 = .ok (.istore_n 3, 1) := by decide +kernel
theorem dX7_limitOf_90 : decode cX7_limitOf 90 = .ok (.iinc 4 1, 3) := by decide +kernel
theorem dX7_limitOf_93 : decode cX7_limitOf 93 = .ok (.goto (-87), 3) := by decide +kernel
theorem dX7_limitOf_96 : decode cX7_limitOf 96 = .ok (.iload_n 3, 1) := by decide +kernel
theorem dX7_limitOf_97 : decode cX7_limitOf 97 = .ok (.ireturn, 1) := by decide +kernel
theorem dX7_refusal_0 : decode cX7_refusal 0 = .ok (.iconst 0, 1) := by decide +kernel
theorem dX7_refusal_1 : decode cX7_refusal 1 = .ok (.istore_n 1, 1) := by decide +kernel
theorem dX7_refusal_2 : decode cX7_refusal 2 = .ok (.iconst 0, 1) := by decide +kernel
theorem dX7_refusal_3 : decode cX7_refusal 3 = .ok (.istore_n 2, 1) := by decide +kernel
theorem dX7_refusal_4 : decode cX7_refusal 4 = .ok (.iload_n 2, 1) := by decide +kernel
theorem dX7_refusal_5 : decode cX7_refusal 5 = .ok (.aload_n 0, 1) := by decide +kernel
theorem dX7_refusal_6 : decode cX7_refusal 6 = .ok (.getfield 7, 3) := by decide +kernel
theorem dX7_refusal_9 : decode cX7_refusal 9 = .ok (.iconst 5, 1) := by decide +kernel
theorem dX7_refusal_10 : decode cX7_refusal 10 = .ok (.iaload, 1) := by decide +kernel
theorem dX7_refusal_11 : decode cX7_refusal 11 = .ok (.if_icmp .ge 29, 3) := by decide +kernel
theorem dX7_refusal_14 : decode cX7_refusal 14 = .ok (.iload_n 1, 1) := by decide +kernel
theorem dX7_refusal_15 : decode cX7_refusal 15 = .ok (.ifCond .ne 13, 3) := by decide +kernel
theorem dX7_refusal_18 : decode cX7_refusal 18 = .ok (.aload_n 0, 1) := by decide +kernel
theorem dX7_refusal_19 : decode cX7_refusal 19 = .ok (.iload_n 2, 1) := by decide +kernel
theorem dX7_refusal_20 : decode cX7_refusal 20 = .ok (.iconst 0, 1) := by decide +kernel
theorem dX7_refusal_21 : decode cX7_refusal 21 = .ok (.invokevirtual 65, 3) := by decide +kernel
theorem dX7_refusal_24 : decode cX7_refusal 24 = .ok (.iconst 1, 1) := by decide +kernel
theorem dX7_refusal_25 : decode cX7_refusal 25 = .ok (.if_icmp .ne 7, 3) := by decide +kernel
theorem dX7_refusal_28 : decode cX7_refusal 28 = .ok (.iconst 1, 1) := by decide +kernel
theorem dX7_refusal_29 : decode cX7_refusal 29 = .ok (.goto 4, 3) := by decide +kernel
theorem dX7_refusal_32 : decode cX7_refusal 32 = .ok (.iconst 0, 1) := by decide +kernel
theorem dX7_refusal_33 : decode cX7_refusal 33 = .ok (.istore_n 1, 1) := by decide +kernel
theorem dX7_refusal_34 : decode cX7_refusal 34 = .ok (.iinc 2 1, 3) := by decide +kernel
theorem dX7_refusal_37 : decode cX7_refusal 37 = .ok (.goto (-33), 3) := by decide +kernel
theorem dX7_refusal_40 : decode cX7_refusal 40 = .ok (.aload_n 0, 1) := by decide +kernel
theorem dX7_refusal_41 : decode cX7_refusal 41 = .ok (.invokevirtual 45, 3) := by decide +kernel
theorem dX7_refusal_44 : decode cX7_refusal 44 = .ok (.ifCond .ne 7, 3) := by decide +kernel
theorem dX7_refusal_47 : decode cX7_refusal 47 = .ok (.iconst 1, 1) := by decide +kernel
theorem dX7_refusal_48 : decode cX7_refusal 48 = .ok (.goto 38, 3) := by decide +kernel
theorem dX7_refusal_51 : decode cX7_refusal 51 = .ok (.aload_n 0, 1) := by decide +kernel
theorem dX7_refusal_52 : decode cX7_refusal 52 = .ok (.getfield 7, 3) := by decide +kernel
theorem dX7_refusal_55 : decode cX7_refusal 55 = .ok (.iconst 0, 1) := by decide +kernel
theorem dX7_refusal_56 : decode cX7_refusal 56 = .ok (.iaload, 1) := by decide +kernel
theorem dX7_refusal_57 : decode cX7_refusal 57 = .ok (.ifCond .ne 7, 3) := by decide +kernel
theorem dX7_refusal_60 : decode cX7_refusal 60 = .ok (.iconst 2, 1) := by decide +kernel
theorem dX7_refusal_61 : decode cX7_refusal 61 = .ok (.goto 25, 3) := by decide +kernel
theorem dX7_refusal_64 : decode cX7_refusal 64 = .ok (.aload_n 0, 1) := by decide +kernel
theorem dX7_refusal_65 : decode cX7_refusal 65 = .ok (.getfield 7, 3) := by decide +kernel
theorem dX7_refusal_68 : decode cX7_refusal 68 = .ok (.iconst 4, 1) := by decide +kernel
theorem dX7_refusal_69 : decode cX7_refusal 69 = .ok (.iaload, 1) := by decide +kernel
theorem dX7_refusal_70 : decode cX7_refusal 70 = .ok (.ifCond .ne 7, 3) := by decide +kernel
theorem dX7_refusal_73 : decode cX7_refusal 73 = .ok (.iconst 3, 1) := by decide +kernel
theorem dX7_refusal_74 : decode cX7_refusal 74 = .ok (.goto 12, 3) := by decide +kernel
theorem dX7_refusal_77 : decode cX7_refusal 77 = .ok (.iload_n 1, 1) := by decide +kernel
theorem dX7_refusal_78 : decode cX7_refusal 78 = .ok (.ifCond .eq 7, 3) := by decide +kernel
theorem dX7_refusal_81 : decode cX7_refusal 81 = .ok (.iconst 0, 1) := by decide +kernel
theorem dX7_refusal_82 : decode cX7_refusal 82 = .ok (.goto 4, 3) := by decide +kernel
theorem dX7_refusal_85 : decode cX7_refusal 85 = .ok (.iconst 4, 1) := by decide +kernel
theorem dX7_refusal_86 : decode cX7_refusal 86 = .ok (.ireturn, 1) := by decide +kernel
theorem dX7_starts_0 : decode cX7_starts 0 = .ok (.aload_n 0, 1) := by decide +kernel
theorem dX7_starts_1 : decode cX7_starts 1 = .ok (.invokevirtual 23, 3) := by decide +kernel
theorem dX7_starts_4 : decode cX7_starts 4 = .ok (.aload_n 0, 1) := by decide +kernel
theorem dX7_starts_5 : decode cX7_starts 5 = .ok (.getfield 7, 3) := by decide +kernel
theorem dX7_starts_8 : decode cX7_starts 8 = .ok (.bipush 11, 2) := by decide +kernel
theorem dX7_starts_10 : decode cX7_starts 10 = .ok (.iconst 0, 1) := by decide +kernel
theorem dX7_starts_11 : decode cX7_starts 11 = .ok (.iastore, 1) := by decide +kernel
theorem dX7_starts_12 : decode cX7_starts 12 = .ok (.aload_n 0, 1) := by decide +kernel
theorem dX7_starts_13 : decode cX7_starts 13 = .ok (.getfield 7, 3) := by decide +kernel
theorem dX7_starts_16 : decode cX7_starts 16 = .ok (.iconst 1, 1) := by decide +kernel
theorem dX7_starts_17 : decode cX7_starts 17 = .ok (.iconst 1, 1) := by decide +kernel
theorem dX7_starts_18 : decode cX7_starts 18 = .ok (.iastore, 1) := by decide +kernel
theorem dX7_starts_19 : decode cX7_starts 19 = .ok (.aload_n 0, 1) := by decide +kernel
theorem dX7_starts_20 : decode cX7_starts 20 = .ok (.getfield 7, 3) := by decide +kernel
theorem dX7_starts_23 : decode cX7_starts 23 = .ok (.iconst 2, 1) := by decide +kernel
theorem dX7_starts_24 : decode cX7_starts 24 = .ok (.iconst 0, 1) := by decide +kernel
theorem dX7_starts_25 : decode cX7_starts 25 = .ok (.iastore, 1) := by decide +kernel
theorem dX7_starts_26 : decode cX7_starts 26 = .ok (.aload_n 0, 1) := by decide +kernel
theorem dX7_starts_27 : decode cX7_starts 27 = .ok (.getfield 7, 3) := by decide +kernel
theorem dX7_starts_30 : decode cX7_starts 30 = .ok (.iconst 3, 1) := by decide +kernel
theorem dX7_starts_31 : decode cX7_starts 31 = .ok (.iload_n 1, 1) := by decide +kernel
theorem dX7_starts_32 : decode cX7_starts 32 = .ok (.iastore, 1) := by decide +kernel
theorem dX7_starts_33 : decode cX7_starts 33 = .ok (.aload_n 0, 1) := by decide +kernel
theorem dX7_starts_34 : decode cX7_starts 34 = .ok (.getfield 7, 3) := by decide +kernel
theorem dX7_starts_37 : decode cX7_starts 37 = .ok (.sipush 1608, 3) := by decide +kernel
theorem dX7_starts_40 : decode cX7_starts 40 = .ok (.iload_n 1, 1) := by decide +kernel
theorem dX7_starts_41 : decode cX7_starts 41 = .ok (.iastore, 1) := by decide +kernel
theorem dX7_starts_42 : decode cX7_starts 42 = .ok (.return_, 1) := by decide +kernel
theorem dX7_start_0 : decode cX7_start 0 = .ok (.iload_n 1, 1) := by decide +kernel
theorem dX7_start_1 : decode cX7_start 1 = .ok (.iconst 1, 1) := by decide +kernel
theorem dX7_start_2 : decode cX7_start 2 = .ok (.sipush 1000, 3) := by decide +kernel
theorem dX7_start_5 : decode cX7_start 5 = .ok (.invokestatic 41, 3) := by decide +kernel
theorem dX7_start_8 : decode cX7_start 8 = .ok (.ifCond .ne 6, 3) := by decide +kernel
theorem dX7_start_11 : decode cX7_start 11 = .ok (.bipush (-2), 2) := by decide +kernel
theorem dX7_start_13 : decode cX7_start 13 = .ok (.ireturn, 1) := by decide +kernel
theorem dX7_start_14 : decode cX7_start 14 = .ok (.aload_n 0, 1) := by decide +kernel
theorem dX7_start_15 : decode cX7_start 15 = .ok (.invokevirtual 81, 3) := by decide +kernel
theorem dX7_start_18 : decode cX7_start 18 = .ok (.ifCond .eq 17, 3) := by decide +kernel
theorem dX7_start_21 : decode cX7_start 21 = .ok (.aload_n 0, 1) := by decide +kernel
theorem dX7_start_22 : decode cX7_start 22 = .ok (.getfield 7, 3) := by decide +kernel
theorem dX7_start_25 : decode cX7_start 25 = .ok (.bipush 11, 2) := by decide +kernel
theorem dX7_start_27 : decode cX7_start 27 = .ok (.aload_n 0, 1) := by decide +kernel
theorem dX7_start_28 : decode cX7_start 28 = .ok (.invokevirtual 81, 3) := by decide +kernel
theorem dX7_start_31 : decode cX7_start 31 = .ok (.iastore, 1) := by decide +kernel
theorem dX7_start_32 : decode cX7_start 32 = .ok (.bipush (-5), 2) := by decide +kernel
theorem dX7_start_34 : decode cX7_start 34 = .ok (.ireturn, 1) := by decide +kernel
theorem dX7_start_35 : decode cX7_start 35 = .ok (.aload_n 0, 1) := by decide +kernel
theorem dX7_start_36 : decode cX7_start 36 = .ok (.invokevirtual 53, 3) := by decide +kernel
theorem dX7_start_39 : decode cX7_start 39 = .ok (.aload_n 0, 1) := by decide +kernel
theorem dX7_start_40 : decode cX7_start 40 = .ok (.iload_n 1, 1) := by decide +kernel
theorem dX7_start_41 : decode cX7_start 41 = .ok (.invokevirtual 85, 3) := by decide +kernel
theorem dX7_start_44 : decode cX7_start 44 = .ok (.aload_n 0, 1) := by decide +kernel
theorem dX7_start_45 : decode cX7_start 45 = .ok (.getfield 7, 3) := by decide +kernel
theorem dX7_start_48 : decode cX7_start 48 = .ok (.iconst 0, 1) := by decide +kernel
theorem dX7_start_49 : decode cX7_start 49 = .ok (.iaload, 1) := by decide +kernel
theorem dX7_start_50 : decode cX7_start 50 = .ok (.ireturn, 1) := by decide +kernel
theorem dX7_averagedBy_0 : decode cX7_averagedBy 0 = .ok (.aload_n 0, 1) := by decide +kernel
theorem dX7_averagedBy_1 : decode cX7_averagedBy 1 = .ok (.iconst 1, 1) := by decide +kernel
theorem dX7_averagedBy_2 : decode cX7_averagedBy 2 = .ok (.invokevirtual 78, 3) := by decide +kernel
theorem dX7_averagedBy_5 : decode cX7_averagedBy 5 = .ok (.istore_n 3, 1) := by decide +kernel
theorem dX7_averagedBy_6 : decode cX7_averagedBy 6 = .ok (.iload_n 1, 1) := by decide +kernel
theorem dX7_averagedBy_7 : decode cX7_averagedBy 7 = .ok (.bipush (-6), 2) := by decide +kernel
theorem dX7_averagedBy_9 : decode cX7_averagedBy 9 = .ok (.if_icmp .ne 7, 3) := by decide +kernel
theorem dX7_averagedBy_12 : decode cX7_averagedBy 12 = .ok (.iload_n 2, 1) := by decide +kernel
theorem dX7_averagedBy_13 : decode cX7_averagedBy 13 = .ok (.goto 17, 3) := by decide +kernel
theorem dX7_averagedBy_16 : decode cX7_averagedBy 16 = .ok (.iload_n 1, 1) := by decide +kernel
theorem dX7_averagedBy_17 : decode cX7_averagedBy 17 = .ok (.i2l, 1) := by decide +kernel
theorem dX7_averagedBy_18 : decode cX7_averagedBy 18 = .ok (.iload_n 3, 1) := by decide +kernel
theorem dX7_averagedBy_19 : decode cX7_averagedBy 19 = .ok (.iconst 1, 1) := by decide +kernel
theorem dX7_averagedBy_20 : decode cX7_averagedBy 20 = .ok (.isub, 1) := by decide +kernel
theorem dX7_averagedBy_21 : decode cX7_averagedBy 21 = .ok (.i2l, 1) := by decide +kernel
theorem dX7_averagedBy_22 : decode cX7_averagedBy 22 = .ok (.lmul, 1) := by decide +kernel
theorem dX7_averagedBy_23 : decode cX7_averagedBy 23 = .ok (.iload_n 2, 1) := by decide +kernel
theorem dX7_averagedBy_24 : decode cX7_averagedBy 24 = .ok (.i2l, 1) := by decide +kernel
theorem dX7_averagedBy_25 : decode cX7_averagedBy 25 = .ok (.ladd, 1) := by decide +kernel
theorem dX7_averagedBy_26 : decode cX7_averagedBy 26 = .ok (.iload_n 3, 1) := by decide +kernel
theorem dX7_averagedBy_27 : decode cX7_averagedBy 27 = .ok (.i2l, 1) := by decide +kernel
theorem dX7_averagedBy_28 : decode cX7_averagedBy 28 = .ok (.ldiv, 1) := by decide +kernel
theorem dX7_averagedBy_29 : decode cX7_averagedBy 29 = .ok (.l2i, 1) := by decide +kernel
theorem dX7_averagedBy_30 : decode cX7_averagedBy 30 = .ok (.ireturn, 1) := by decide +kernel
theorem dX7_controlLevel_0 : decode cX7_controlLevel 0 = .ok (.lconst 0, 1) := by decide +kernel
theorem dX7_controlLevel_1 : decode cX7_controlLevel 1 = .ok (.lstore_n 1, 1) := by decide +kernel
theorem dX7_controlLevel_2 : decode cX7_controlLevel 2 = .ok (.iconst 0, 1) := by decide +kernel
theorem dX7_controlLevel_3 : decode cX7_controlLevel 3 = .ok (.istore_n 3, 1) := by decide +kernel
theorem dX7_controlLevel_4 : decode cX7_controlLevel 4 = .ok (.iconst 0, 1) := by decide +kernel
theorem dX7_controlLevel_5 : decode cX7_controlLevel 5 = .ok (.istore 4, 2) := by decide +kernel
theorem dX7_controlLevel_7 : decode cX7_controlLevel 7 = .ok (.iconst 0, 1) := by decide +kernel
theorem dX7_controlLevel_8 : decode cX7_controlLevel 8 = .ok (.istore 5, 2) := by decide +kernel
theorem dX7_controlLevel_10 : decode cX7_controlLevel 10 = .ok (.iconst 0, 1) := by decide +kernel
theorem dX7_controlLevel_11 : decode cX7_controlLevel 11 = .ok (.istore 6, 2) := by decide +kernel
theorem dX7_controlLevel_13 : decode cX7_controlLevel 13 = .ok (.iload 6, 2) := by decide +kernel
theorem dX7_controlLevel_15 : decode cX7_controlLevel 15 = .ok (.aload_n 0, 1) := by decide +kernel
theorem dX7_controlLevel_16 : decode cX7_controlLevel 16 = .ok (.getfield 7, 3) := by decide +kernel
theorem dX7_controlLevel_19 : decode cX7_controlLevel 19 = .ok (.iconst 5, 1) := by decide +kernel
theorem dX7_controlLevel_20 : decode cX7_controlLevel 20 = .ok (.iaload, 1) := by decide +kernel
theorem dX7_controlLevel_21 : decode cX7_controlLevel 21 = .ok (.if_icmp .ge 92, 3) := by decide +kernel
theorem dX7_controlLevel_24 : decode cX7_controlLevel 24 = .ok (.aload_n 0, 1) := by decide +kernel
theorem dX7_controlLevel_25 : decode cX7_controlLevel 25 = .ok (.iload 6, 2) := by decide +kernel
theorem dX7_controlLevel_27 : decode cX7_controlLevel 27 = .ok (.iconst 0, 1) := by decide +kernel
theorem dX7_controlLevel_28 : decode cX7_controlLevel 28 = .ok (.invokevirtual 65, 3) := by decide +kernel
theorem dX7_controlLevel_31 : decode cX7_controlLevel 31 = .ok (.iconst 1, 1) := by decide +kernel
theorem dX7_controlLevel_32 : decode cX7_controlLevel 32 = .ok (.if_icmp .ne 75, 3) := by decide +kernel
theorem dX7_controlLevel_35 : decode cX7_controlLevel 35 = .ok (.aload_n 0, 1) := by decide +kernel
theorem dX7_controlLevel_36 : decode cX7_controlLevel 36 = .ok (.getfield 7, 3) := by decide +kernel
theorem dX7_controlLevel_39 : decode cX7_controlLevel 39 = .ok (.sipush 308, 3) := by decide +kernel
theorem dX7_controlLevel_42 : decode cX7_controlLevel 42 = .ok (.bipush 6, 2) := by decide +kernel
theorem dX7_controlLevel_44 : decode cX7_controlLevel 44 = .ok (.aload_n 0, 1) := by decide +kernel
theorem dX7_controlLevel_45 : decode cX7_controlLevel 45 = .ok (.getfield 7, 3) := by decide +kernel
theorem dX7_controlLevel_48 : decode cX7_controlLevel 48 = .ok (.iconst 2, 1) := by decide +kernel
theorem dX7_controlLevel_49 : decode cX7_controlLevel 49 = .ok (.iaload, 1) := by decide +kernel
theorem dX7_controlLevel_50 : decode cX7_controlLevel 50 = .ok (.imul, 1) := by decide +kernel
theorem dX7_controlLevel_51 : decode cX7_controlLevel 51 = .ok (.iadd, 1) := by decide +kernel
theorem dX7_controlLevel_52 : decode cX7_controlLevel 52 = .ok (.iload 6, 2) := by decide +kernel
theorem dX7_controlLevel_54 : decode cX7_controlLevel 54 = .ok (.iadd, 1) := by decide +kernel
theorem dX7_controlLevel_55 : decode cX7_controlLevel 55 = .ok (.iaload, 1) := by decide +kernel
theorem dX7_controlLevel_56 : decode cX7_controlLevel 56 = .ok (.istore 7, 2) := by decide +kernel
theorem dX7_controlLevel_58 : decode cX7_controlLevel 58 = .ok (.iload_n 3, 1) := by decide +kernel
theorem dX7_controlLevel_59 : decode cX7_controlLevel 59 = .ok (.ifCond .eq 10, 3) := by decide +kernel
theorem dX7_controlLevel_62 : decode cX7_controlLevel 62 = .ok (.iload 7, 2) := by decide +kernel
theorem dX7_controlLevel_64 : decode cX7_controlLevel 64 = .ok (.iload 4, 2) := by decide +kernel
theorem dX7_controlLevel_66 : decode cX7_controlLevel 66 = .ok (.if_icmp .le 8, 3) := by decide +kernel
theorem dX7_controlLevel_69 : decode cX7_controlLevel 69 = .ok (.iload 7, 2) := by decide +kernel
theorem dX7_controlLevel_71 : decode cX7_controlLevel 71 = .ok (.goto 5, 3) := by decide +kernel
theorem dX7_controlLevel_74 : decode cX7_controlLevel 74 = .ok (.iload 4, 2) := by decide +kernel
theorem dX7_controlLevel_76 : decode cX7_controlLevel 76 = .ok (.istore 4, 2) := by decide +kernel
theorem dX7_controlLevel_78 : decode cX7_controlLevel 78 = .ok (.iload_n 3, 1) := by decide +kernel
theorem dX7_controlLevel_79 : decode cX7_controlLevel 79 = .ok (.ifCond .eq 10, 3) := by decide +kernel
theorem dX7_controlLevel_82 : decode cX7_controlLevel 82 = .ok (.iload 7, 2) := by decide +kernel
theorem dX7_controlLevel_84 : decode cX7_controlLevel 84 = .ok (.iload 5, 2) := by decide +kernel
theorem dX7_controlLevel_86 : decode cX7_controlLevel 86 = .ok (.if_icmp .ge 8, 3) := by decide +kernel
theorem dX7_controlLevel_89 : decode cX7_controlLevel 89 = .ok (.iload 7, 2) := by decide +kernel
theorem dX7_controlLevel_91 : decode cX7_controlLevel 91 = .ok (.goto 5, 3) := by decide +kernel
theorem dX7_controlLevel_94 : decode cX7_controlLevel 94 = .ok (.iload 5, 2) := by decide +kernel
theorem dX7_controlLevel_96 : decode cX7_controlLevel 96 = .ok (.istore 5, 2) := by decide +kernel
theorem dX7_controlLevel_98 : decode cX7_controlLevel 98 = .ok (.lload_n 1, 1) := by decide +kernel
theorem dX7_controlLevel_99 : decode cX7_controlLevel 99 = .ok (.iload 7, 2) := by decide +kernel
theorem dX7_controlLevel_101 : decode cX7_controlLevel 101 = .ok (.i2l, 1) := by decide +kernel
theorem dX7_controlLevel_102 : decode cX7_controlLevel 102 = .ok (.ladd, 1) := by decide +kernel
theorem dX7_controlLevel_103 : decode cX7_controlLevel 103 = .ok (.lstore_n 1, 1) := by decide +kernel
theorem dX7_controlLevel_104 : decode cX7_controlLevel 104 = .ok (.iinc 3 1, 3) := by decide +kernel
theorem dX7_controlLevel_107 : decode cX7_controlLevel 107 = .ok (.iinc 6 1, 3) := by decide +kernel
theorem dX7_controlLevel_110 : decode cX7_controlLevel 110 = .ok (.goto (-97), 3) := by decide +kernel
theorem dX7_controlLevel_113 : decode cX7_controlLevel 113 = .ok (.aload_n 0, 1) := by decide +kernel
theorem dX7_controlLevel_114 : decode cX7_controlLevel 114 = .ok (.iconst 0, 1) := by decide +kernel
theorem dX7_controlLevel_115 : decode cX7_controlLevel 115 = .ok (.invokevirtual 78, 3) := by decide +kernel
theorem dX7_controlLevel_118 : decode cX7_controlLevel 118 = .ok (.ifCond .ne 11, 3) := by decide +kernel
theorem dX7_controlLevel_121 : decode cX7_controlLevel 121 = .ok (.lload_n 1, 1) := by decide +kernel
theorem dX7_controlLevel_122 : decode cX7_controlLevel 122 = .ok (.iload_n 3, 1) := by decide +kernel
theorem dX7_controlLevel_123 : decode cX7_controlLevel 123 = .ok (.i2l, 1) := by decide +kernel
theorem dX7_controlLevel_124 : decode cX7_controlLevel 124 = .ok (.ldiv, 1) := by decide +kernel
theorem dX7_controlLevel_125 : decode cX7_controlLevel 125 = .ok (.l2i, 1) := by decide +kernel
theorem dX7_controlLevel_126 : decode cX7_controlLevel 126 = .ok (.goto 19, 3) := by decide +kernel
theorem dX7_controlLevel_129 : decode cX7_controlLevel 129 = .ok (.aload_n 0, 1) := by decide +kernel
theorem dX7_controlLevel_130 : decode cX7_controlLevel 130 = .ok (.iconst 0, 1) := by decide +kernel
theorem dX7_controlLevel_131 : decode cX7_controlLevel 131 = .ok (.invokevirtual 78, 3) := by decide +kernel
theorem dX7_controlLevel_134 : decode cX7_controlLevel 134 = .ok (.iconst 1, 1) := by decide +kernel
theorem dX7_controlLevel_135 : decode cX7_controlLevel 135 = .ok (.if_icmp .ne 8, 3) := by decide +kernel
theorem dX7_controlLevel_138 : decode cX7_controlLevel 138 = .ok (.iload 4, 2) := by decide +kernel
theorem dX7_controlLevel_140 : decode cX7_controlLevel 140 = .ok (.goto 5, 3) := by decide +kernel
theorem dX7_controlLevel_143 : decode cX7_controlLevel 143 = .ok (.iload 5, 2) := by decide +kernel
theorem dX7_controlLevel_145 : decode cX7_controlLevel 145 = .ok (.ireturn, 1) := by decide +kernel
theorem dX7_measures_0 : decode cX7_measures 0 = .ok (.aload_n 0, 1) := by decide +kernel
theorem dX7_measures_1 : decode cX7_measures 1 = .ok (.getfield 7, 3) := by decide +kernel
theorem dX7_measures_4 : decode cX7_measures 4 = .ok (.iconst 2, 1) := by decide +kernel
theorem dX7_measures_5 : decode cX7_measures 5 = .ok (.iaload, 1) := by decide +kernel
theorem dX7_measures_6 : decode cX7_measures 6 = .ok (.istore_n 1, 1) := by decide +kernel
theorem dX7_measures_7 : decode cX7_measures 7 = .ok (.aload_n 0, 1) := by decide +kernel
theorem dX7_measures_8 : decode cX7_measures 8 = .ok (.getfield 7, 3) := by decide +kernel
theorem dX7_measures_11 : decode cX7_measures 11 = .ok (.sipush 208, 3) := by decide +kernel
theorem dX7_measures_14 : decode cX7_measures 14 = .ok (.iload_n 1, 1) := by decide +kernel
theorem dX7_measures_15 : decode cX7_measures 15 = .ok (.iadd, 1) := by decide +kernel
theorem dX7_measures_16 : decode cX7_measures 16 = .ok (.iaload, 1) := by decide +kernel
theorem dX7_measures_17 : decode cX7_measures 17 = .ok (.istore_n 2, 1) := by decide +kernel
theorem dX7_measures_18 : decode cX7_measures 18 = .ok (.aload_n 0, 1) := by decide +kernel
theorem dX7_measures_19 : decode cX7_measures 19 = .ok (.getfield 7, 3) := by decide +kernel
theorem dX7_measures_22 : decode cX7_measures 22 = .ok (.iconst 3, 1) := by decide +kernel
theorem dX7_measures_23 : decode cX7_measures 23 = .ok (.iaload, 1) := by decide +kernel
theorem dX7_measures_24 : decode cX7_measures 24 = .ok (.i2l, 1) := by decide +kernel
theorem dX7_measures_25 : decode cX7_measures 25 = .ok (.lstore_n 3, 1) := by decide +kernel
theorem dX7_measures_26 : decode cX7_measures 26 = .ok (.iconst 0, 1) := by decide +kernel
theorem dX7_measures_27 : decode cX7_measures 27 = .ok (.istore 5, 2) := by decide +kernel
theorem dX7_measures_29 : decode cX7_measures 29 = .ok (.iload 5, 2) := by decide +kernel
theorem dX7_measures_31 : decode cX7_measures 31 = .ok (.aload_n 0, 1) := by decide +kernel
theorem dX7_measures_32 : decode cX7_measures 32 = .ok (.getfield 7, 3) := by decide +kernel
theorem dX7_measures_35 : decode cX7_measures 35 = .ok (.iconst 5, 1) := by decide +kernel
theorem dX7_measures_36 : decode cX7_measures 36 = .ok (.iaload, 1) := by decide +kernel
theorem dX7_measures_37 : decode cX7_measures 37 = .ok (.if_icmp .ge 98, 3) := by decide +kernel
theorem dX7_measures_40 : decode cX7_measures 40 = .ok (.bipush 6, 2) := by decide +kernel
theorem dX7_measures_42 : decode cX7_measures 42 = .ok (.iload_n 1, 1) := by decide +kernel
theorem dX7_measures_43 : decode cX7_measures 43 = .ok (.imul, 1) := by decide +kernel
theorem dX7_measures_44 : decode cX7_measures 44 = .ok (.iload 5, 2) := by decide +kernel
theorem dX7_measures_46 : decode cX7_measures 46 = .ok (.iadd, 1) := by decide +kernel
theorem dX7_measures_47 : decode cX7_measures 47 = .ok (.istore 6, 2) := by decide +kernel
theorem dX7_measures_49 : decode cX7_measures 49 = .ok (.aload_n 0, 1) := by decide +kernel
theorem dX7_measures_50 : decode cX7_measures 50 = .ok (.iload 5, 2) := by decide +kernel
theorem dX7_measures_52 : decode cX7_measures 52 = .ok (.iload_n 2, 1) := by decide +kernel
theorem dX7_measures_53 : decode cX7_measures 53 = .ok (.invokevirtual 62, 3) := by decide +kernel
theorem dX7_measures_56 : decode cX7_measures 56 = .ok (.i2l, 1) := by decide +kernel
theorem dX7_measures_57 : decode cX7_measures 57 = .ok (.lload_n 3, 1) := by decide +kernel
theorem dX7_measures_58 : decode cX7_measures 58 = .ok (.lmul, 1) := by decide +kernel
theorem dX7_measures_59 : decode cX7_measures 59 = .ok (.ldc2_w 89, 3) := by decide +kernel
theorem dX7_measures_62 : decode cX7_measures 62 = .ok (.ldiv, 1) := by decide +kernel
theorem dX7_measures_63 : decode cX7_measures 63 = .ok (.l2i, 1) := by decide +kernel
theorem dX7_measures_64 : decode cX7_measures 64 = .ok (.istore 7, 2) := by decide +kernel
theorem dX7_measures_66 : decode cX7_measures 66 = .ok (.aload_n 0, 1) := by decide +kernel
theorem dX7_measures_67 : decode cX7_measures 67 = .ok (.getfield 7, 3) := by decide +kernel
theorem dX7_measures_70 : decode cX7_measures 70 = .ok (.sipush 308, 3) := by decide +kernel
theorem dX7_measures_73 : decode cX7_measures 73 = .ok (.iload 6, 2) := by decide +kernel
theorem dX7_measures_75 : decode cX7_measures 75 = .ok (.iadd, 1) := by decide +kernel
theorem dX7_measures_76 : decode cX7_measures 76 = .ok (.iload 7, 2) := by decide +kernel
theorem dX7_measures_78 : decode cX7_measures 78 = .ok (.iastore, 1) := by decide +kernel
theorem dX7_measures_79 : decode cX7_measures 79 = .ok (.aload_n 0, 1) := by decide +kernel
theorem dX7_measures_80 : decode cX7_measures 80 = .ok (.getfield 20, 3) := by decide +kernel
theorem dX7_measures_83 : decode cX7_measures 83 = .ok (.iload 5, 2) := by decide +kernel
theorem dX7_measures_85 : decode cX7_measures 85 = .ok (.iload 7, 2) := by decide +kernel
theorem dX7_measures_87 : decode cX7_measures 87 = .ok (.i2l, 1) := by decide +kernel
theorem dX7_measures_88 : decode cX7_measures 88 = .ok (.ldc2_w 89, 3) := by decide +kernel
theorem dX7_measures_91 : decode cX7_measures 91 = .ok (.lmul, 1) := by decide +kernel
theorem dX7_measures_92 : decode cX7_measures 92 = .ok (.lload_n 3, 1) := by decide +kernel
theorem dX7_measures_93 : decode cX7_measures 93 = .ok (.ldiv, 1) := by decide +kernel
theorem dX7_measures_94 : decode cX7_measures 94 = .ok (.l2i, 1) := by decide +kernel
theorem dX7_measures_95 : decode cX7_measures 95 = .ok (.iastore, 1) := by decide +kernel
theorem dX7_measures_96 : decode cX7_measures 96 = .ok (.aload_n 0, 1) := by decide +kernel
theorem dX7_measures_97 : decode cX7_measures 97 = .ok (.getfield 7, 3) := by decide +kernel
theorem dX7_measures_100 : decode cX7_measures 100 = .ok (.sipush 908, 3) := by decide +kernel
theorem dX7_measures_103 : decode cX7_measures 103 = .ok (.iload 6, 2) := by decide +kernel
theorem dX7_measures_105 : decode cX7_measures 105 = .ok (.iadd, 1) := by decide +kernel
theorem dX7_measures_106 : decode cX7_measures 106 = .ok (.aload_n 0, 1) := by decide +kernel
theorem dX7_measures_107 : decode cX7_measures 107 = .ok (.aload_n 0, 1) := by decide +kernel
theorem dX7_measures_108 : decode cX7_measures 108 = .ok (.getfield 7, 3) := by decide +kernel
theorem dX7_measures_111 : decode cX7_measures 111 = .ok (.sipush 908, 3) := by decide +kernel
theorem dX7_measures_114 : decode cX7_measures 114 = .ok (.iload 6, 2) := by decide +kernel
theorem dX7_measures_116 : decode cX7_measures 116 = .ok (.iadd, 1) := by decide +kernel
theorem dX7_measures_117 : decode cX7_measures 117 = .ok (.iaload, 1) := by decide +kernel
theorem dX7_measures_118 : decode cX7_measures 118 = .ok (.aload_n 0, 1) := by decide +kernel
theorem dX7_measures_119 : decode cX7_measures 119 = .ok (.getfield 20, 3) := by decide +kernel
theorem dX7_measures_122 : decode cX7_measures 122 = .ok (.iload 5, 2) := by decide +kernel
theorem dX7_measures_124 : decode cX7_measures 124 = .ok (.iaload, 1) := by decide +kernel
theorem dX7_measures_125 : decode cX7_measures 125 = .ok (.invokevirtual 91, 3) := by decide +kernel
theorem dX7_measures_128 : decode cX7_measures 128 = .ok (.iastore, 1) := by decide +kernel
theorem dX7_measures_129 : decode cX7_measures 129 = .ok (.iinc 5 1, 3) := by decide +kernel
theorem dX7_measures_132 : decode cX7_measures 132 = .ok (.goto (-103), 3) := by decide +kernel
theorem dX7_measures_135 : decode cX7_measures 135 = .ok (.aload_n 0, 1) := by decide +kernel
theorem dX7_measures_136 : decode cX7_measures 136 = .ok (.invokevirtual 94, 3) := by decide +kernel
theorem dX7_measures_139 : decode cX7_measures 139 = .ok (.istore 5, 2) := by decide +kernel
theorem dX7_measures_141 : decode cX7_measures 141 = .ok (.aload_n 0, 1) := by decide +kernel
theorem dX7_measures_142 : decode cX7_measures 142 = .ok (.getfield 7, 3) := by decide +kernel
theorem dX7_measures_145 : decode cX7_measures 145 = .ok (.sipush 1508, 3) := by decide +kernel
theorem dX7_measures_148 : decode cX7_measures 148 = .ok (.iload_n 1, 1) := by decide +kernel
theorem dX7_measures_149 : decode cX7_measures 149 = .ok (.iadd, 1) := by decide +kernel
theorem dX7_measures_150 : decode cX7_measures 150 = .ok (.aload_n 0, 1) := by decide +kernel
theorem dX7_measures_151 : decode cX7_measures 151 = .ok (.aload_n 0, 1) := by decide +kernel
theorem dX7_measures_152 : decode cX7_measures 152 = .ok (.getfield 7, 3) := by decide +kernel
theorem dX7_measures_155 : decode cX7_measures 155 = .ok (.sipush 1508, 3) := by decide +kernel
theorem dX7_measures_158 : decode cX7_measures 158 = .ok (.iload_n 1, 1) := by decide +kernel
theorem dX7_measures_159 : decode cX7_measures 159 = .ok (.iadd, 1) := by decide +kernel
theorem dX7_measures_160 : decode cX7_measures 160 = .ok (.iaload, 1) := by decide +kernel
theorem dX7_measures_161 : decode cX7_measures 161 = .ok (.iload 5, 2) := by decide +kernel
theorem dX7_measures_163 : decode cX7_measures 163 = .ok (.i2l, 1) := by decide +kernel
theorem dX7_measures_164 : decode cX7_measures 164 = .ok (.ldc2_w 89, 3) := by decide +kernel
theorem dX7_measures_167 : decode cX7_measures 167 = .ok (.lmul, 1) := by decide +kernel
theorem dX7_measures_168 : decode cX7_measures 168 = .ok (.lload_n 3, 1) := by decide +kernel
theorem dX7_measures_169 : decode cX7_measures 169 = .ok (.ldiv, 1) := by decide +kernel
theorem dX7_measures_170 : decode cX7_measures 170 = .ok (.l2i, 1) := by decide +kernel
theorem dX7_measures_171 : decode cX7_measures 171 = .ok (.invokevirtual 91, 3) := by decide +kernel
theorem dX7_measures_174 : decode cX7_measures 174 = .ok (.iastore, 1) := by decide +kernel
theorem dX7_measures_175 : decode cX7_measures 175 = .ok (.iload 5, 2) := by decide +kernel
theorem dX7_measures_177 : decode cX7_measures 177 = .ok (.ireturn, 1) := by decide +kernel
theorem dX7_watches_0 : decode cX7_watches 0 = .ok (.aload_n 0, 1) := by decide +kernel
theorem dX7_watches_1 : decode cX7_watches 1 = .ok (.getfield 7, 3) := by decide +kernel
theorem dX7_watches_4 : decode cX7_watches 4 = .ok (.iconst 2, 1) := by decide +kernel
theorem dX7_watches_5 : decode cX7_watches 5 = .ok (.iaload, 1) := by decide +kernel
theorem dX7_watches_6 : decode cX7_watches 6 = .ok (.istore_n 1, 1) := by decide +kernel
theorem dX7_watches_7 : decode cX7_watches 7 = .ok (.bipush (-6), 2) := by decide +kernel
theorem dX7_watches_9 : decode cX7_watches 9 = .ok (.istore_n 2, 1) := by decide +kernel
theorem dX7_watches_10 : decode cX7_watches 10 = .ok (.iconst 0, 1) := by decide +kernel
theorem dX7_watches_11 : decode cX7_watches 11 = .ok (.istore_n 3, 1) := by decide +kernel
theorem dX7_watches_12 : decode cX7_watches 12 = .ok (.iload_n 3, 1) := by decide +kernel
theorem dX7_watches_13 : decode cX7_watches 13 = .ok (.aload_n 0, 1) := by decide +kernel
theorem dX7_watches_14 : decode cX7_watches 14 = .ok (.getfield 7, 3) := by decide +kernel
theorem dX7_watches_17 : decode cX7_watches 17 = .ok (.iconst 5, 1) := by decide +kernel
theorem dX7_watches_18 : decode cX7_watches 18 = .ok (.iaload, 1) := by decide +kernel
theorem dX7_watches_19 : decode cX7_watches 19 = .ok (.if_icmp .ge 198, 3) := by decide +kernel
theorem dX7_watches_22 : decode cX7_watches 22 = .ok (.aload_n 0, 1) := by decide +kernel
theorem dX7_watches_23 : decode cX7_watches 23 = .ok (.getfield 7, 3) := by decide +kernel
theorem dX7_watches_26 : decode cX7_watches 26 = .ok (.sipush 308, 3) := by decide +kernel
theorem dX7_watches_29 : decode cX7_watches 29 = .ok (.bipush 6, 2) := by decide +kernel
theorem dX7_watches_31 : decode cX7_watches 31 = .ok (.iload_n 1, 1) := by decide +kernel
theorem dX7_watches_32 : decode cX7_watches 32 = .ok (.imul, 1) := by decide +kernel
theorem dX7_watches_33 : decode cX7_watches 33 = .ok (.iadd, 1) := by decide +kernel
theorem dX7_watches_34 : decode cX7_watches 34 = .ok (.iload_n 3, 1) := by decide +kernel
theorem dX7_watches_35 : decode cX7_watches 35 = .ok (.iadd, 1) := by decide +kernel
theorem dX7_watches_36 : decode cX7_watches 36 = .ok (.iaload, 1) := by decide +kernel
theorem dX7_watches_37 : decode cX7_watches 37 = .ok (.istore 4, 2) := by decide +kernel
theorem dX7_watches_39 : decode cX7_watches 39 = .ok (.aload_n 0, 1) := by decide +kernel
theorem dX7_watches_40 : decode cX7_watches 40 = .ok (.iload_n 3, 1) := by decide +kernel
theorem dX7_watches_41 : decode cX7_watches 41 = .ok (.aload_n 0, 1) := by decide +kernel
theorem dX7_watches_42 : decode cX7_watches 42 = .ok (.getfield 7, 3) := by decide +kernel
theorem dX7_watches_45 : decode cX7_watches 45 = .ok (.sipush 208, 3) := by decide +kernel
theorem dX7_watches_48 : decode cX7_watches 48 = .ok (.iload_n 1, 1) := by decide +kernel
theorem dX7_watches_49 : decode cX7_watches 49 = .ok (.iadd, 1) := by decide +kernel
theorem dX7_watches_50 : decode cX7_watches 50 = .ok (.iaload, 1) := by decide +kernel
theorem dX7_watches_51 : decode cX7_watches 51 = .ok (.invokevirtual 97, 3) := by decide +kernel
theorem dX7_watches_54 : decode cX7_watches 54 = .ok (.istore 5, 2) := by decide +kernel
theorem dX7_watches_56 : decode cX7_watches 56 = .ok (.iload 5, 2) := by decide +kernel
theorem dX7_watches_58 : decode cX7_watches 58 = .ok (.bipush (-6), 2) := by decide +kernel
theorem dX7_watches_60 : decode cX7_watches 60 = .ok (.if_icmp .eq 14, 3) := by decide +kernel
theorem dX7_watches_63 : decode cX7_watches 63 = .ok (.iload 4, 2) := by decide +kernel
theorem dX7_watches_65 : decode cX7_watches 65 = .ok (.iload 5, 2) := by decide +kernel
theorem dX7_watches_67 : decode cX7_watches 67 = .ok (.if_icmp .le 7, 3) := by decide +kernel
theorem dX7_watches_70 : decode cX7_watches 70 = .ok (.iconst 1, 1) := by decide +kernel
theorem dX7_watches_71 : decode cX7_watches 71 = .ok (.goto 4, 3) := by decide +kernel
theorem dX7_watches_74 : decode cX7_watches 74 = .ok (.iconst 0, 1) := by decide +kernel
theorem dX7_watches_75 : decode cX7_watches 75 = .ok (.istore 6, 2) := by decide +kernel
theorem dX7_watches_77 : decode cX7_watches 77 = .ok (.aload_n 0, 1) := by decide +kernel
theorem dX7_watches_78 : decode cX7_watches 78 = .ok (.iload_n 3, 1) := by decide +kernel
theorem dX7_watches_79 : decode cX7_watches 79 = .ok (.bipush 25, 2) := by decide +kernel
theorem dX7_watches_81 : decode cX7_watches 81 = .ok (.iload 6, 2) := by decide +kernel
theorem dX7_watches_83 : decode cX7_watches 83 = .ok (.ifCond .eq 15, 3) := by decide +kernel
theorem dX7_watches_86 : decode cX7_watches 86 = .ok (.aload_n 0, 1) := by decide +kernel
theorem dX7_watches_87 : decode cX7_watches 87 = .ok (.iload_n 3, 1) := by decide +kernel
theorem dX7_watches_88 : decode cX7_watches 88 = .ok (.bipush 25, 2) := by decide +kernel
theorem dX7_watches_90 : decode cX7_watches 90 = .ok (.invokevirtual 65, 3) := by decide +kernel
theorem dX7_watches_93 : decode cX7_watches 93 = .ok (.iconst 1, 1) := by decide +kernel
theorem dX7_watches_94 : decode cX7_watches 94 = .ok (.iadd, 1) := by decide +kernel
theorem dX7_watches_95 : decode cX7_watches 95 = .ok (.goto 4, 3) := by decide +kernel
theorem dX7_watches_98 : decode cX7_watches 98 = .ok (.iconst 0, 1) := by decide +kernel
theorem dX7_watches_99 : decode cX7_watches 99 = .ok (.invokevirtual 37, 3) := by decide +kernel
theorem dX7_watches_102 : decode cX7_watches 102 = .ok (.iload 6, 2) := by decide +kernel
theorem dX7_watches_104 : decode cX7_watches 104 = .ok (.ifCond .eq 49, 3) := by decide +kernel
theorem dX7_watches_107 : decode cX7_watches 107 = .ok (.aload_n 0, 1) := by decide +kernel
theorem dX7_watches_108 : decode cX7_watches 108 = .ok (.iload_n 3, 1) := by decide +kernel
theorem dX7_watches_109 : decode cX7_watches 109 = .ok (.bipush 26, 2) := by decide +kernel
theorem dX7_watches_111 : decode cX7_watches 111 = .ok (.aload_n 0, 1) := by decide +kernel
theorem dX7_watches_112 : decode cX7_watches 112 = .ok (.iload_n 3, 1) := by decide +kernel
theorem dX7_watches_113 : decode cX7_watches 113 = .ok (.bipush 26, 2) := by decide +kernel
theorem dX7_watches_115 : decode cX7_watches 115 = .ok (.invokevirtual 65, 3) := by decide +kernel
theorem dX7_watches_118 : decode cX7_watches 118 = .ok (.aload_n 0, 1) := by decide +kernel
theorem dX7_watches_119 : decode cX7_watches 119 = .ok (.iload_n 3, 1) := by decide +kernel
theorem dX7_watches_120 : decode cX7_watches 120 = .ok (.bipush 25, 2) := by decide +kernel
theorem dX7_watches_122 : decode cX7_watches 122 = .ok (.invokevirtual 65, 3) := by decide +kernel
theorem dX7_watches_125 : decode cX7_watches 125 = .ok (.invokestatic 100, 3) := by decide +kernel
theorem dX7_watches_128 : decode cX7_watches 128 = .ok (.invokevirtual 37, 3) := by decide +kernel
theorem dX7_watches_131 : decode cX7_watches 131 = .ok (.aload_n 0, 1) := by decide +kernel
theorem dX7_watches_132 : decode cX7_watches 132 = .ok (.iload_n 3, 1) := by decide +kernel
theorem dX7_watches_133 : decode cX7_watches 133 = .ok (.bipush 27, 2) := by decide +kernel
theorem dX7_watches_135 : decode cX7_watches 135 = .ok (.aload_n 0, 1) := by decide +kernel
theorem dX7_watches_136 : decode cX7_watches 136 = .ok (.iload_n 3, 1) := by decide +kernel
theorem dX7_watches_137 : decode cX7_watches 137 = .ok (.bipush 27, 2) := by decide +kernel
theorem dX7_watches_139 : decode cX7_watches 139 = .ok (.invokevirtual 65, 3) := by decide +kernel
theorem dX7_watches_142 : decode cX7_watches 142 = .ok (.iload 4, 2) := by decide +kernel
theorem dX7_watches_144 : decode cX7_watches 144 = .ok (.iload 5, 2) := by decide +kernel
theorem dX7_watches_146 : decode cX7_watches 146 = .ok (.isub, 1) := by decide +kernel
theorem dX7_watches_147 : decode cX7_watches 147 = .ok (.invokestatic 100, 3) := by decide +kernel
theorem dX7_watches_150 : decode cX7_watches 150 = .ok (.invokevirtual 37, 3) := by decide +kernel
theorem dX7_watches_153 : decode cX7_watches 153 = .ok (.aload_n 0, 1) := by decide +kernel
theorem dX7_watches_154 : decode cX7_watches 154 = .ok (.iload_n 3, 1) := by decide +kernel
theorem dX7_watches_155 : decode cX7_watches 155 = .ok (.bipush 28, 2) := by decide +kernel
theorem dX7_watches_157 : decode cX7_watches 157 = .ok (.iload 4, 2) := by decide +kernel
theorem dX7_watches_159 : decode cX7_watches 159 = .ok (.aload_n 0, 1) := by decide +kernel
theorem dX7_watches_160 : decode cX7_watches 160 = .ok (.iload_n 3, 1) := by decide +kernel
theorem dX7_watches_161 : decode cX7_watches 161 = .ok (.iconst 2, 1) := by decide +kernel
theorem dX7_watches_162 : decode cX7_watches 162 = .ok (.invokevirtual 65, 3) := by decide +kernel
theorem dX7_watches_165 : decode cX7_watches 165 = .ok (.if_icmp .le 15, 3) := by decide +kernel
theorem dX7_watches_168 : decode cX7_watches 168 = .ok (.aload_n 0, 1) := by decide +kernel
theorem dX7_watches_169 : decode cX7_watches 169 = .ok (.iload_n 3, 1) := by decide +kernel
theorem dX7_watches_170 : decode cX7_watches 170 = .ok (.bipush 28, 2) := by decide +kernel
theorem dX7_watches_172 : decode cX7_watches 172 = .ok (.invokevirtual 65, 3) := by decide +kernel
theorem dX7_watches_175 : decode cX7_watches 175 = .ok (.iconst 1, 1) := by decide +kernel
theorem dX7_watches_176 : decode cX7_watches 176 = .ok (.iadd, 1) := by decide +kernel
theorem dX7_watches_177 : decode cX7_watches 177 = .ok (.goto 4, 3) := by decide +kernel
theorem dX7_watches_180 : decode cX7_watches 180 = .ok (.iconst 0, 1) := by decide +kernel
theorem dX7_watches_181 : decode cX7_watches 181 = .ok (.invokevirtual 37, 3) := by decide +kernel
theorem dX7_watches_184 : decode cX7_watches 184 = .ok (.iload_n 2, 1) := by decide +kernel
theorem dX7_watches_185 : decode cX7_watches 185 = .ok (.bipush (-6), 2) := by decide +kernel
theorem dX7_watches_187 : decode cX7_watches 187 = .ok (.if_icmp .ne 22, 3) := by decide +kernel
theorem dX7_watches_190 : decode cX7_watches 190 = .ok (.aload_n 0, 1) := by decide +kernel
theorem dX7_watches_191 : decode cX7_watches 191 = .ok (.iload_n 3, 1) := by decide +kernel
theorem dX7_watches_192 : decode cX7_watches 192 = .ok (.bipush 28, 2) := by decide +kernel
theorem dX7_watches_194 : decode cX7_watches 194 = .ok (.invokevirtual 65, 3) := by decide +kernel
theorem dX7_watches_197 : decode cX7_watches 197 = .ok (.aload_n 0, 1) := by decide +kernel
theorem dX7_watches_198 : decode cX7_watches 198 = .ok (.iconst 2, 1) := by decide +kernel
theorem dX7_watches_199 : decode cX7_watches 199 = .ok (.invokevirtual 78, 3) := by decide +kernel
theorem dX7_watches_202 : decode cX7_watches 202 = .ok (.if_icmp .lt 7, 3) := by decide +kernel
theorem dX7_watches_205 : decode cX7_watches 205 = .ok (.iload_n 3, 1) := by decide +kernel
theorem dX7_watches_206 : decode cX7_watches 206 = .ok (.goto 4, 3) := by decide +kernel
theorem dX7_watches_209 : decode cX7_watches 209 = .ok (.iload_n 2, 1) := by decide +kernel
theorem dX7_watches_210 : decode cX7_watches 210 = .ok (.istore_n 2, 1) := by decide +kernel
theorem dX7_watches_211 : decode cX7_watches 211 = .ok (.iinc 3 1, 3) := by decide +kernel
theorem dX7_watches_214 : decode cX7_watches 214 = .ok (.goto (-202), 3) := by decide +kernel
theorem dX7_watches_217 : decode cX7_watches 217 = .ok (.iload_n 2, 1) := by decide +kernel
theorem dX7_watches_218 : decode cX7_watches 218 = .ok (.ireturn, 1) := by decide +kernel
theorem dX7_greater_0 : decode cX7_greater 0 = .ok (.iload_n 0, 1) := by decide +kernel
theorem dX7_greater_1 : decode cX7_greater 1 = .ok (.iload_n 1, 1) := by decide +kernel
theorem dX7_greater_2 : decode cX7_greater 2 = .ok (.if_icmp .le 7, 3) := by decide +kernel
theorem dX7_greater_5 : decode cX7_greater 5 = .ok (.iload_n 0, 1) := by decide +kernel
theorem dX7_greater_6 : decode cX7_greater 6 = .ok (.goto 4, 3) := by decide +kernel
theorem dX7_greater_9 : decode cX7_greater 9 = .ok (.iload_n 1, 1) := by decide +kernel
theorem dX7_greater_10 : decode cX7_greater 10 = .ok (.ireturn, 1) := by decide +kernel
theorem dX7_loop_0 : decode cX7_loop 0 = .ok (.aload_n 0, 1) := by decide +kernel
theorem dX7_loop_1 : decode cX7_loop 1 = .ok (.getfield 7, 3) := by decide +kernel
theorem dX7_loop_4 : decode cX7_loop 4 = .ok (.bipush 8, 2) := by decide +kernel
theorem dX7_loop_6 : decode cX7_loop 6 = .ok (.dup2, 1) := by decide +kernel
theorem dX7_loop_7 : decode cX7_loop 7 = .ok (.iaload, 1) := by decide +kernel
theorem dX7_loop_8 : decode cX7_loop 8 = .ok (.iconst 1, 1) := by decide +kernel
theorem dX7_loop_9 : decode cX7_loop 9 = .ok (.iadd, 1) := by decide +kernel
theorem dX7_loop_10 : decode cX7_loop 10 = .ok (.iastore, 1) := by decide +kernel
theorem dX7_loop_11 : decode cX7_loop 11 = .ok (.aload_n 0, 1) := by decide +kernel
theorem dX7_loop_12 : decode cX7_loop 12 = .ok (.getfield 7, 3) := by decide +kernel
theorem dX7_loop_15 : decode cX7_loop 15 = .ok (.iconst 1, 1) := by decide +kernel
theorem dX7_loop_16 : decode cX7_loop 16 = .ok (.iaload, 1) := by decide +kernel
theorem dX7_loop_17 : decode cX7_loop 17 = .ok (.iconst 3, 1) := by decide +kernel
theorem dX7_loop_18 : decode cX7_loop 18 = .ok (.if_icmp .ne 45, 3) := by decide +kernel
theorem dX7_loop_21 : decode cX7_loop 21 = .ok (.aload_n 0, 1) := by decide +kernel
theorem dX7_loop_22 : decode cX7_loop 22 = .ok (.getfield 7, 3) := by decide +kernel
theorem dX7_loop_25 : decode cX7_loop 25 = .ok (.iconst 3, 1) := by decide +kernel
theorem dX7_loop_26 : decode cX7_loop 26 = .ok (.aload_n 0, 1) := by decide +kernel
theorem dX7_loop_27 : decode cX7_loop 27 = .ok (.getfield 7, 3) := by decide +kernel
theorem dX7_loop_30 : decode cX7_loop 30 = .ok (.iconst 3, 1) := by decide +kernel
theorem dX7_loop_31 : decode cX7_loop 31 = .ok (.iaload, 1) := by decide +kernel
theorem dX7_loop_32 : decode cX7_loop 32 = .ok (.aload_n 0, 1) := by decide +kernel
theorem dX7_loop_33 : decode cX7_loop 33 = .ok (.iconst 4, 1) := by decide +kernel
theorem dX7_loop_34 : decode cX7_loop 34 = .ok (.invokevirtual 78, 3) := by decide +kernel
theorem dX7_loop_37 : decode cX7_loop 37 = .ok (.imul, 1) := by decide +kernel
theorem dX7_loop_38 : decode cX7_loop 38 = .ok (.bipush 100, 2) := by decide +kernel
theorem dX7_loop_40 : decode cX7_loop 40 = .ok (.idiv, 1) := by decide +kernel
theorem dX7_loop_41 : decode cX7_loop 41 = .ok (.iastore, 1) := by decide +kernel
theorem dX7_loop_42 : decode cX7_loop 42 = .ok (.aload_n 0, 1) := by decide +kernel
theorem dX7_loop_43 : decode cX7_loop 43 = .ok (.getfield 7, 3) := by decide +kernel
theorem dX7_loop_46 : decode cX7_loop 46 = .ok (.iconst 1, 1) := by decide +kernel
theorem dX7_loop_47 : decode cX7_loop 47 = .ok (.aload_n 0, 1) := by decide +kernel
theorem dX7_loop_48 : decode cX7_loop 48 = .ok (.getfield 7, 3) := by decide +kernel
theorem dX7_loop_51 : decode cX7_loop 51 = .ok (.iconst 3, 1) := by decide +kernel
theorem dX7_loop_52 : decode cX7_loop 52 = .ok (.iaload, 1) := by decide +kernel
theorem dX7_loop_53 : decode cX7_loop 53 = .ok (.ifCond .ne 7, 3) := by decide +kernel
theorem dX7_loop_56 : decode cX7_loop 56 = .ok (.iconst 4, 1) := by decide +kernel
theorem dX7_loop_57 : decode cX7_loop 57 = .ok (.goto 4, 3) := by decide +kernel
theorem dX7_loop_60 : decode cX7_loop 60 = .ok (.iconst 3, 1) := by decide +kernel
theorem dX7_loop_61 : decode cX7_loop 61 = .ok (.iastore, 1) := by decide +kernel
theorem dX7_loop_62 : decode cX7_loop 62 = .ok (.return_, 1) := by decide +kernel
theorem dX7_loop_63 : decode cX7_loop 63 = .ok (.aload_n 0, 1) := by decide +kernel
theorem dX7_loop_64 : decode cX7_loop 64 = .ok (.invokevirtual 103, 3) := by decide +kernel
theorem dX7_loop_67 : decode cX7_loop 67 = .ok (.istore_n 1, 1) := by decide +kernel
theorem dX7_loop_68 : decode cX7_loop 68 = .ok (.aload_n 0, 1) := by decide +kernel
theorem dX7_loop_69 : decode cX7_loop 69 = .ok (.invokevirtual 106, 3) := by decide +kernel
theorem dX7_loop_72 : decode cX7_loop 72 = .ok (.istore_n 2, 1) := by decide +kernel
theorem dX7_loop_73 : decode cX7_loop 73 = .ok (.iload_n 2, 1) := by decide +kernel
theorem dX7_loop_74 : decode cX7_loop 74 = .ok (.bipush (-6), 2) := by decide +kernel
theorem dX7_loop_76 : decode cX7_loop 76 = .ok (.if_icmp .eq 32, 3) := by decide +kernel
theorem dX7_loop_79 : decode cX7_loop 79 = .ok (.aload_n 0, 1) := by decide +kernel
theorem dX7_loop_80 : decode cX7_loop 80 = .ok (.getfield 7, 3) := by decide +kernel
theorem dX7_loop_83 : decode cX7_loop 83 = .ok (.iconst 1, 1) := by decide +kernel
theorem dX7_loop_84 : decode cX7_loop 84 = .ok (.iconst 3, 1) := by decide +kernel
theorem dX7_loop_85 : decode cX7_loop 85 = .ok (.iastore, 1) := by decide +kernel
theorem dX7_loop_86 : decode cX7_loop 86 = .ok (.aload_n 0, 1) := by decide +kernel
theorem dX7_loop_87 : decode cX7_loop 87 = .ok (.getfield 7, 3) := by decide +kernel
theorem dX7_loop_90 : decode cX7_loop 90 = .ok (.bipush 9, 2) := by decide +kernel
theorem dX7_loop_92 : decode cX7_loop 92 = .ok (.iload_n 2, 1) := by decide +kernel
theorem dX7_loop_93 : decode cX7_loop 93 = .ok (.iastore, 1) := by decide +kernel
theorem dX7_loop_94 : decode cX7_loop 94 = .ok (.aload_n 0, 1) := by decide +kernel
theorem dX7_loop_95 : decode cX7_loop 95 = .ok (.getfield 7, 3) := by decide +kernel
theorem dX7_loop_98 : decode cX7_loop 98 = .ok (.bipush 10, 2) := by decide +kernel
theorem dX7_loop_100 : decode cX7_loop 100 = .ok (.aload_n 0, 1) := by decide +kernel
theorem dX7_loop_101 : decode cX7_loop 101 = .ok (.getfield 7, 3) := by decide +kernel
theorem dX7_loop_104 : decode cX7_loop 104 = .ok (.iconst 2, 1) := by decide +kernel
theorem dX7_loop_105 : decode cX7_loop 105 = .ok (.iaload, 1) := by decide +kernel
theorem dX7_loop_106 : decode cX7_loop 106 = .ok (.iastore, 1) := by decide +kernel
theorem dX7_loop_107 : decode cX7_loop 107 = .ok (.return_, 1) := by decide +kernel
theorem dX7_loop_108 : decode cX7_loop 108 = .ok (.aload_n 0, 1) := by decide +kernel
theorem dX7_loop_109 : decode cX7_loop 109 = .ok (.getfield 7, 3) := by decide +kernel
theorem dX7_loop_112 : decode cX7_loop 112 = .ok (.iconst 2, 1) := by decide +kernel
theorem dX7_loop_113 : decode cX7_loop 113 = .ok (.iaload, 1) := by decide +kernel
theorem dX7_loop_114 : decode cX7_loop 114 = .ok (.istore_n 3, 1) := by decide +kernel
theorem dX7_loop_115 : decode cX7_loop 115 = .ok (.aload_n 0, 1) := by decide +kernel
theorem dX7_loop_116 : decode cX7_loop 116 = .ok (.getfield 7, 3) := by decide +kernel
theorem dX7_loop_119 : decode cX7_loop 119 = .ok (.iconst 1, 1) := by decide +kernel
theorem dX7_loop_120 : decode cX7_loop 120 = .ok (.iaload, 1) := by decide +kernel
theorem dX7_loop_121 : decode cX7_loop 121 = .ok (.iconst 1, 1) := by decide +kernel
theorem dX7_loop_122 : decode cX7_loop 122 = .ok (.if_icmp .ne 130, 3) := by decide +kernel
theorem dX7_loop_125 : decode cX7_loop 125 = .ok (.iload_n 3, 1) := by decide +kernel
theorem dX7_loop_126 : decode cX7_loop 126 = .ok (.aload_n 0, 1) := by decide +kernel
theorem dX7_loop_127 : decode cX7_loop 127 = .ok (.getfield 7, 3) := by decide +kernel
theorem dX7_loop_130 : decode cX7_loop 130 = .ok (.bipush 7, 2) := by decide +kernel
theorem dX7_loop_132 : decode cX7_loop 132 = .ok (.iaload, 1) := by decide +kernel
theorem dX7_loop_133 : decode cX7_loop 133 = .ok (.iconst 1, 1) := by decide +kernel
theorem dX7_loop_134 : decode cX7_loop 134 = .ok (.if_icmp .ne 7, 3) := by decide +kernel
theorem dX7_loop_137 : decode cX7_loop 137 = .ok (.iconst 1, 1) := by decide +kernel
theorem dX7_loop_138 : decode cX7_loop 138 = .ok (.goto 4, 3) := by decide +kernel
theorem dX7_loop_141 : decode cX7_loop 141 = .ok (.iconst (-1), 1) := by decide +kernel
theorem dX7_loop_142 : decode cX7_loop 142 = .ok (.iadd, 1) := by decide +kernel
theorem dX7_loop_143 : decode cX7_loop 143 = .ok (.istore_n 3, 1) := by decide +kernel
theorem dX7_loop_144 : decode cX7_loop 144 = .ok (.aload_n 0, 1) := by decide +kernel
theorem dX7_loop_145 : decode cX7_loop 145 = .ok (.iload_n 3, 1) := by decide +kernel
theorem dX7_loop_146 : decode cX7_loop 146 = .ok (.invokevirtual 109, 3) := by decide +kernel
theorem dX7_loop_149 : decode cX7_loop 149 = .ok (.ifCond .ne 103, 3) := by decide +kernel
theorem dX7_loop_152 : decode cX7_loop 152 = .ok (.aload_n 0, 1) := by decide +kernel
theorem dX7_loop_153 : decode cX7_loop 153 = .ok (.getfield 7, 3) := by decide +kernel
theorem dX7_loop_156 : decode cX7_loop 156 = .ok (.bipush 6, 2) := by decide +kernel
theorem dX7_loop_158 : decode cX7_loop 158 = .ok (.dup2, 1) := by decide +kernel
theorem dX7_loop_159 : decode cX7_loop 159 = .ok (.iaload, 1) := by decide +kernel
theorem dX7_loop_160 : decode cX7_loop 160 = .ok (.iconst 1, 1) := by decide +kernel
theorem dX7_loop_161 : decode cX7_loop 161 = .ok (.iadd, 1) := by decide +kernel
theorem dX7_loop_162 : decode cX7_loop 162 = .ok (.iastore, 1) := by decide +kernel
theorem dX7_loop_163 : decode cX7_loop 163 = .ok (.aload_n 0, 1) := by decide +kernel
theorem dX7_loop_164 : decode cX7_loop 164 = .ok (.getfield 7, 3) := by decide +kernel
theorem dX7_loop_167 : decode cX7_loop 167 = .ok (.bipush 6, 2) := by decide +kernel
theorem dX7_loop_169 : decode cX7_loop 169 = .ok (.iaload, 1) := by decide +kernel
theorem dX7_loop_170 : decode cX7_loop 170 = .ok (.aload_n 0, 1) := by decide +kernel
theorem dX7_loop_171 : decode cX7_loop 171 = .ok (.iconst 5, 1) := by decide +kernel
theorem dX7_loop_172 : decode cX7_loop 172 = .ok (.invokevirtual 78, 3) := by decide +kernel
theorem dX7_loop_175 : decode cX7_loop 175 = .ok (.if_icmp .lt 18, 3) := by decide +kernel
theorem dX7_loop_178 : decode cX7_loop 178 = .ok (.aload_n 0, 1) := by decide +kernel
theorem dX7_loop_179 : decode cX7_loop 179 = .ok (.getfield 7, 3) := by decide +kernel
theorem dX7_loop_182 : decode cX7_loop 182 = .ok (.iconst 1, 1) := by decide +kernel
theorem dX7_loop_183 : decode cX7_loop 183 = .ok (.iconst 5, 1) := by decide +kernel
theorem dX7_loop_184 : decode cX7_loop 184 = .ok (.iastore, 1) := by decide +kernel
theorem dX7_loop_185 : decode cX7_loop 185 = .ok (.aload_n 0, 1) := by decide +kernel
theorem dX7_loop_186 : decode cX7_loop 186 = .ok (.getfield 7, 3) := by decide +kernel
theorem dX7_loop_189 : decode cX7_loop 189 = .ok (.iconst 3, 1) := by decide +kernel
theorem dX7_loop_190 : decode cX7_loop 190 = .ok (.iconst 0, 1) := by decide +kernel
theorem dX7_loop_191 : decode cX7_loop 191 = .ok (.iastore, 1) := by decide +kernel
theorem dX7_loop_192 : decode cX7_loop 192 = .ok (.return_, 1) := by decide +kernel
theorem dX7_loop_193 : decode cX7_loop 193 = .ok (.aload_n 0, 1) := by decide +kernel
theorem dX7_loop_194 : decode cX7_loop 194 = .ok (.getfield 7, 3) := by decide +kernel
theorem dX7_loop_197 : decode cX7_loop 197 = .ok (.bipush 7, 2) := by decide +kernel
theorem dX7_loop_199 : decode cX7_loop 199 = .ok (.iconst 1, 1) := by decide +kernel
theorem dX7_loop_200 : decode cX7_loop 200 = .ok (.aload_n 0, 1) := by decide +kernel
theorem dX7_loop_201 : decode cX7_loop 201 = .ok (.getfield 7, 3) := by decide +kernel
theorem dX7_loop_204 : decode cX7_loop 204 = .ok (.bipush 7, 2) := by decide +kernel
theorem dX7_loop_206 : decode cX7_loop 206 = .ok (.iaload, 1) := by decide +kernel
theorem dX7_loop_207 : decode cX7_loop 207 = .ok (.isub, 1) := by decide +kernel
theorem dX7_loop_208 : decode cX7_loop 208 = .ok (.iastore, 1) := by decide +kernel
theorem dX7_loop_209 : decode cX7_loop 209 = .ok (.aload_n 0, 1) := by decide +kernel
theorem dX7_loop_210 : decode cX7_loop 210 = .ok (.getfield 7, 3) := by decide +kernel
theorem dX7_loop_213 : decode cX7_loop 213 = .ok (.iconst 2, 1) := by decide +kernel
theorem dX7_loop_214 : decode cX7_loop 214 = .ok (.iaload, 1) := by decide +kernel
theorem dX7_loop_215 : decode cX7_loop 215 = .ok (.aload_n 0, 1) := by decide +kernel
theorem dX7_loop_216 : decode cX7_loop 216 = .ok (.getfield 7, 3) := by decide +kernel
theorem dX7_loop_219 : decode cX7_loop 219 = .ok (.bipush 7, 2) := by decide +kernel
theorem dX7_loop_221 : decode cX7_loop 221 = .ok (.iaload, 1) := by decide +kernel
theorem dX7_loop_222 : decode cX7_loop 222 = .ok (.iconst 1, 1) := by decide +kernel
theorem dX7_loop_223 : decode cX7_loop 223 = .ok (.if_icmp .ne 7, 3) := by decide +kernel
theorem dX7_loop_226 : decode cX7_loop 226 = .ok (.iconst 1, 1) := by decide +kernel
theorem dX7_loop_227 : decode cX7_loop 227 = .ok (.goto 4, 3) := by decide +kernel
theorem dX7_loop_230 : decode cX7_loop 230 = .ok (.iconst (-1), 1) := by decide +kernel
theorem dX7_loop_231 : decode cX7_loop 231 = .ok (.iadd, 1) := by decide +kernel
theorem dX7_loop_232 : decode cX7_loop 232 = .ok (.istore_n 3, 1) := by decide +kernel
theorem dX7_loop_233 : decode cX7_loop 233 = .ok (.aload_n 0, 1) := by decide +kernel
theorem dX7_loop_234 : decode cX7_loop 234 = .ok (.iload_n 3, 1) := by decide +kernel
theorem dX7_loop_235 : decode cX7_loop 235 = .ok (.invokevirtual 109, 3) := by decide +kernel
theorem dX7_loop_238 : decode cX7_loop 238 = .ok (.ifCond .eq 7, 3) := by decide +kernel
theorem dX7_loop_241 : decode cX7_loop 241 = .ok (.iload_n 3, 1) := by decide +kernel
theorem dX7_loop_242 : decode cX7_loop 242 = .ok (.goto 9, 3) := by decide +kernel
theorem dX7_loop_245 : decode cX7_loop 245 = .ok (.aload_n 0, 1) := by decide +kernel
theorem dX7_loop_246 : decode cX7_loop 246 = .ok (.getfield 7, 3) := by decide +kernel
theorem dX7_loop_249 : decode cX7_loop 249 = .ok (.iconst 2, 1) := by decide +kernel
theorem dX7_loop_250 : decode cX7_loop 250 = .ok (.iaload, 1) := by decide +kernel
theorem dX7_loop_251 : decode cX7_loop 251 = .ok (.istore_n 3, 1) := by decide +kernel
theorem dX7_loop_252 : decode cX7_loop 252 = .ok (.aload_n 0, 1) := by decide +kernel
theorem dX7_loop_253 : decode cX7_loop 253 = .ok (.iload_n 3, 1) := by decide +kernel
theorem dX7_loop_254 : decode cX7_loop 254 = .ok (.iload_n 1, 1) := by decide +kernel
theorem dX7_loop_255 : decode cX7_loop 255 = .ok (.invokevirtual 112, 3) := by decide +kernel
theorem dX7_loop_258 : decode cX7_loop 258 = .ok (.return_, 1) := by decide +kernel
theorem dX7_goesTo_0 : decode cX7_goesTo 0 = .ok (.aload_n 0, 1) := by decide +kernel
theorem dX7_goesTo_1 : decode cX7_goesTo 1 = .ok (.getfield 7, 3) := by decide +kernel
theorem dX7_goesTo_4 : decode cX7_goesTo 4 = .ok (.sipush 208, 3) := by decide +kernel
theorem dX7_goesTo_7 : decode cX7_goesTo 7 = .ok (.iload_n 1, 1) := by decide +kernel
theorem dX7_goesTo_8 : decode cX7_goesTo 8 = .ok (.iadd, 1) := by decide +kernel
theorem dX7_goesTo_9 : decode cX7_goesTo 9 = .ok (.iaload, 1) := by decide +kernel
theorem dX7_goesTo_10 : decode cX7_goesTo 10 = .ok (.istore_n 3, 1) := by decide +kernel
theorem dX7_goesTo_11 : decode cX7_goesTo 11 = .ok (.aload_n 0, 1) := by decide +kernel
theorem dX7_goesTo_12 : decode cX7_goesTo 12 = .ok (.getfield 7, 3) := by decide +kernel
theorem dX7_goesTo_15 : decode cX7_goesTo 15 = .ok (.iconst 3, 1) := by decide +kernel
theorem dX7_goesTo_16 : decode cX7_goesTo 16 = .ok (.iaload, 1) := by decide +kernel
theorem dX7_goesTo_17 : decode cX7_goesTo 17 = .ok (.i2l, 1) := by decide +kernel
theorem dX7_goesTo_18 : decode cX7_goesTo 18 = .ok (.lstore 4, 2) := by decide +kernel
theorem dX7_goesTo_20 : decode cX7_goesTo 20 = .ok (.ldc2_w 115, 3) := by decide +kernel
theorem dX7_goesTo_23 : decode cX7_goesTo 23 = .ok (.lload 4, 2) := by decide +kernel
theorem dX7_goesTo_25 : decode cX7_goesTo 25 = .ok (.lmul, 1) := by decide +kernel
theorem dX7_goesTo_26 : decode cX7_goesTo 26 = .ok (.lstore 6, 2) := by decide +kernel
theorem dX7_goesTo_28 : decode cX7_goesTo 28 = .ok (.aload_n 0, 1) := by decide +kernel
theorem dX7_goesTo_29 : decode cX7_goesTo 29 = .ok (.getfield 7, 3) := by decide +kernel
theorem dX7_goesTo_32 : decode cX7_goesTo 32 = .ok (.sipush 1508, 3) := by decide +kernel
theorem dX7_goesTo_35 : decode cX7_goesTo 35 = .ok (.iload_n 1, 1) := by decide +kernel
theorem dX7_goesTo_36 : decode cX7_goesTo 36 = .ok (.iadd, 1) := by decide +kernel
theorem dX7_goesTo_37 : decode cX7_goesTo 37 = .ok (.iaload, 1) := by decide +kernel
theorem dX7_goesTo_38 : decode cX7_goesTo 38 = .ok (.ifCond .le 30, 3) := by decide +kernel
theorem dX7_goesTo_41 : decode cX7_goesTo 41 = .ok (.aload_n 0, 1) := by decide +kernel
theorem dX7_goesTo_42 : decode cX7_goesTo 42 = .ok (.iload_n 3, 1) := by decide +kernel
theorem dX7_goesTo_43 : decode cX7_goesTo 43 = .ok (.invokevirtual 117, 3) := by decide +kernel
theorem dX7_goesTo_46 : decode cX7_goesTo 46 = .ok (.i2l, 1) := by decide +kernel
theorem dX7_goesTo_47 : decode cX7_goesTo 47 = .ok (.ldc2_w 89, 3) := by decide +kernel
theorem dX7_goesTo_50 : decode cX7_goesTo 50 = .ok (.lmul, 1) := by decide +kernel
theorem dX7_goesTo_51 : decode cX7_goesTo 51 = .ok (.aload_n 0, 1) := by decide +kernel
theorem dX7_goesTo_52 : decode cX7_goesTo 52 = .ok (.getfield 7, 3) := by decide +kernel
theorem dX7_goesTo_55 : decode cX7_goesTo 55 = .ok (.sipush 1508, 3) := by decide +kernel
theorem dX7_goesTo_58 : decode cX7_goesTo 58 = .ok (.iload_n 1, 1) := by decide +kernel
theorem dX7_goesTo_59 : decode cX7_goesTo 59 = .ok (.iadd, 1) := by decide +kernel
theorem dX7_goesTo_60 : decode cX7_goesTo 60 = .ok (.iaload, 1) := by decide +kernel
theorem dX7_goesTo_61 : decode cX7_goesTo 61 = .ok (.i2l, 1) := by decide +kernel
theorem dX7_goesTo_62 : decode cX7_goesTo 62 = .ok (.ldiv, 1) := by decide +kernel
theorem dX7_goesTo_63 : decode cX7_goesTo 63 = .ok (.lstore 6, 2) := by decide +kernel
theorem dX7_goesTo_65 : decode cX7_goesTo 65 = .ok (.goto 21, 3) := by decide +kernel
theorem dX7_goesTo_68 : decode cX7_goesTo 68 = .ok (.iload_n 2, 1) := by decide +kernel
theorem dX7_goesTo_69 : decode cX7_goesTo 69 = .ok (.ifCond .le 17, 3) := by decide +kernel
theorem dX7_goesTo_72 : decode cX7_goesTo 72 = .ok (.lload 4, 2) := by decide +kernel
theorem dX7_goesTo_74 : decode cX7_goesTo 74 = .ok (.aload_n 0, 1) := by decide +kernel
theorem dX7_goesTo_75 : decode cX7_goesTo 75 = .ok (.iload_n 3, 1) := by decide +kernel
theorem dX7_goesTo_76 : decode cX7_goesTo 76 = .ok (.invokevirtual 117, 3) := by decide +kernel
theorem dX7_goesTo_79 : decode cX7_goesTo 79 = .ok (.i2l, 1) := by decide +kernel
theorem dX7_goesTo_80 : decode cX7_goesTo 80 = .ok (.lmul, 1) := by decide +kernel
theorem dX7_goesTo_81 : decode cX7_goesTo 81 = .ok (.iload_n 2, 1) := by decide +kernel
theorem dX7_goesTo_82 : decode cX7_goesTo 82 = .ok (.i2l, 1) := by decide +kernel
theorem dX7_goesTo_83 : decode cX7_goesTo 83 = .ok (.ldiv, 1) := by decide +kernel
theorem dX7_goesTo_84 : decode cX7_goesTo 84 = .ok (.lstore 6, 2) := by decide +kernel
theorem dX7_goesTo_86 : decode cX7_goesTo 86 = .ok (.lload 4, 2) := by decide +kernel
theorem dX7_goesTo_88 : decode cX7_goesTo 88 = .ok (.lload 4, 2) := by decide +kernel
theorem dX7_goesTo_90 : decode cX7_goesTo 90 = .ok (.ldc2_w 115, 3) := by decide +kernel
theorem dX7_goesTo_93 : decode cX7_goesTo 93 = .ok (.ldiv, 1) := by decide +kernel
theorem dX7_goesTo_94 : decode cX7_goesTo 94 = .ok (.lsub, 1) := by decide +kernel
theorem dX7_goesTo_95 : decode cX7_goesTo 95 = .ok (.lstore 8, 2) := by decide +kernel
theorem dX7_goesTo_97 : decode cX7_goesTo 97 = .ok (.lload 4, 2) := by decide +kernel
theorem dX7_goesTo_99 : decode cX7_goesTo 99 = .ok (.lload 4, 2) := by decide +kernel
theorem dX7_goesTo_101 : decode cX7_goesTo 101 = .ok (.aload_n 0, 1) := by decide +kernel
theorem dX7_goesTo_102 : decode cX7_goesTo 102 = .ok (.iconst 3, 1) := by decide +kernel
theorem dX7_goesTo_103 : decode cX7_goesTo 103 = .ok (.invokevirtual 78, 3) := by decide +kernel
theorem dX7_goesTo_106 : decode cX7_goesTo 106 = .ok (.i2l, 1) := by decide +kernel
theorem dX7_goesTo_107 : decode cX7_goesTo 107 = .ok (.lmul, 1) := by decide +kernel
theorem dX7_goesTo_108 : decode cX7_goesTo 108 = .ok (.ldc2_w 120, 3) := by decide +kernel
theorem dX7_goesTo_111 : decode cX7_goesTo 111 = .ok (.ldiv, 1) := by decide +kernel
theorem dX7_goesTo_112 : decode cX7_goesTo 112 = .ok (.ladd, 1) := by decide +kernel
theorem dX7_goesTo_113 : decode cX7_goesTo 113 = .ok (.lconst 1, 1) := by decide +kernel
theorem dX7_goesTo_114 : decode cX7_goesTo 114 = .ok (.ladd, 1) := by decide +kernel
theorem dX7_goesTo_115 : decode cX7_goesTo 115 = .ok (.lstore 10, 2) := by decide +kernel
theorem dX7_goesTo_117 : decode cX7_goesTo 117 = .ok (.lload 6, 2) := by decide +kernel
theorem dX7_goesTo_119 : decode cX7_goesTo 119 = .ok (.lload 8, 2) := by decide +kernel
theorem dX7_goesTo_121 : decode cX7_goesTo 121 = .ok (.lcmp, 1) := by decide +kernel
theorem dX7_goesTo_122 : decode cX7_goesTo 122 = .ok (.ifCond .ge 8, 3) := by decide +kernel
theorem dX7_goesTo_125 : decode cX7_goesTo 125 = .ok (.lload 8, 2) := by decide +kernel
theorem dX7_goesTo_127 : decode cX7_goesTo 127 = .ok (.goto 5, 3) := by decide +kernel
theorem dX7_goesTo_130 : decode cX7_goesTo 130 = .ok (.lload 6, 2) := by decide +kernel
theorem dX7_goesTo_132 : decode cX7_goesTo 132 = .ok (.lstore 6, 2) := by decide +kernel
theorem dX7_goesTo_134 : decode cX7_goesTo 134 = .ok (.lload 6, 2) := by decide +kernel
theorem dX7_goesTo_136 : decode cX7_goesTo 136 = .ok (.lload 10, 2) := by decide +kernel
theorem dX7_goesTo_138 : decode cX7_goesTo 138 = .ok (.lcmp, 1) := by decide +kernel
theorem dX7_goesTo_139 : decode cX7_goesTo 139 = .ok (.ifCond .le 8, 3) := by decide +kernel
theorem dX7_goesTo_142 : decode cX7_goesTo 142 = .ok (.lload 10, 2) := by decide +kernel
theorem dX7_goesTo_144 : decode cX7_goesTo 144 = .ok (.goto 5, 3) := by decide +kernel
theorem dX7_goesTo_147 : decode cX7_goesTo 147 = .ok (.lload 6, 2) := by decide +kernel
theorem dX7_goesTo_149 : decode cX7_goesTo 149 = .ok (.lstore 6, 2) := by decide +kernel
theorem dX7_goesTo_151 : decode cX7_goesTo 151 = .ok (.bipush (-6), 2) := by decide +kernel
theorem dX7_goesTo_153 : decode cX7_goesTo 153 = .ok (.istore 12, 2) := by decide +kernel
theorem dX7_goesTo_155 : decode cX7_goesTo 155 = .ok (.iconst 0, 1) := by decide +kernel
theorem dX7_goesTo_156 : decode cX7_goesTo 156 = .ok (.istore 13, 2) := by decide +kernel
theorem dX7_goesTo_158 : decode cX7_goesTo 158 = .ok (.iload 13, 2) := by decide +kernel
theorem dX7_goesTo_160 : decode cX7_goesTo 160 = .ok (.aload_n 0, 1) := by decide +kernel
theorem dX7_goesTo_161 : decode cX7_goesTo 161 = .ok (.getfield 7, 3) := by decide +kernel
theorem dX7_goesTo_164 : decode cX7_goesTo 164 = .ok (.iconst 5, 1) := by decide +kernel
theorem dX7_goesTo_165 : decode cX7_goesTo 165 = .ok (.iaload, 1) := by decide +kernel
theorem dX7_goesTo_166 : decode cX7_goesTo 166 = .ok (.if_icmp .ge 103, 3) := by decide +kernel
theorem dX7_goesTo_169 : decode cX7_goesTo 169 = .ok (.aload_n 0, 1) := by decide +kernel
theorem dX7_goesTo_170 : decode cX7_goesTo 170 = .ok (.iload 13, 2) := by decide +kernel
theorem dX7_goesTo_172 : decode cX7_goesTo 172 = .ok (.iload_n 3, 1) := by decide +kernel
theorem dX7_goesTo_173 : decode cX7_goesTo 173 = .ok (.invokevirtual 97, 3) := by decide +kernel
theorem dX7_goesTo_176 : decode cX7_goesTo 176 = .ok (.istore 14, 2) := by decide +kernel
theorem dX7_goesTo_178 : decode cX7_goesTo 178 = .ok (.aload_n 0, 1) := by decide +kernel
theorem dX7_goesTo_179 : decode cX7_goesTo 179 = .ok (.getfield 7, 3) := by decide +kernel
theorem dX7_goesTo_182 : decode cX7_goesTo 182 = .ok (.sipush 908, 3) := by decide +kernel
theorem dX7_goesTo_185 : decode cX7_goesTo 185 = .ok (.bipush 6, 2) := by decide +kernel
theorem dX7_goesTo_187 : decode cX7_goesTo 187 = .ok (.iload_n 1, 1) := by decide +kernel
theorem dX7_goesTo_188 : decode cX7_goesTo 188 = .ok (.imul, 1) := by decide +kernel
theorem dX7_goesTo_189 : decode cX7_goesTo 189 = .ok (.iadd, 1) := by decide +kernel
theorem dX7_goesTo_190 : decode cX7_goesTo 190 = .ok (.iload 13, 2) := by decide +kernel
theorem dX7_goesTo_192 : decode cX7_goesTo 192 = .ok (.iadd, 1) := by decide +kernel
theorem dX7_goesTo_193 : decode cX7_goesTo 193 = .ok (.iaload, 1) := by decide +kernel
theorem dX7_goesTo_194 : decode cX7_goesTo 194 = .ok (.istore 15, 2) := by decide +kernel
theorem dX7_goesTo_196 : decode cX7_goesTo 196 = .ok (.iload 15, 2) := by decide +kernel
theorem dX7_goesTo_198 : decode cX7_goesTo 198 = .ok (.bipush (-6), 2) := by decide +kernel
theorem dX7_goesTo_200 : decode cX7_goesTo 200 = .ok (.if_icmp .ne 13, 3) := by decide +kernel
theorem dX7_goesTo_203 : decode cX7_goesTo 203 = .ok (.aload_n 0, 1) := by decide +kernel
theorem dX7_goesTo_204 : decode cX7_goesTo 204 = .ok (.getfield 20, 3) := by decide +kernel
theorem dX7_goesTo_207 : decode cX7_goesTo 207 = .ok (.iload 13, 2) := by decide +kernel
theorem dX7_goesTo_209 : decode cX7_goesTo 209 = .ok (.iaload, 1) := by decide +kernel
theorem dX7_goesTo_210 : decode cX7_goesTo 210 = .ok (.goto 5, 3) := by decide +kernel
theorem dX7_goesTo_213 : decode cX7_goesTo 213 = .ok (.iload 15, 2) := by decide +kernel
theorem dX7_goesTo_215 : decode cX7_goesTo 215 = .ok (.istore 16, 2) := by decide +kernel
theorem dX7_goesTo_217 : decode cX7_goesTo 217 = .ok (.iload 14, 2) := by decide +kernel
theorem dX7_goesTo_219 : decode cX7_goesTo 219 = .ok (.bipush (-6), 2) := by decide +kernel
theorem dX7_goesTo_221 : decode cX7_goesTo 221 = .ok (.if_icmp .eq 42, 3) := by decide +kernel
theorem dX7_goesTo_224 : decode cX7_goesTo 224 = .ok (.iload 16, 2) := by decide +kernel
theorem dX7_goesTo_226 : decode cX7_goesTo 226 = .ok (.ifCond .le 37, 3) := by decide +kernel
theorem dX7_goesTo_229 : decode cX7_goesTo 229 = .ok (.lload 6, 2) := by decide +kernel
theorem dX7_goesTo_231 : decode cX7_goesTo 231 = .ok (.iload 14, 2) := by decide +kernel
theorem dX7_goesTo_233 : decode cX7_goesTo 233 = .ok (.i2l, 1) := by decide +kernel
theorem dX7_goesTo_234 : decode cX7_goesTo 234 = .ok (.ldc2_w 89, 3) := by decide +kernel
theorem dX7_goesTo_237 : decode cX7_goesTo 237 = .ok (.lmul, 1) := by decide +kernel
theorem dX7_goesTo_238 : decode cX7_goesTo 238 = .ok (.iload 16, 2) := by decide +kernel
theorem dX7_goesTo_240 : decode cX7_goesTo 240 = .ok (.i2l, 1) := by decide +kernel
theorem dX7_goesTo_241 : decode cX7_goesTo 241 = .ok (.ldiv, 1) := by decide +kernel
theorem dX7_goesTo_242 : decode cX7_goesTo 242 = .ok (.lcmp, 1) := by decide +kernel
theorem dX7_goesTo_243 : decode cX7_goesTo 243 = .ok (.ifCond .le 20, 3) := by decide +kernel
theorem dX7_goesTo_246 : decode cX7_goesTo 246 = .ok (.iload 14, 2) := by decide +kernel
theorem dX7_goesTo_248 : decode cX7_goesTo 248 = .ok (.i2l, 1) := by decide +kernel
theorem dX7_goesTo_249 : decode cX7_goesTo 249 = .ok (.ldc2_w 89, 3) := by decide +kernel
theorem dX7_goesTo_252 : decode cX7_goesTo 252 = .ok (.lmul, 1) := by decide +kernel
theorem dX7_goesTo_253 : decode cX7_goesTo 253 = .ok (.iload 16, 2) := by decide +kernel
theorem dX7_goesTo_255 : decode cX7_goesTo 255 = .ok (.i2l, 1) := by decide +kernel
theorem dX7_goesTo_256 : decode cX7_goesTo 256 = .ok (.ldiv, 1) := by decide +kernel
theorem dX7_goesTo_257 : decode cX7_goesTo 257 = .ok (.lstore 6, 2) := by decide +kernel
theorem dX7_goesTo_259 : decode cX7_goesTo 259 = .ok (.iload 13, 2) := by decide +kernel
theorem dX7_goesTo_261 : decode cX7_goesTo 261 = .ok (.istore 12, 2) := by decide +kernel
theorem dX7_goesTo_263 : decode cX7_goesTo 263 = .ok (.iinc 13 1, 3) := by decide +kernel
theorem dX7_goesTo_266 : decode cX7_goesTo 266 = .ok (.goto (-108), 3) := by decide +kernel
theorem dX7_goesTo_269 : decode cX7_goesTo 269 = .ok (.lload 6, 2) := by decide +kernel
theorem dX7_goesTo_271 : decode cX7_goesTo 271 = .ok (.ldc2_w 122, 3) := by decide +kernel
theorem dX7_goesTo_274 : decode cX7_goesTo 274 = .ok (.lcmp, 1) := by decide +kernel
theorem dX7_goesTo_275 : decode cX7_goesTo 275 = .ok (.ifCond .le 9, 3) := by decide +kernel
theorem dX7_goesTo_278 : decode cX7_goesTo 278 = .ok (.ldc2_w 122, 3) := by decide +kernel
theorem dX7_goesTo_281 : decode cX7_goesTo 281 = .ok (.goto 5, 3) := by decide +kernel
theorem dX7_goesTo_284 : decode cX7_goesTo 284 = .ok (.lload 6, 2) := by decide +kernel
theorem dX7_goesTo_286 : decode cX7_goesTo 286 = .ok (.lstore 6, 2) := by decide +kernel
theorem dX7_goesTo_288 : decode cX7_goesTo 288 = .ok (.lload 6, 2) := by decide +kernel
theorem dX7_goesTo_290 : decode cX7_goesTo 290 = .ok (.lconst 1, 1) := by decide +kernel
theorem dX7_goesTo_291 : decode cX7_goesTo 291 = .ok (.lcmp, 1) := by decide +kernel
theorem dX7_goesTo_292 : decode cX7_goesTo 292 = .ok (.ifCond .ge 7, 3) := by decide +kernel
theorem dX7_goesTo_295 : decode cX7_goesTo 295 = .ok (.lconst 1, 1) := by decide +kernel
theorem dX7_goesTo_296 : decode cX7_goesTo 296 = .ok (.goto 5, 3) := by decide +kernel
theorem dX7_goesTo_299 : decode cX7_goesTo 299 = .ok (.lload 6, 2) := by decide +kernel
theorem dX7_goesTo_301 : decode cX7_goesTo 301 = .ok (.lstore 6, 2) := by decide +kernel
theorem dX7_goesTo_303 : decode cX7_goesTo 303 = .ok (.aload_n 0, 1) := by decide +kernel
theorem dX7_goesTo_304 : decode cX7_goesTo 304 = .ok (.getfield 7, 3) := by decide +kernel
theorem dX7_goesTo_307 : decode cX7_goesTo 307 = .ok (.sipush 1708, 3) := by decide +kernel
theorem dX7_goesTo_310 : decode cX7_goesTo 310 = .ok (.iload_n 1, 1) := by decide +kernel
theorem dX7_goesTo_311 : decode cX7_goesTo 311 = .ok (.iadd, 1) := by decide +kernel
theorem dX7_goesTo_312 : decode cX7_goesTo 312 = .ok (.iload 12, 2) := by decide +kernel
theorem dX7_goesTo_314 : decode cX7_goesTo 314 = .ok (.iastore, 1) := by decide +kernel
theorem dX7_goesTo_315 : decode cX7_goesTo 315 = .ok (.aload_n 0, 1) := by decide +kernel
theorem dX7_goesTo_316 : decode cX7_goesTo 316 = .ok (.getfield 7, 3) := by decide +kernel
theorem dX7_goesTo_319 : decode cX7_goesTo 319 = .ok (.sipush 1608, 3) := by decide +kernel
theorem dX7_goesTo_322 : decode cX7_goesTo 322 = .ok (.iload_n 1, 1) := by decide +kernel
theorem dX7_goesTo_323 : decode cX7_goesTo 323 = .ok (.iadd, 1) := by decide +kernel
theorem dX7_goesTo_324 : decode cX7_goesTo 324 = .ok (.lload 6, 2) := by decide +kernel
theorem dX7_goesTo_326 : decode cX7_goesTo 326 = .ok (.l2i, 1) := by decide +kernel
theorem dX7_goesTo_327 : decode cX7_goesTo 327 = .ok (.iastore, 1) := by decide +kernel
theorem dX7_goesTo_328 : decode cX7_goesTo 328 = .ok (.aload_n 0, 1) := by decide +kernel
theorem dX7_goesTo_329 : decode cX7_goesTo 329 = .ok (.getfield 7, 3) := by decide +kernel
theorem dX7_goesTo_332 : decode cX7_goesTo 332 = .ok (.iconst 2, 1) := by decide +kernel
theorem dX7_goesTo_333 : decode cX7_goesTo 333 = .ok (.iload_n 1, 1) := by decide +kernel
theorem dX7_goesTo_334 : decode cX7_goesTo 334 = .ok (.iastore, 1) := by decide +kernel
theorem dX7_goesTo_335 : decode cX7_goesTo 335 = .ok (.aload_n 0, 1) := by decide +kernel
theorem dX7_goesTo_336 : decode cX7_goesTo 336 = .ok (.getfield 7, 3) := by decide +kernel
theorem dX7_goesTo_339 : decode cX7_goesTo 339 = .ok (.iconst 3, 1) := by decide +kernel
theorem dX7_goesTo_340 : decode cX7_goesTo 340 = .ok (.lload 6, 2) := by decide +kernel
theorem dX7_goesTo_342 : decode cX7_goesTo 342 = .ok (.l2i, 1) := by decide +kernel
theorem dX7_goesTo_343 : decode cX7_goesTo 343 = .ok (.iastore, 1) := by decide +kernel
theorem dX7_goesTo_344 : decode cX7_goesTo 344 = .ok (.return_, 1) := by decide +kernel
theorem dX7_loops_0 : decode cX7_loops 0 = .ok (.iconst 0, 1) := by decide +kernel
theorem dX7_loops_1 : decode cX7_loops 1 = .ok (.istore_n 2, 1) := by decide +kernel
theorem dX7_loops_2 : decode cX7_loops 2 = .ok (.iload_n 2, 1) := by decide +kernel
theorem dX7_loops_3 : decode cX7_loops 3 = .ok (.iload_n 1, 1) := by decide +kernel
theorem dX7_loops_4 : decode cX7_loops 4 = .ok (.if_icmp .ge 20, 3) := by decide +kernel
theorem dX7_loops_7 : decode cX7_loops 7 = .ok (.aload_n 0, 1) := by decide +kernel
theorem dX7_loops_8 : decode cX7_loops 8 = .ok (.invokevirtual 45, 3) := by decide +kernel
theorem dX7_loops_11 : decode cX7_loops 11 = .ok (.ifCond .ne 13, 3) := by decide +kernel
theorem dX7_loops_14 : decode cX7_loops 14 = .ok (.aload_n 0, 1) := by decide +kernel
theorem dX7_loops_15 : decode cX7_loops 15 = .ok (.invokevirtual 124, 3) := by decide +kernel
theorem dX7_loops_18 : decode cX7_loops 18 = .ok (.iinc 2 1, 3) := by decide +kernel
theorem dX7_loops_21 : decode cX7_loops 21 = .ok (.goto (-19), 3) := by decide +kernel
theorem dX7_loops_24 : decode cX7_loops 24 = .ok (.iload_n 2, 1) := by decide +kernel
theorem dX7_loops_25 : decode cX7_loops 25 = .ok (.ireturn, 1) := by decide +kernel
theorem dX7_step_0 : decode cX7_step 0 = .ok (.iload_n 1, 1) := by decide +kernel
theorem dX7_step_1 : decode cX7_step 1 = .ok (.iconst 1, 1) := by decide +kernel
theorem dX7_step_2 : decode cX7_step 2 = .ok (.bipush 50, 2) := by decide +kernel
theorem dX7_step_4 : decode cX7_step 4 = .ok (.invokestatic 41, 3) := by decide +kernel
theorem dX7_step_7 : decode cX7_step 7 = .ok (.ifCond .ne 6, 3) := by decide +kernel
theorem dX7_step_10 : decode cX7_step 10 = .ok (.bipush (-2), 2) := by decide +kernel
theorem dX7_step_12 : decode cX7_step 12 = .ok (.ireturn, 1) := by decide +kernel
theorem dX7_step_13 : decode cX7_step 13 = .ok (.aload_n 0, 1) := by decide +kernel
theorem dX7_step_14 : decode cX7_step 14 = .ok (.invokevirtual 45, 3) := by decide +kernel
theorem dX7_step_17 : decode cX7_step 17 = .ok (.ifCond .eq 6, 3) := by decide +kernel
theorem dX7_step_20 : decode cX7_step 20 = .ok (.bipush (-3), 2) := by decide +kernel
theorem dX7_step_22 : decode cX7_step 22 = .ok (.ireturn, 1) := by decide +kernel
theorem dX7_step_23 : decode cX7_step 23 = .ok (.aload_n 0, 1) := by decide +kernel
theorem dX7_step_24 : decode cX7_step 24 = .ok (.invokevirtual 53, 3) := by decide +kernel
theorem dX7_step_27 : decode cX7_step 27 = .ok (.aload_n 0, 1) := by decide +kernel
theorem dX7_step_28 : decode cX7_step 28 = .ok (.iload_n 1, 1) := by decide +kernel
theorem dX7_step_29 : decode cX7_step 29 = .ok (.invokevirtual 127, 3) := by decide +kernel
theorem dX7_step_32 : decode cX7_step 32 = .ok (.ireturn, 1) := by decide +kernel
theorem dX7_canHold_0 : decode cX7_canHold 0 = .ok (.aload_n 0, 1) := by decide +kernel
theorem dX7_canHold_1 : decode cX7_canHold 1 = .ok (.getfield 7, 3) := by decide +kernel
theorem dX7_canHold_4 : decode cX7_canHold 4 = .ok (.iconst 1, 1) := by decide +kernel
theorem dX7_canHold_5 : decode cX7_canHold 5 = .ok (.iaload, 1) := by decide +kernel
theorem dX7_canHold_6 : decode cX7_canHold 6 = .ok (.iload_n 1, 1) := by decide +kernel
theorem dX7_canHold_7 : decode cX7_canHold 7 = .ok (.ifCond .eq 7, 3) := by decide +kernel
theorem dX7_canHold_10 : decode cX7_canHold 10 = .ok (.iconst 1, 1) := by decide +kernel
theorem dX7_canHold_11 : decode cX7_canHold 11 = .ok (.goto 4, 3) := by decide +kernel
theorem dX7_canHold_14 : decode cX7_canHold 14 = .ok (.iconst 2, 1) := by decide +kernel
theorem dX7_canHold_15 : decode cX7_canHold 15 = .ok (.if_icmp .ne 7, 3) := by decide +kernel
theorem dX7_canHold_18 : decode cX7_canHold 18 = .ok (.iconst 1, 1) := by decide +kernel
theorem dX7_canHold_19 : decode cX7_canHold 19 = .ok (.goto 4, 3) := by decide +kernel
theorem dX7_canHold_22 : decode cX7_canHold 22 = .ok (.iconst 0, 1) := by decide +kernel
theorem dX7_canHold_23 : decode cX7_canHold 23 = .ok (.ireturn, 1) := by decide +kernel
theorem dX7_hold_0 : decode cX7_hold 0 = .ok (.aload_n 0, 1) := by decide +kernel
theorem dX7_hold_1 : decode cX7_hold 1 = .ok (.iload_n 1, 1) := by decide +kernel
theorem dX7_hold_2 : decode cX7_hold 2 = .ok (.invokevirtual 130, 3) := by decide +kernel
theorem dX7_hold_5 : decode cX7_hold 5 = .ok (.ifCond .ne 6, 3) := by decide +kernel
theorem dX7_hold_8 : decode cX7_hold 8 = .ok (.bipush (-3), 2) := by decide +kernel
theorem dX7_hold_10 : decode cX7_hold 10 = .ok (.ireturn, 1) := by decide +kernel
theorem dX7_hold_11 : decode cX7_hold 11 = .ok (.aload_n 0, 1) := by decide +kernel
theorem dX7_hold_12 : decode cX7_hold 12 = .ok (.invokevirtual 53, 3) := by decide +kernel
theorem dX7_hold_15 : decode cX7_hold 15 = .ok (.aload_n 0, 1) := by decide +kernel
theorem dX7_hold_16 : decode cX7_hold 16 = .ok (.getfield 7, 3) := by decide +kernel
theorem dX7_hold_19 : decode cX7_hold 19 = .ok (.iconst 1, 1) := by decide +kernel
theorem dX7_hold_20 : decode cX7_hold 20 = .ok (.iload_n 1, 1) := by decide +kernel
theorem dX7_hold_21 : decode cX7_hold 21 = .ok (.ifCond .eq 7, 3) := by decide +kernel
theorem dX7_hold_24 : decode cX7_hold 24 = .ok (.iconst 2, 1) := by decide +kernel
theorem dX7_hold_25 : decode cX7_hold 25 = .ok (.goto 4, 3) := by decide +kernel
theorem dX7_hold_28 : decode cX7_hold 28 = .ok (.iconst 1, 1) := by decide +kernel
theorem dX7_hold_29 : decode cX7_hold 29 = .ok (.iastore, 1) := by decide +kernel
theorem dX7_hold_30 : decode cX7_hold 30 = .ok (.aload_n 0, 1) := by decide +kernel
theorem dX7_hold_31 : decode cX7_hold 31 = .ok (.getfield 7, 3) := by decide +kernel
theorem dX7_hold_34 : decode cX7_hold 34 = .ok (.iconst 2, 1) := by decide +kernel
theorem dX7_hold_35 : decode cX7_hold 35 = .ok (.iaload, 1) := by decide +kernel
theorem dX7_hold_36 : decode cX7_hold 36 = .ok (.ireturn, 1) := by decide +kernel
theorem dX7_canAbort_0 : decode cX7_canAbort 0 = .ok (.aload_n 0, 1) := by decide +kernel
theorem dX7_canAbort_1 : decode cX7_canAbort 1 = .ok (.getfield 7, 3) := by decide +kernel
theorem dX7_canAbort_4 : decode cX7_canAbort 4 = .ok (.iconst 1, 1) := by decide +kernel
theorem dX7_canAbort_5 : decode cX7_canAbort 5 = .ok (.iaload, 1) := by decide +kernel
theorem dX7_canAbort_6 : decode cX7_canAbort 6 = .ok (.iconst 1, 1) := by decide +kernel
theorem dX7_canAbort_7 : decode cX7_canAbort 7 = .ok (.if_icmp .eq 13, 3) := by decide +kernel
theorem dX7_canAbort_10 : decode cX7_canAbort 10 = .ok (.aload_n 0, 1) := by decide +kernel
theorem dX7_canAbort_11 : decode cX7_canAbort 11 = .ok (.getfield 7, 3) := by decide +kernel
theorem dX7_canAbort_14 : decode cX7_canAbort 14 = .ok (.iconst 1, 1) := by decide +kernel
theorem dX7_canAbort_15 : decode cX7_canAbort 15 = .ok (.iaload, 1) := by decide +kernel
theorem dX7_canAbort_16 : decode cX7_canAbort 16 = .ok (.iconst 2, 1) := by decide +kernel
theorem dX7_canAbort_17 : decode cX7_canAbort 17 = .ok (.if_icmp .ne 7, 3) := by decide +kernel
theorem dX7_canAbort_20 : decode cX7_canAbort 20 = .ok (.iconst 1, 1) := by decide +kernel
theorem dX7_canAbort_21 : decode cX7_canAbort 21 = .ok (.goto 4, 3) := by decide +kernel
theorem dX7_canAbort_24 : decode cX7_canAbort 24 = .ok (.iconst 0, 1) := by decide +kernel
theorem dX7_canAbort_25 : decode cX7_canAbort 25 = .ok (.ireturn, 1) := by decide +kernel
theorem dX7_aborts_0 : decode cX7_aborts 0 = .ok (.aload_n 0, 1) := by decide +kernel
theorem dX7_aborts_1 : decode cX7_aborts 1 = .ok (.getfield 7, 3) := by decide +kernel
theorem dX7_aborts_4 : decode cX7_aborts 4 = .ok (.iconst 1, 1) := by decide +kernel
theorem dX7_aborts_5 : decode cX7_aborts 5 = .ok (.iconst 3, 1) := by decide +kernel
theorem dX7_aborts_6 : decode cX7_aborts 6 = .ok (.iastore, 1) := by decide +kernel
theorem dX7_aborts_7 : decode cX7_aborts 7 = .ok (.aload_n 0, 1) := by decide +kernel
theorem dX7_aborts_8 : decode cX7_aborts 8 = .ok (.getfield 7, 3) := by decide +kernel
theorem dX7_aborts_11 : decode cX7_aborts 11 = .ok (.bipush 9, 2) := by decide +kernel
theorem dX7_aborts_13 : decode cX7_aborts 13 = .ok (.bipush (-6), 2) := by decide +kernel
theorem dX7_aborts_15 : decode cX7_aborts 15 = .ok (.iastore, 1) := by decide +kernel
theorem dX7_aborts_16 : decode cX7_aborts 16 = .ok (.aload_n 0, 1) := by decide +kernel
theorem dX7_aborts_17 : decode cX7_aborts 17 = .ok (.getfield 7, 3) := by decide +kernel
theorem dX7_aborts_20 : decode cX7_aborts 20 = .ok (.bipush 10, 2) := by decide +kernel
theorem dX7_aborts_22 : decode cX7_aborts 22 = .ok (.aload_n 0, 1) := by decide +kernel
theorem dX7_aborts_23 : decode cX7_aborts 23 = .ok (.getfield 7, 3) := by decide +kernel
theorem dX7_aborts_26 : decode cX7_aborts 26 = .ok (.iconst 2, 1) := by decide +kernel
theorem dX7_aborts_27 : decode cX7_aborts 27 = .ok (.iaload, 1) := by decide +kernel
theorem dX7_aborts_28 : decode cX7_aborts 28 = .ok (.iastore, 1) := by decide +kernel
theorem dX7_aborts_29 : decode cX7_aborts 29 = .ok (.return_, 1) := by decide +kernel
theorem dX7_abort_0 : decode cX7_abort 0 = .ok (.aload_n 0, 1) := by decide +kernel
theorem dX7_abort_1 : decode cX7_abort 1 = .ok (.invokevirtual 134, 3) := by decide +kernel
theorem dX7_abort_4 : decode cX7_abort 4 = .ok (.ifCond .ne 6, 3) := by decide +kernel
theorem dX7_abort_7 : decode cX7_abort 7 = .ok (.bipush (-3), 2) := by decide +kernel
theorem dX7_abort_9 : decode cX7_abort 9 = .ok (.ireturn, 1) := by decide +kernel
theorem dX7_abort_10 : decode cX7_abort 10 = .ok (.aload_n 0, 1) := by decide +kernel
theorem dX7_abort_11 : decode cX7_abort 11 = .ok (.invokevirtual 53, 3) := by decide +kernel
theorem dX7_abort_14 : decode cX7_abort 14 = .ok (.aload_n 0, 1) := by decide +kernel
theorem dX7_abort_15 : decode cX7_abort 15 = .ok (.invokevirtual 137, 3) := by decide +kernel
theorem dX7_abort_18 : decode cX7_abort 18 = .ok (.aload_n 0, 1) := by decide +kernel
theorem dX7_abort_19 : decode cX7_abort 19 = .ok (.getfield 7, 3) := by decide +kernel
theorem dX7_abort_22 : decode cX7_abort 22 = .ok (.iconst 2, 1) := by decide +kernel
theorem dX7_abort_23 : decode cX7_abort 23 = .ok (.iaload, 1) := by decide +kernel
theorem dX7_abort_24 : decode cX7_abort 24 = .ok (.ireturn, 1) := by decide +kernel
theorem dX7_append_0 : decode cX7_append 0 = .ok (.iload_n 1, 1) := by decide +kernel
theorem dX7_append_1 : decode cX7_append 1 = .ok (.bipush 32, 2) := by decide +kernel
theorem dX7_append_3 : decode cX7_append 3 = .ok (.bipush 126, 2) := by decide +kernel
theorem dX7_append_5 : decode cX7_append 5 = .ok (.invokestatic 41, 3) := by decide +kernel
theorem dX7_append_8 : decode cX7_append 8 = .ok (.ifCond .ne 6, 3) := by decide +kernel
theorem dX7_append_11 : decode cX7_append 11 = .ok (.bipush (-2), 2) := by decide +kernel
theorem dX7_append_13 : decode cX7_append 13 = .ok (.ireturn, 1) := by decide +kernel
theorem dX7_append_14 : decode cX7_append 14 = .ok (.aload_n 0, 1) := by decide +kernel
theorem dX7_append_15 : decode cX7_append 15 = .ok (.getfield 140, 3) := by decide +kernel
theorem dX7_append_18 : decode cX7_append 18 = .ok (.bipush 80, 2) := by decide +kernel
theorem dX7_append_20 : decode cX7_append 20 = .ok (.if_icmp .ne 6, 3) := by decide +kernel
theorem dX7_append_23 : decode cX7_append 23 = .ok (.bipush (-4), 2) := by decide +kernel
theorem dX7_append_25 : decode cX7_append 25 = .ok (.ireturn, 1) := by decide +kernel
theorem dX7_append_26 : decode cX7_append 26 = .ok (.aload_n 0, 1) := by decide +kernel
theorem dX7_append_27 : decode cX7_append 27 = .ok (.getfield 17, 3) := by decide +kernel
theorem dX7_append_30 : decode cX7_append 30 = .ok (.aload_n 0, 1) := by decide +kernel
theorem dX7_append_31 : decode cX7_append 31 = .ok (.getfield 140, 3) := by decide +kernel
theorem dX7_append_34 : decode cX7_append 34 = .ok (.iload_n 1, 1) := by decide +kernel
theorem dX7_append_35 : decode cX7_append 35 = .ok (.iastore, 1) := by decide +kernel
theorem dX7_append_36 : decode cX7_append 36 = .ok (.aload_n 0, 1) := by decide +kernel
theorem dX7_append_37 : decode cX7_append 37 = .ok (.dup, 1) := by decide +kernel
theorem dX7_append_38 : decode cX7_append 38 = .ok (.getfield 140, 3) := by decide +kernel
theorem dX7_append_41 : decode cX7_append 41 = .ok (.iconst 1, 1) := by decide +kernel
theorem dX7_append_42 : decode cX7_append 42 = .ok (.iadd, 1) := by decide +kernel
theorem dX7_append_43 : decode cX7_append 43 = .ok (.putfield 140, 3) := by decide +kernel
theorem dX7_append_46 : decode cX7_append 46 = .ok (.aload_n 0, 1) := by decide +kernel
theorem dX7_append_47 : decode cX7_append 47 = .ok (.getfield 140, 3) := by decide +kernel
theorem dX7_append_50 : decode cX7_append 50 = .ok (.ireturn, 1) := by decide +kernel
theorem dX7_clearText_0 : decode cX7_clearText 0 = .ok (.aload_n 0, 1) := by decide +kernel
theorem dX7_clearText_1 : decode cX7_clearText 1 = .ok (.getfield 140, 3) := by decide +kernel
theorem dX7_clearText_4 : decode cX7_clearText 4 = .ok (.istore_n 1, 1) := by decide +kernel
theorem dX7_clearText_5 : decode cX7_clearText 5 = .ok (.aload_n 0, 1) := by decide +kernel
theorem dX7_clearText_6 : decode cX7_clearText 6 = .ok (.iconst 0, 1) := by decide +kernel
theorem dX7_clearText_7 : decode cX7_clearText 7 = .ok (.putfield 140, 3) := by decide +kernel
theorem dX7_clearText_10 : decode cX7_clearText 10 = .ok (.iload_n 1, 1) := by decide +kernel
theorem dX7_clearText_11 : decode cX7_clearText 11 = .ok (.ireturn, 1) := by decide +kernel
theorem dX7_peek_0 : decode cX7_peek 0 = .ok (.aload_n 0, 1) := by decide +kernel
theorem dX7_peek_1 : decode cX7_peek 1 = .ok (.getfield 143, 3) := by decide +kernel
theorem dX7_peek_4 : decode cX7_peek 4 = .ok (.aload_n 0, 1) := by decide +kernel
theorem dX7_peek_5 : decode cX7_peek 5 = .ok (.getfield 140, 3) := by decide +kernel
theorem dX7_peek_8 : decode cX7_peek 8 = .ok (.if_icmp .ge 15, 3) := by decide +kernel
theorem dX7_peek_11 : decode cX7_peek 11 = .ok (.aload_n 0, 1) := by decide +kernel
theorem dX7_peek_12 : decode cX7_peek 12 = .ok (.getfield 17, 3) := by decide +kernel
theorem dX7_peek_15 : decode cX7_peek 15 = .ok (.aload_n 0, 1) := by decide +kernel
theorem dX7_peek_16 : decode cX7_peek 16 = .ok (.getfield 143, 3) := by decide +kernel
theorem dX7_peek_19 : decode cX7_peek 19 = .ok (.iaload, 1) := by decide +kernel
theorem dX7_peek_20 : decode cX7_peek 20 = .ok (.goto 5, 3) := by decide +kernel
theorem dX7_peek_23 : decode cX7_peek 23 = .ok (.bipush (-6), 2) := by decide +kernel
theorem dX7_peek_25 : decode cX7_peek 25 = .ok (.ireturn, 1) := by decide +kernel
theorem dX7_takes_0 : decode cX7_takes 0 = .ok (.aload_n 0, 1) := by decide +kernel
theorem dX7_takes_1 : decode cX7_takes 1 = .ok (.invokevirtual 146, 3) := by decide +kernel
theorem dX7_takes_4 : decode cX7_takes 4 = .ok (.iload_n 1, 1) := by decide +kernel
theorem dX7_takes_5 : decode cX7_takes 5 = .ok (.if_icmp .ne 7, 3) := by decide +kernel
theorem dX7_takes_8 : decode cX7_takes 8 = .ok (.iconst 1, 1) := by decide +kernel
theorem dX7_takes_9 : decode cX7_takes 9 = .ok (.goto 4, 3) := by decide +kernel
end
section
theorem dX7_takes_12 : decode cX7_takes 12 = .ok (.iconst 0, 1) := by decide +kernel
theorem dX7_takes_13 : decode cX7_takes 13 = .ok (.istore_n 2, 1) := by decide +kernel
theorem dX7_takes_14 : decode cX7_takes 14 = .ok (.aload_n 0, 1) := by decide +kernel
theorem dX7_takes_15 : decode cX7_takes 15 = .ok (.dup, 1) := by decide +kernel
theorem dX7_takes_16 : decode cX7_takes 16 = .ok (.getfield 143, 3) := by decide +kernel
theorem dX7_takes_19 : decode cX7_takes 19 = .ok (.iload_n 2, 1) := by decide +kernel
theorem dX7_takes_20 : decode cX7_takes 20 = .ok (.ifCond .eq 7, 3) := by decide +kernel
theorem dX7_takes_23 : decode cX7_takes 23 = .ok (.iconst 1, 1) := by decide +kernel
theorem dX7_takes_24 : decode cX7_takes 24 = .ok (.goto 4, 3) := by decide +kernel
theorem dX7_takes_27 : decode cX7_takes 27 = .ok (.iconst 0, 1) := by decide +kernel
theorem dX7_takes_28 : decode cX7_takes 28 = .ok (.iadd, 1) := by decide +kernel
theorem dX7_takes_29 : decode cX7_takes 29 = .ok (.putfield 143, 3) := by decide +kernel
theorem dX7_takes_32 : decode cX7_takes 32 = .ok (.iload_n 2, 1) := by decide +kernel
theorem dX7_takes_33 : decode cX7_takes 33 = .ok (.ireturn, 1) := by decide +kernel
theorem dX7_takesNumber_0 : decode cX7_takesNumber 0 = .ok (.aload_n 0, 1) := by decide +kernel
theorem dX7_takesNumber_1 : decode cX7_takesNumber 1 = .ok (.getfield 143, 3) := by decide +kernel
theorem dX7_takesNumber_4 : decode cX7_takesNumber 4 = .ok (.istore_n 3, 1) := by decide +kernel
theorem dX7_takesNumber_5 : decode cX7_takesNumber 5 = .ok (.aload_n 0, 1) := by decide +kernel
theorem dX7_takesNumber_6 : decode cX7_takesNumber 6 = .ok (.iconst 0, 1) := by decide +kernel
theorem dX7_takesNumber_7 : decode cX7_takesNumber 7 = .ok (.putfield 149, 3) := by decide +kernel
theorem dX7_takesNumber_10 : decode cX7_takesNumber 10 = .ok (.aload_n 0, 1) := by decide +kernel
theorem dX7_takesNumber_11 : decode cX7_takesNumber 11 = .ok (.invokevirtual 146, 3) := by decide +kernel
theorem dX7_takesNumber_14 : decode cX7_takesNumber 14 = .ok (.bipush 48, 2) := by decide +kernel
theorem dX7_takesNumber_16 : decode cX7_takesNumber 16 = .ok (.bipush 57, 2) := by decide +kernel
theorem dX7_takesNumber_18 : decode cX7_takesNumber 18 = .ok (.invokestatic 41, 3) := by decide +kernel
theorem dX7_takesNumber_21 : decode cX7_takesNumber 21 = .ok (.ifCond .eq 64, 3) := by decide +kernel
theorem dX7_takesNumber_24 : decode cX7_takesNumber 24 = .ok (.aload_n 0, 1) := by decide +kernel
theorem dX7_takesNumber_25 : decode cX7_takesNumber 25 = .ok (.getfield 143, 3) := by decide +kernel
theorem dX7_takesNumber_28 : decode cX7_takesNumber 28 = .ok (.iload_n 3, 1) := by decide +kernel
theorem dX7_takesNumber_29 : decode cX7_takesNumber 29 = .ok (.isub, 1) := by decide +kernel
theorem dX7_takesNumber_30 : decode cX7_takesNumber 30 = .ok (.iconst 3, 1) := by decide +kernel
theorem dX7_takesNumber_31 : decode cX7_takesNumber 31 = .ok (.if_icmp .ge 54, 3) := by decide +kernel
theorem dX7_takesNumber_34 : decode cX7_takesNumber 34 = .ok (.aload_n 0, 1) := by decide +kernel
theorem dX7_takesNumber_35 : decode cX7_takesNumber 35 = .ok (.getfield 143, 3) := by decide +kernel
theorem dX7_takesNumber_38 : decode cX7_takesNumber 38 = .ok (.iload_n 3, 1) := by decide +kernel
theorem dX7_takesNumber_39 : decode cX7_takesNumber 39 = .ok (.if_icmp .eq 14, 3) := by decide +kernel
theorem dX7_takesNumber_42 : decode cX7_takesNumber 42 = .ok (.aload_n 0, 1) := by decide +kernel
theorem dX7_takesNumber_43 : decode cX7_takesNumber 43 = .ok (.getfield 17, 3) := by decide +kernel
theorem dX7_takesNumber_46 : decode cX7_takesNumber 46 = .ok (.iload_n 3, 1) := by decide +kernel
theorem dX7_takesNumber_47 : decode cX7_takesNumber 47 = .ok (.iaload, 1) := by decide +kernel
theorem dX7_takesNumber_48 : decode cX7_takesNumber 48 = .ok (.bipush 48, 2) := by decide +kernel
theorem dX7_takesNumber_50 : decode cX7_takesNumber 50 = .ok (.if_icmp .eq 35, 3) := by decide +kernel
theorem dX7_takesNumber_53 : decode cX7_takesNumber 53 = .ok (.aload_n 0, 1) := by decide +kernel
theorem dX7_takesNumber_54 : decode cX7_takesNumber 54 = .ok (.bipush 10, 2) := by decide +kernel
theorem dX7_takesNumber_56 : decode cX7_takesNumber 56 = .ok (.aload_n 0, 1) := by decide +kernel
theorem dX7_takesNumber_57 : decode cX7_takesNumber 57 = .ok (.getfield 149, 3) := by decide +kernel
theorem dX7_takesNumber_60 : decode cX7_takesNumber 60 = .ok (.imul, 1) := by decide +kernel
theorem dX7_takesNumber_61 : decode cX7_takesNumber 61 = .ok (.aload_n 0, 1) := by decide +kernel
theorem dX7_takesNumber_62 : decode cX7_takesNumber 62 = .ok (.invokevirtual 146, 3) := by decide +kernel
theorem dX7_takesNumber_65 : decode cX7_takesNumber 65 = .ok (.iadd, 1) := by decide +kernel
theorem dX7_takesNumber_66 : decode cX7_takesNumber 66 = .ok (.bipush 48, 2) := by decide +kernel
theorem dX7_takesNumber_68 : decode cX7_takesNumber 68 = .ok (.isub, 1) := by decide +kernel
theorem dX7_takesNumber_69 : decode cX7_takesNumber 69 = .ok (.putfield 149, 3) := by decide +kernel
theorem dX7_takesNumber_72 : decode cX7_takesNumber 72 = .ok (.aload_n 0, 1) := by decide +kernel
theorem dX7_takesNumber_73 : decode cX7_takesNumber 73 = .ok (.dup, 1) := by decide +kernel
theorem dX7_takesNumber_74 : decode cX7_takesNumber 74 = .ok (.getfield 143, 3) := by decide +kernel
theorem dX7_takesNumber_77 : decode cX7_takesNumber 77 = .ok (.iconst 1, 1) := by decide +kernel
theorem dX7_takesNumber_78 : decode cX7_takesNumber 78 = .ok (.iadd, 1) := by decide +kernel
theorem dX7_takesNumber_79 : decode cX7_takesNumber 79 = .ok (.putfield 143, 3) := by decide +kernel
theorem dX7_takesNumber_82 : decode cX7_takesNumber 82 = .ok (.goto (-72), 3) := by decide +kernel
theorem dX7_takesNumber_85 : decode cX7_takesNumber 85 = .ok (.aload_n 0, 1) := by decide +kernel
theorem dX7_takesNumber_86 : decode cX7_takesNumber 86 = .ok (.getfield 143, 3) := by decide +kernel
theorem dX7_takesNumber_89 : decode cX7_takesNumber 89 = .ok (.iload_n 3, 1) := by decide +kernel
theorem dX7_takesNumber_90 : decode cX7_takesNumber 90 = .ok (.if_icmp .le 19, 3) := by decide +kernel
theorem dX7_takesNumber_93 : decode cX7_takesNumber 93 = .ok (.aload_n 0, 1) := by decide +kernel
theorem dX7_takesNumber_94 : decode cX7_takesNumber 94 = .ok (.getfield 149, 3) := by decide +kernel
theorem dX7_takesNumber_97 : decode cX7_takesNumber 97 = .ok (.iload_n 1, 1) := by decide +kernel
theorem dX7_takesNumber_98 : decode cX7_takesNumber 98 = .ok (.iload_n 2, 1) := by decide +kernel
theorem dX7_takesNumber_99 : decode cX7_takesNumber 99 = .ok (.invokestatic 41, 3) := by decide +kernel
theorem dX7_takesNumber_102 : decode cX7_takesNumber 102 = .ok (.ifCond .eq 7, 3) := by decide +kernel
theorem dX7_takesNumber_105 : decode cX7_takesNumber 105 = .ok (.iconst 1, 1) := by decide +kernel
theorem dX7_takesNumber_106 : decode cX7_takesNumber 106 = .ok (.goto 4, 3) := by decide +kernel
theorem dX7_takesNumber_109 : decode cX7_takesNumber 109 = .ok (.iconst 0, 1) := by decide +kernel
theorem dX7_takesNumber_110 : decode cX7_takesNumber 110 = .ok (.istore 4, 2) := by decide +kernel
theorem dX7_takesNumber_112 : decode cX7_takesNumber 112 = .ok (.aload_n 0, 1) := by decide +kernel
theorem dX7_takesNumber_113 : decode cX7_takesNumber 113 = .ok (.iload 4, 2) := by decide +kernel
theorem dX7_takesNumber_115 : decode cX7_takesNumber 115 = .ok (.ifCond .eq 10, 3) := by decide +kernel
theorem dX7_takesNumber_118 : decode cX7_takesNumber 118 = .ok (.aload_n 0, 1) := by decide +kernel
theorem dX7_takesNumber_119 : decode cX7_takesNumber 119 = .ok (.getfield 143, 3) := by decide +kernel
theorem dX7_takesNumber_122 : decode cX7_takesNumber 122 = .ok (.goto 4, 3) := by decide +kernel
theorem dX7_takesNumber_125 : decode cX7_takesNumber 125 = .ok (.iload_n 3, 1) := by decide +kernel
theorem dX7_takesNumber_126 : decode cX7_takesNumber 126 = .ok (.putfield 143, 3) := by decide +kernel
theorem dX7_takesNumber_129 : decode cX7_takesNumber 129 = .ok (.iload 4, 2) := by decide +kernel
theorem dX7_takesNumber_131 : decode cX7_takesNumber 131 = .ok (.ireturn, 1) := by decide +kernel
theorem dX7_takesAct_0 : decode cX7_takesAct 0 = .ok (.iload_n 1, 1) := by decide +kernel
theorem dX7_takesAct_1 : decode cX7_takesAct 1 = .ok (.lookupswitch 86 #[(99, 52), (103, 35), (115, 44)], 35) := by decide +kernel
theorem dX7_takesAct_36 : decode cX7_takesAct 36 = .ok (.aload_n 0, 1) := by decide +kernel
theorem dX7_takesAct_37 : decode cX7_takesAct 37 = .ok (.iconst 1, 1) := by decide +kernel
theorem dX7_takesAct_38 : decode cX7_takesAct 38 = .ok (.sipush 999, 3) := by decide +kernel
theorem dX7_takesAct_41 : decode cX7_takesAct 41 = .ok (.invokevirtual 152, 3) := by decide +kernel
theorem dX7_takesAct_44 : decode cX7_takesAct 44 = .ok (.ireturn, 1) := by decide +kernel
theorem dX7_takesAct_45 : decode cX7_takesAct 45 = .ok (.aload_n 0, 1) := by decide +kernel
theorem dX7_takesAct_46 : decode cX7_takesAct 46 = .ok (.iconst 1, 1) := by decide +kernel
theorem dX7_takesAct_47 : decode cX7_takesAct 47 = .ok (.bipush 50, 2) := by decide +kernel
theorem dX7_takesAct_49 : decode cX7_takesAct 49 = .ok (.invokevirtual 152, 3) := by decide +kernel
theorem dX7_takesAct_52 : decode cX7_takesAct 52 = .ok (.ireturn, 1) := by decide +kernel
theorem dX7_takesAct_53 : decode cX7_takesAct 53 = .ok (.aload_n 0, 1) := by decide +kernel
theorem dX7_takesAct_54 : decode cX7_takesAct 54 = .ok (.iconst 0, 1) := by decide +kernel
theorem dX7_takesAct_55 : decode cX7_takesAct 55 = .ok (.iconst 5, 1) := by decide +kernel
theorem dX7_takesAct_56 : decode cX7_takesAct 56 = .ok (.invokevirtual 152, 3) := by decide +kernel
theorem dX7_takesAct_59 : decode cX7_takesAct 59 = .ok (.ifCond .eq 26, 3) := by decide +kernel
theorem dX7_takesAct_62 : decode cX7_takesAct 62 = .ok (.aload_n 0, 1) := by decide +kernel
theorem dX7_takesAct_63 : decode cX7_takesAct 63 = .ok (.bipush 61, 2) := by decide +kernel
theorem dX7_takesAct_65 : decode cX7_takesAct 65 = .ok (.invokevirtual 156, 3) := by decide +kernel
theorem dX7_takesAct_68 : decode cX7_takesAct 68 = .ok (.ifCond .eq 17, 3) := by decide +kernel
theorem dX7_takesAct_71 : decode cX7_takesAct 71 = .ok (.aload_n 0, 1) := by decide +kernel
theorem dX7_takesAct_72 : decode cX7_takesAct 72 = .ok (.iconst 0, 1) := by decide +kernel
theorem dX7_takesAct_73 : decode cX7_takesAct 73 = .ok (.bipush 100, 2) := by decide +kernel
theorem dX7_takesAct_75 : decode cX7_takesAct 75 = .ok (.invokevirtual 152, 3) := by decide +kernel
theorem dX7_takesAct_78 : decode cX7_takesAct 78 = .ok (.ifCond .eq 7, 3) := by decide +kernel
theorem dX7_takesAct_81 : decode cX7_takesAct 81 = .ok (.iconst 1, 1) := by decide +kernel
theorem dX7_takesAct_82 : decode cX7_takesAct 82 = .ok (.goto 4, 3) := by decide +kernel
theorem dX7_takesAct_85 : decode cX7_takesAct 85 = .ok (.iconst 0, 1) := by decide +kernel
theorem dX7_takesAct_86 : decode cX7_takesAct 86 = .ok (.ireturn, 1) := by decide +kernel
theorem dX7_takesAct_87 : decode cX7_takesAct 87 = .ok (.iconst 1, 1) := by decide +kernel
theorem dX7_takesAct_88 : decode cX7_takesAct 88 = .ok (.ireturn, 1) := by decide +kernel
theorem dX7_isLetter_0 : decode cX7_isLetter 0 = .ok (.iload_n 0, 1) := by decide +kernel
theorem dX7_isLetter_1 : decode cX7_isLetter 1 = .ok (.bipush 103, 2) := by decide +kernel
theorem dX7_isLetter_3 : decode cX7_isLetter 3 = .ok (.if_icmp .eq 33, 3) := by decide +kernel
theorem dX7_isLetter_6 : decode cX7_isLetter 6 = .ok (.iload_n 0, 1) := by decide +kernel
theorem dX7_isLetter_7 : decode cX7_isLetter 7 = .ok (.bipush 115, 2) := by decide +kernel
theorem dX7_isLetter_9 : decode cX7_isLetter 9 = .ok (.if_icmp .eq 27, 3) := by decide +kernel
theorem dX7_isLetter_12 : decode cX7_isLetter 12 = .ok (.iload_n 0, 1) := by decide +kernel
theorem dX7_isLetter_13 : decode cX7_isLetter 13 = .ok (.bipush 104, 2) := by decide +kernel
theorem dX7_isLetter_15 : decode cX7_isLetter 15 = .ok (.if_icmp .eq 21, 3) := by decide +kernel
theorem dX7_isLetter_18 : decode cX7_isLetter 18 = .ok (.iload_n 0, 1) := by decide +kernel
theorem dX7_isLetter_19 : decode cX7_isLetter 19 = .ok (.bipush 114, 2) := by decide +kernel
theorem dX7_isLetter_21 : decode cX7_isLetter 21 = .ok (.if_icmp .eq 15, 3) := by decide +kernel
theorem dX7_isLetter_24 : decode cX7_isLetter 24 = .ok (.iload_n 0, 1) := by decide +kernel
theorem dX7_isLetter_25 : decode cX7_isLetter 25 = .ok (.bipush 120, 2) := by decide +kernel
theorem dX7_isLetter_27 : decode cX7_isLetter 27 = .ok (.if_icmp .eq 9, 3) := by decide +kernel
theorem dX7_isLetter_30 : decode cX7_isLetter 30 = .ok (.iload_n 0, 1) := by decide +kernel
theorem dX7_isLetter_31 : decode cX7_isLetter 31 = .ok (.bipush 99, 2) := by decide +kernel
theorem dX7_isLetter_33 : decode cX7_isLetter 33 = .ok (.if_icmp .ne 7, 3) := by decide +kernel
theorem dX7_isLetter_36 : decode cX7_isLetter 36 = .ok (.iconst 1, 1) := by decide +kernel
theorem dX7_isLetter_37 : decode cX7_isLetter 37 = .ok (.goto 4, 3) := by decide +kernel
theorem dX7_isLetter_40 : decode cX7_isLetter 40 = .ok (.iconst 0, 1) := by decide +kernel
theorem dX7_isLetter_41 : decode cX7_isLetter 41 = .ok (.ireturn, 1) := by decide +kernel
theorem dX7_faultPosition_0 : decode cX7_faultPosition 0 = .ok (.aload_n 0, 1) := by decide +kernel
theorem dX7_faultPosition_1 : decode cX7_faultPosition 1 = .ok (.iconst 0, 1) := by decide +kernel
theorem dX7_faultPosition_2 : decode cX7_faultPosition 2 = .ok (.putfield 143, 3) := by decide +kernel
theorem dX7_faultPosition_5 : decode cX7_faultPosition 5 = .ok (.aload_n 0, 1) := by decide +kernel
theorem dX7_faultPosition_6 : decode cX7_faultPosition 6 = .ok (.getfield 143, 3) := by decide +kernel
theorem dX7_faultPosition_9 : decode cX7_faultPosition 9 = .ok (.aload_n 0, 1) := by decide +kernel
theorem dX7_faultPosition_10 : decode cX7_faultPosition 10 = .ok (.getfield 140, 3) := by decide +kernel
theorem dX7_faultPosition_13 : decode cX7_faultPosition 13 = .ok (.if_icmp .ge 55, 3) := by decide +kernel
theorem dX7_faultPosition_16 : decode cX7_faultPosition 16 = .ok (.aload_n 0, 1) := by decide +kernel
theorem dX7_faultPosition_17 : decode cX7_faultPosition 17 = .ok (.invokevirtual 146, 3) := by decide +kernel
theorem dX7_faultPosition_20 : decode cX7_faultPosition 20 = .ok (.istore_n 1, 1) := by decide +kernel
theorem dX7_faultPosition_21 : decode cX7_faultPosition 21 = .ok (.iload_n 1, 1) := by decide +kernel
theorem dX7_faultPosition_22 : decode cX7_faultPosition 22 = .ok (.invokestatic 159, 3) := by decide +kernel
theorem dX7_faultPosition_25 : decode cX7_faultPosition 25 = .ok (.ifCond .ne 8, 3) := by decide +kernel
theorem dX7_faultPosition_28 : decode cX7_faultPosition 28 = .ok (.aload_n 0, 1) := by decide +kernel
theorem dX7_faultPosition_29 : decode cX7_faultPosition 29 = .ok (.getfield 143, 3) := by decide +kernel
theorem dX7_faultPosition_32 : decode cX7_faultPosition 32 = .ok (.ireturn, 1) := by decide +kernel
theorem dX7_faultPosition_33 : decode cX7_faultPosition 33 = .ok (.aload_n 0, 1) := by decide +kernel
theorem dX7_faultPosition_34 : decode cX7_faultPosition 34 = .ok (.dup, 1) := by decide +kernel
theorem dX7_faultPosition_35 : decode cX7_faultPosition 35 = .ok (.getfield 143, 3) := by decide +kernel
theorem dX7_faultPosition_38 : decode cX7_faultPosition 38 = .ok (.iconst 1, 1) := by decide +kernel
theorem dX7_faultPosition_39 : decode cX7_faultPosition 39 = .ok (.iadd, 1) := by decide +kernel
theorem dX7_faultPosition_40 : decode cX7_faultPosition 40 = .ok (.putfield 143, 3) := by decide +kernel
theorem dX7_faultPosition_43 : decode cX7_faultPosition 43 = .ok (.aload_n 0, 1) := by decide +kernel
theorem dX7_faultPosition_44 : decode cX7_faultPosition 44 = .ok (.iload_n 1, 1) := by decide +kernel
theorem dX7_faultPosition_45 : decode cX7_faultPosition 45 = .ok (.invokevirtual 162, 3) := by decide +kernel
theorem dX7_faultPosition_48 : decode cX7_faultPosition 48 = .ok (.ifCond .eq 12, 3) := by decide +kernel
theorem dX7_faultPosition_51 : decode cX7_faultPosition 51 = .ok (.aload_n 0, 1) := by decide +kernel
theorem dX7_faultPosition_52 : decode cX7_faultPosition 52 = .ok (.bipush 59, 2) := by decide +kernel
theorem dX7_faultPosition_54 : decode cX7_faultPosition 54 = .ok (.invokevirtual 156, 3) := by decide +kernel
theorem dX7_faultPosition_57 : decode cX7_faultPosition 57 = .ok (.ifCond .ne 8, 3) := by decide +kernel
theorem dX7_faultPosition_60 : decode cX7_faultPosition 60 = .ok (.aload_n 0, 1) := by decide +kernel
theorem dX7_faultPosition_61 : decode cX7_faultPosition 61 = .ok (.getfield 143, 3) := by decide +kernel
theorem dX7_faultPosition_64 : decode cX7_faultPosition 64 = .ok (.ireturn, 1) := by decide +kernel
theorem dX7_faultPosition_65 : decode cX7_faultPosition 65 = .ok (.goto (-60), 3) := by decide +kernel
theorem dX7_faultPosition_68 : decode cX7_faultPosition 68 = .ok (.bipush (-6), 2) := by decide +kernel
theorem dX7_faultPosition_70 : decode cX7_faultPosition 70 = .ok (.ireturn, 1) := by decide +kernel
theorem dX7_does_0 : decode cX7_does 0 = .ok (.iconst 1, 1) := by decide +kernel
theorem dX7_does_1 : decode cX7_does 1 = .ok (.istore_n 2, 1) := by decide +kernel
theorem dX7_does_2 : decode cX7_does 2 = .ok (.iload_n 1, 1) := by decide +kernel
theorem dX7_does_3 : decode cX7_does 3 = .ok (.bipush 103, 2) := by decide +kernel
theorem dX7_does_5 : decode cX7_does 5 = .ok (.if_icmp .ne 54, 3) := by decide +kernel
theorem dX7_does_8 : decode cX7_does 8 = .ok (.aload_n 0, 1) := by decide +kernel
theorem dX7_does_9 : decode cX7_does 9 = .ok (.iconst 1, 1) := by decide +kernel
theorem dX7_does_10 : decode cX7_does 10 = .ok (.sipush 999, 3) := by decide +kernel
theorem dX7_does_13 : decode cX7_does 13 = .ok (.invokevirtual 152, 3) := by decide +kernel
theorem dX7_does_16 : decode cX7_does 16 = .ok (.pop, 1) := by decide +kernel
theorem dX7_does_17 : decode cX7_does 17 = .ok (.aload_n 0, 1) := by decide +kernel
theorem dX7_does_18 : decode cX7_does 18 = .ok (.invokevirtual 81, 3) := by decide +kernel
theorem dX7_does_21 : decode cX7_does 21 = .ok (.ifCond .ne 7, 3) := by decide +kernel
theorem dX7_does_24 : decode cX7_does 24 = .ok (.iconst 1, 1) := by decide +kernel
theorem dX7_does_25 : decode cX7_does 25 = .ok (.goto 4, 3) := by decide +kernel
theorem dX7_does_28 : decode cX7_does 28 = .ok (.iconst 0, 1) := by decide +kernel
theorem dX7_does_29 : decode cX7_does 29 = .ok (.istore_n 2, 1) := by decide +kernel
theorem dX7_does_30 : decode cX7_does 30 = .ok (.iload_n 2, 1) := by decide +kernel
theorem dX7_does_31 : decode cX7_does 31 = .ok (.ifCond .eq 14, 3) := by decide +kernel
theorem dX7_does_34 : decode cX7_does 34 = .ok (.aload_n 0, 1) := by decide +kernel
theorem dX7_does_35 : decode cX7_does 35 = .ok (.aload_n 0, 1) := by decide +kernel
theorem dX7_does_36 : decode cX7_does 36 = .ok (.getfield 149, 3) := by decide +kernel
theorem dX7_does_39 : decode cX7_does 39 = .ok (.invokevirtual 85, 3) := by decide +kernel
theorem dX7_does_42 : decode cX7_does 42 = .ok (.goto 207, 3) := by decide +kernel
theorem dX7_does_45 : decode cX7_does 45 = .ok (.aload_n 0, 1) := by decide +kernel
theorem dX7_does_46 : decode cX7_does 46 = .ok (.getfield 7, 3) := by decide +kernel
theorem dX7_does_49 : decode cX7_does 49 = .ok (.bipush 11, 2) := by decide +kernel
theorem dX7_does_51 : decode cX7_does 51 = .ok (.aload_n 0, 1) := by decide +kernel
theorem dX7_does_52 : decode cX7_does 52 = .ok (.invokevirtual 81, 3) := by decide +kernel
theorem dX7_does_55 : decode cX7_does 55 = .ok (.iastore, 1) := by decide +kernel
theorem dX7_does_56 : decode cX7_does 56 = .ok (.goto 193, 3) := by decide +kernel
theorem dX7_does_59 : decode cX7_does 59 = .ok (.iload_n 1, 1) := by decide +kernel
theorem dX7_does_60 : decode cX7_does 60 = .ok (.bipush 115, 2) := by decide +kernel
theorem dX7_does_62 : decode cX7_does 62 = .ok (.if_icmp .ne 36, 3) := by decide +kernel
theorem dX7_does_65 : decode cX7_does 65 = .ok (.aload_n 0, 1) := by decide +kernel
theorem dX7_does_66 : decode cX7_does 66 = .ok (.iconst 1, 1) := by decide +kernel
theorem dX7_does_67 : decode cX7_does 67 = .ok (.bipush 50, 2) := by decide +kernel
theorem dX7_does_69 : decode cX7_does 69 = .ok (.invokevirtual 152, 3) := by decide +kernel
theorem dX7_does_72 : decode cX7_does 72 = .ok (.pop, 1) := by decide +kernel
theorem dX7_does_73 : decode cX7_does 73 = .ok (.aload_n 0, 1) := by decide +kernel
theorem dX7_does_74 : decode cX7_does 74 = .ok (.invokevirtual 45, 3) := by decide +kernel
theorem dX7_does_77 : decode cX7_does 77 = .ok (.ifCond .ne 7, 3) := by decide +kernel
theorem dX7_does_80 : decode cX7_does 80 = .ok (.iconst 1, 1) := by decide +kernel
theorem dX7_does_81 : decode cX7_does 81 = .ok (.goto 4, 3) := by decide +kernel
theorem dX7_does_84 : decode cX7_does 84 = .ok (.iconst 0, 1) := by decide +kernel
theorem dX7_does_85 : decode cX7_does 85 = .ok (.istore_n 2, 1) := by decide +kernel
theorem dX7_does_86 : decode cX7_does 86 = .ok (.aload_n 0, 1) := by decide +kernel
theorem dX7_does_87 : decode cX7_does 87 = .ok (.aload_n 0, 1) := by decide +kernel
theorem dX7_does_88 : decode cX7_does 88 = .ok (.getfield 149, 3) := by decide +kernel
theorem dX7_does_91 : decode cX7_does 91 = .ok (.invokevirtual 127, 3) := by decide +kernel
theorem dX7_does_94 : decode cX7_does 94 = .ok (.pop, 1) := by decide +kernel
theorem dX7_does_95 : decode cX7_does 95 = .ok (.goto 154, 3) := by decide +kernel
theorem dX7_does_98 : decode cX7_does 98 = .ok (.iload_n 1, 1) := by decide +kernel
theorem dX7_does_99 : decode cX7_does 99 = .ok (.bipush 99, 2) := by decide +kernel
theorem dX7_does_101 : decode cX7_does 101 = .ok (.if_icmp .ne 80, 3) := by decide +kernel
theorem dX7_does_104 : decode cX7_does 104 = .ok (.aload_n 0, 1) := by decide +kernel
theorem dX7_does_105 : decode cX7_does 105 = .ok (.iconst 0, 1) := by decide +kernel
theorem dX7_does_106 : decode cX7_does 106 = .ok (.iconst 5, 1) := by decide +kernel
theorem dX7_does_107 : decode cX7_does 107 = .ok (.invokevirtual 152, 3) := by decide +kernel
theorem dX7_does_110 : decode cX7_does 110 = .ok (.pop, 1) := by decide +kernel
theorem dX7_does_111 : decode cX7_does 111 = .ok (.aload_n 0, 1) := by decide +kernel
theorem dX7_does_112 : decode cX7_does 112 = .ok (.getfield 149, 3) := by decide +kernel
theorem dX7_does_115 : decode cX7_does 115 = .ok (.istore_n 3, 1) := by decide +kernel
theorem dX7_does_116 : decode cX7_does 116 = .ok (.aload_n 0, 1) := by decide +kernel
theorem dX7_does_117 : decode cX7_does 117 = .ok (.bipush 61, 2) := by decide +kernel
theorem dX7_does_119 : decode cX7_does 119 = .ok (.invokevirtual 156, 3) := by decide +kernel
theorem dX7_does_122 : decode cX7_does 122 = .ok (.pop, 1) := by decide +kernel
theorem dX7_does_123 : decode cX7_does 123 = .ok (.aload_n 0, 1) := by decide +kernel
theorem dX7_does_124 : decode cX7_does 124 = .ok (.iconst 0, 1) := by decide +kernel
theorem dX7_does_125 : decode cX7_does 125 = .ok (.bipush 100, 2) := by decide +kernel
theorem dX7_does_127 : decode cX7_does 127 = .ok (.invokevirtual 152, 3) := by decide +kernel
theorem dX7_does_130 : decode cX7_does 130 = .ok (.pop, 1) := by decide +kernel
theorem dX7_does_131 : decode cX7_does 131 = .ok (.aload_n 0, 1) := by decide +kernel
theorem dX7_does_132 : decode cX7_does 132 = .ok (.iload_n 3, 1) := by decide +kernel
theorem dX7_does_133 : decode cX7_does 133 = .ok (.aload_n 0, 1) := by decide +kernel
theorem dX7_does_134 : decode cX7_does 134 = .ok (.getfield 149, 3) := by decide +kernel
theorem dX7_does_137 : decode cX7_does 137 = .ok (.invokevirtual 75, 3) := by decide +kernel
theorem dX7_does_140 : decode cX7_does 140 = .ok (.ifCond .ne 7, 3) := by decide +kernel
theorem dX7_does_143 : decode cX7_does 143 = .ok (.iconst 1, 1) := by decide +kernel
theorem dX7_does_144 : decode cX7_does 144 = .ok (.goto 4, 3) := by decide +kernel
theorem dX7_does_147 : decode cX7_does 147 = .ok (.iconst 0, 1) := by decide +kernel
theorem dX7_does_148 : decode cX7_does 148 = .ok (.istore_n 2, 1) := by decide +kernel
theorem dX7_does_149 : decode cX7_does 149 = .ok (.aload_n 0, 1) := by decide +kernel
theorem dX7_does_150 : decode cX7_does 150 = .ok (.getfield 7, 3) := by decide +kernel
theorem dX7_does_153 : decode cX7_does 153 = .ok (.bipush 12, 2) := by decide +kernel
theorem dX7_does_155 : decode cX7_does 155 = .ok (.iload_n 3, 1) := by decide +kernel
theorem dX7_does_156 : decode cX7_does 156 = .ok (.iadd, 1) := by decide +kernel
theorem dX7_does_157 : decode cX7_does 157 = .ok (.iload_n 2, 1) := by decide +kernel
theorem dX7_does_158 : decode cX7_does 158 = .ok (.ifCond .eq 10, 3) := by decide +kernel
theorem dX7_does_161 : decode cX7_does 161 = .ok (.aload_n 0, 1) := by decide +kernel
theorem dX7_does_162 : decode cX7_does 162 = .ok (.getfield 149, 3) := by decide +kernel
theorem dX7_does_165 : decode cX7_does 165 = .ok (.goto 12, 3) := by decide +kernel
theorem dX7_does_168 : decode cX7_does 168 = .ok (.aload_n 0, 1) := by decide +kernel
theorem dX7_does_169 : decode cX7_does 169 = .ok (.getfield 7, 3) := by decide +kernel
theorem dX7_does_172 : decode cX7_does 172 = .ok (.bipush 12, 2) := by decide +kernel
theorem dX7_does_174 : decode cX7_does 174 = .ok (.iload_n 3, 1) := by decide +kernel
theorem dX7_does_175 : decode cX7_does 175 = .ok (.iadd, 1) := by decide +kernel
theorem dX7_does_176 : decode cX7_does 176 = .ok (.iaload, 1) := by decide +kernel
theorem dX7_does_177 : decode cX7_does 177 = .ok (.iastore, 1) := by decide +kernel
theorem dX7_does_178 : decode cX7_does 178 = .ok (.goto 71, 3) := by decide +kernel
theorem dX7_does_181 : decode cX7_does 181 = .ok (.iload_n 1, 1) := by decide +kernel
theorem dX7_does_182 : decode cX7_does 182 = .ok (.bipush 120, 2) := by decide +kernel
theorem dX7_does_184 : decode cX7_does 184 = .ok (.if_icmp .ne 19, 3) := by decide +kernel
theorem dX7_does_187 : decode cX7_does 187 = .ok (.aload_n 0, 1) := by decide +kernel
theorem dX7_does_188 : decode cX7_does 188 = .ok (.invokevirtual 134, 3) := by decide +kernel
theorem dX7_does_191 : decode cX7_does 191 = .ok (.istore_n 2, 1) := by decide +kernel
theorem dX7_does_192 : decode cX7_does 192 = .ok (.iload_n 2, 1) := by decide +kernel
theorem dX7_does_193 : decode cX7_does 193 = .ok (.ifCond .eq 56, 3) := by decide +kernel
theorem dX7_does_196 : decode cX7_does 196 = .ok (.aload_n 0, 1) := by decide +kernel
theorem dX7_does_197 : decode cX7_does 197 = .ok (.invokevirtual 137, 3) := by decide +kernel
theorem dX7_does_200 : decode cX7_does 200 = .ok (.goto 49, 3) := by decide +kernel
theorem dX7_does_203 : decode cX7_does 203 = .ok (.aload_n 0, 1) := by decide +kernel
theorem dX7_does_204 : decode cX7_does 204 = .ok (.iload_n 1, 1) := by decide +kernel
theorem dX7_does_205 : decode cX7_does 205 = .ok (.bipush 104, 2) := by decide +kernel
theorem dX7_does_207 : decode cX7_does 207 = .ok (.if_icmp .ne 7, 3) := by decide +kernel
theorem dX7_does_210 : decode cX7_does 210 = .ok (.iconst 1, 1) := by decide +kernel
theorem dX7_does_211 : decode cX7_does 211 = .ok (.goto 4, 3) := by decide +kernel
theorem dX7_does_214 : decode cX7_does 214 = .ok (.iconst 0, 1) := by decide +kernel
theorem dX7_does_215 : decode cX7_does 215 = .ok (.invokevirtual 130, 3) := by decide +kernel
theorem dX7_does_218 : decode cX7_does 218 = .ok (.istore_n 2, 1) := by decide +kernel
theorem dX7_does_219 : decode cX7_does 219 = .ok (.aload_n 0, 1) := by decide +kernel
theorem dX7_does_220 : decode cX7_does 220 = .ok (.getfield 7, 3) := by decide +kernel
theorem dX7_does_223 : decode cX7_does 223 = .ok (.iconst 1, 1) := by decide +kernel
theorem dX7_does_224 : decode cX7_does 224 = .ok (.iload_n 2, 1) := by decide +kernel
theorem dX7_does_225 : decode cX7_does 225 = .ok (.ifCond .eq 17, 3) := by decide +kernel
theorem dX7_does_228 : decode cX7_does 228 = .ok (.iload_n 1, 1) := by decide +kernel
theorem dX7_does_229 : decode cX7_does 229 = .ok (.bipush 104, 2) := by decide +kernel
theorem dX7_does_231 : decode cX7_does 231 = .ok (.if_icmp .ne 7, 3) := by decide +kernel
theorem dX7_does_234 : decode cX7_does 234 = .ok (.iconst 2, 1) := by decide +kernel
theorem dX7_does_235 : decode cX7_does 235 = .ok (.goto 13, 3) := by decide +kernel
theorem dX7_does_238 : decode cX7_does 238 = .ok (.iconst 1, 1) := by decide +kernel
theorem dX7_does_239 : decode cX7_does 239 = .ok (.goto 9, 3) := by decide +kernel
theorem dX7_does_242 : decode cX7_does 242 = .ok (.aload_n 0, 1) := by decide +kernel
theorem dX7_does_243 : decode cX7_does 243 = .ok (.getfield 7, 3) := by decide +kernel
theorem dX7_does_246 : decode cX7_does 246 = .ok (.iconst 1, 1) := by decide +kernel
theorem dX7_does_247 : decode cX7_does 247 = .ok (.iaload, 1) := by decide +kernel
theorem dX7_does_248 : decode cX7_does 248 = .ok (.iastore, 1) := by decide +kernel
theorem dX7_does_249 : decode cX7_does 249 = .ok (.aload_n 0, 1) := by decide +kernel
theorem dX7_does_250 : decode cX7_does 250 = .ok (.bipush 59, 2) := by decide +kernel
theorem dX7_does_252 : decode cX7_does 252 = .ok (.invokevirtual 156, 3) := by decide +kernel
theorem dX7_does_255 : decode cX7_does 255 = .ok (.pop, 1) := by decide +kernel
theorem dX7_does_256 : decode cX7_does 256 = .ok (.iload_n 2, 1) := by decide +kernel
theorem dX7_does_257 : decode cX7_does 257 = .ok (.ireturn, 1) := by decide +kernel
theorem dX7_run_0 : decode cX7_run 0 = .ok (.aload_n 0, 1) := by decide +kernel
theorem dX7_run_1 : decode cX7_run 1 = .ok (.invokevirtual 165, 3) := by decide +kernel
theorem dX7_run_4 : decode cX7_run 4 = .ok (.bipush (-6), 2) := by decide +kernel
theorem dX7_run_6 : decode cX7_run 6 = .ok (.if_icmp .eq 6, 3) := by decide +kernel
theorem dX7_run_9 : decode cX7_run 9 = .ok (.bipush (-3), 2) := by decide +kernel
theorem dX7_run_11 : decode cX7_run 11 = .ok (.ireturn, 1) := by decide +kernel
theorem dX7_run_12 : decode cX7_run 12 = .ok (.aload_n 0, 1) := by decide +kernel
theorem dX7_run_13 : decode cX7_run 13 = .ok (.invokevirtual 53, 3) := by decide +kernel
theorem dX7_run_16 : decode cX7_run 16 = .ok (.aload_n 0, 1) := by decide +kernel
theorem dX7_run_17 : decode cX7_run 17 = .ok (.iconst 0, 1) := by decide +kernel
theorem dX7_run_18 : decode cX7_run 18 = .ok (.putfield 143, 3) := by decide +kernel
theorem dX7_run_21 : decode cX7_run 21 = .ok (.iconst 0, 1) := by decide +kernel
theorem dX7_run_22 : decode cX7_run 22 = .ok (.istore_n 1, 1) := by decide +kernel
theorem dX7_run_23 : decode cX7_run 23 = .ok (.aload_n 0, 1) := by decide +kernel
theorem dX7_run_24 : decode cX7_run 24 = .ok (.getfield 143, 3) := by decide +kernel
theorem dX7_run_27 : decode cX7_run 27 = .ok (.aload_n 0, 1) := by decide +kernel
theorem dX7_run_28 : decode cX7_run 28 = .ok (.getfield 140, 3) := by decide +kernel
theorem dX7_run_31 : decode cX7_run 31 = .ok (.if_icmp .ge 34, 3) := by decide +kernel
theorem dX7_run_34 : decode cX7_run 34 = .ok (.aload_n 0, 1) := by decide +kernel
theorem dX7_run_35 : decode cX7_run 35 = .ok (.invokevirtual 146, 3) := by decide +kernel
theorem dX7_run_38 : decode cX7_run 38 = .ok (.istore_n 2, 1) := by decide +kernel
theorem dX7_run_39 : decode cX7_run 39 = .ok (.aload_n 0, 1) := by decide +kernel
theorem dX7_run_40 : decode cX7_run 40 = .ok (.dup, 1) := by decide +kernel
theorem dX7_run_41 : decode cX7_run 41 = .ok (.getfield 143, 3) := by decide +kernel
theorem dX7_run_44 : decode cX7_run 44 = .ok (.iconst 1, 1) := by decide +kernel
theorem dX7_run_45 : decode cX7_run 45 = .ok (.iadd, 1) := by decide +kernel
theorem dX7_run_46 : decode cX7_run 46 = .ok (.putfield 143, 3) := by decide +kernel
theorem dX7_run_49 : decode cX7_run 49 = .ok (.aload_n 0, 1) := by decide +kernel
theorem dX7_run_50 : decode cX7_run 50 = .ok (.iload_n 2, 1) := by decide +kernel
theorem dX7_run_51 : decode cX7_run 51 = .ok (.invokevirtual 168, 3) := by decide +kernel
theorem dX7_run_54 : decode cX7_run 54 = .ok (.ifCond .ne 5, 3) := by decide +kernel
theorem dX7_run_57 : decode cX7_run 57 = .ok (.iload_n 1, 1) := by decide +kernel
theorem dX7_run_58 : decode cX7_run 58 = .ok (.ireturn, 1) := by decide +kernel
theorem dX7_run_59 : decode cX7_run 59 = .ok (.iinc 1 1, 3) := by decide +kernel
theorem dX7_run_62 : decode cX7_run 62 = .ok (.goto (-39), 3) := by decide +kernel
theorem dX7_run_65 : decode cX7_run 65 = .ok (.iload_n 1, 1) := by decide +kernel
theorem dX7_run_66 : decode cX7_run 66 = .ok (.ireturn, 1) := by decide +kernel
theorem dX7_undo_0 : decode cX7_undo 0 = .ok (.aload_n 0, 1) := by decide +kernel
theorem dX7_undo_1 : decode cX7_undo 1 = .ok (.getfield 29, 3) := by decide +kernel
theorem dX7_undo_4 : decode cX7_undo 4 = .ok (.ifCond .ne 6, 3) := by decide +kernel
theorem dX7_undo_7 : decode cX7_undo 7 = .ok (.bipush (-3), 2) := by decide +kernel
theorem dX7_undo_9 : decode cX7_undo 9 = .ok (.ireturn, 1) := by decide +kernel
theorem dX7_undo_10 : decode cX7_undo 10 = .ok (.aload_n 0, 1) := by decide +kernel
theorem dX7_undo_11 : decode cX7_undo 11 = .ok (.sipush 1808, 3) := by decide +kernel
theorem dX7_undo_14 : decode cX7_undo 14 = .ok (.aload_n 0, 1) := by decide +kernel
theorem dX7_undo_15 : decode cX7_undo 15 = .ok (.getfield 29, 3) := by decide +kernel
theorem dX7_undo_18 : decode cX7_undo 18 = .ok (.imul, 1) := by decide +kernel
theorem dX7_undo_19 : decode cX7_undo 19 = .ok (.iconst 0, 1) := by decide +kernel
theorem dX7_undo_20 : decode cX7_undo 20 = .ok (.invokevirtual 33, 3) := by decide +kernel
theorem dX7_undo_23 : decode cX7_undo 23 = .ok (.aload_n 0, 1) := by decide +kernel
theorem dX7_undo_24 : decode cX7_undo 24 = .ok (.dup, 1) := by decide +kernel
theorem dX7_undo_25 : decode cX7_undo 25 = .ok (.getfield 29, 3) := by decide +kernel
theorem dX7_undo_28 : decode cX7_undo 28 = .ok (.iconst 1, 1) := by decide +kernel
theorem dX7_undo_29 : decode cX7_undo 29 = .ok (.isub, 1) := by decide +kernel
theorem dX7_undo_30 : decode cX7_undo 30 = .ok (.putfield 29, 3) := by decide +kernel
theorem dX7_undo_33 : decode cX7_undo 33 = .ok (.aload_n 0, 1) := by decide +kernel
theorem dX7_undo_34 : decode cX7_undo 34 = .ok (.getfield 29, 3) := by decide +kernel
theorem dX7_undo_37 : decode cX7_undo 37 = .ok (.ireturn, 1) := by decide +kernel
theorem dX7_save_0 : decode cX7_save 0 = .ok (.iload_n 1, 1) := by decide +kernel
theorem dX7_save_1 : decode cX7_save 1 = .ok (.iconst 0, 1) := by decide +kernel
theorem dX7_save_2 : decode cX7_save 2 = .ok (.iconst 1, 1) := by decide +kernel
theorem dX7_save_3 : decode cX7_save 3 = .ok (.invokestatic 41, 3) := by decide +kernel
theorem dX7_save_6 : decode cX7_save 6 = .ok (.ifCond .ne 5, 3) := by decide +kernel
theorem dX7_save_9 : decode cX7_save 9 = .ok (.iconst (-1), 1) := by decide +kernel
theorem dX7_save_10 : decode cX7_save 10 = .ok (.ireturn, 1) := by decide +kernel
theorem dX7_save_11 : decode cX7_save 11 = .ok (.aload_n 0, 1) := by decide +kernel
theorem dX7_save_12 : decode cX7_save 12 = .ok (.iconst 0, 1) := by decide +kernel
theorem dX7_save_13 : decode cX7_save 13 = .ok (.sipush 1808, 3) := by decide +kernel
theorem dX7_save_16 : decode cX7_save 16 = .ok (.bipush 6, 2) := by decide +kernel
theorem dX7_save_18 : decode cX7_save 18 = .ok (.iload_n 1, 1) := by decide +kernel
theorem dX7_save_19 : decode cX7_save 19 = .ok (.iadd, 1) := by decide +kernel
theorem dX7_save_20 : decode cX7_save 20 = .ok (.imul, 1) := by decide +kernel
theorem dX7_save_21 : decode cX7_save 21 = .ok (.invokevirtual 33, 3) := by decide +kernel
theorem dX7_save_24 : decode cX7_save 24 = .ok (.aload_n 0, 1) := by decide +kernel
theorem dX7_save_25 : decode cX7_save 25 = .ok (.getfield 13, 3) := by decide +kernel
theorem dX7_save_28 : decode cX7_save 28 = .ok (.iload_n 1, 1) := by decide +kernel
theorem dX7_save_29 : decode cX7_save 29 = .ok (.iconst 1, 1) := by decide +kernel
theorem dX7_save_30 : decode cX7_save 30 = .ok (.bastore, 1) := by decide +kernel
theorem dX7_save_31 : decode cX7_save 31 = .ok (.aload_n 0, 1) := by decide +kernel
theorem dX7_save_32 : decode cX7_save 32 = .ok (.getfield 7, 3) := by decide +kernel
theorem dX7_save_35 : decode cX7_save 35 = .ok (.iconst 1, 1) := by decide +kernel
theorem dX7_save_36 : decode cX7_save 36 = .ok (.iaload, 1) := by decide +kernel
theorem dX7_save_37 : decode cX7_save 37 = .ok (.ireturn, 1) := by decide +kernel
theorem dX7_restore_0 : decode cX7_restore 0 = .ok (.iload_n 1, 1) := by decide +kernel
theorem dX7_restore_1 : decode cX7_restore 1 = .ok (.iconst 0, 1) := by decide +kernel
theorem dX7_restore_2 : decode cX7_restore 2 = .ok (.iconst 1, 1) := by decide +kernel
theorem dX7_restore_3 : decode cX7_restore 3 = .ok (.invokestatic 41, 3) := by decide +kernel
theorem dX7_restore_6 : decode cX7_restore 6 = .ok (.ifCond .ne 5, 3) := by decide +kernel
theorem dX7_restore_9 : decode cX7_restore 9 = .ok (.iconst (-1), 1) := by decide +kernel
theorem dX7_restore_10 : decode cX7_restore 10 = .ok (.ireturn, 1) := by decide +kernel
theorem dX7_restore_11 : decode cX7_restore 11 = .ok (.aload_n 0, 1) := by decide +kernel
theorem dX7_restore_12 : decode cX7_restore 12 = .ok (.getfield 13, 3) := by decide +kernel
theorem dX7_restore_15 : decode cX7_restore 15 = .ok (.iload_n 1, 1) := by decide +kernel
theorem dX7_restore_16 : decode cX7_restore 16 = .ok (.baload, 1) := by decide +kernel
theorem dX7_restore_17 : decode cX7_restore 17 = .ok (.ifCond .ne 6, 3) := by decide +kernel
theorem dX7_restore_20 : decode cX7_restore 20 = .ok (.bipush (-3), 2) := by decide +kernel
theorem dX7_restore_22 : decode cX7_restore 22 = .ok (.ireturn, 1) := by decide +kernel
theorem dX7_restore_23 : decode cX7_restore 23 = .ok (.aload_n 0, 1) := by decide +kernel
theorem dX7_restore_24 : decode cX7_restore 24 = .ok (.invokevirtual 53, 3) := by decide +kernel
theorem dX7_restore_27 : decode cX7_restore 27 = .ok (.aload_n 0, 1) := by decide +kernel
theorem dX7_restore_28 : decode cX7_restore 28 = .ok (.sipush 1808, 3) := by decide +kernel
theorem dX7_restore_31 : decode cX7_restore 31 = .ok (.bipush 6, 2) := by decide +kernel
theorem dX7_restore_33 : decode cX7_restore 33 = .ok (.iload_n 1, 1) := by decide +kernel
theorem dX7_restore_34 : decode cX7_restore 34 = .ok (.iadd, 1) := by decide +kernel
theorem dX7_restore_35 : decode cX7_restore 35 = .ok (.imul, 1) := by decide +kernel
theorem dX7_restore_36 : decode cX7_restore 36 = .ok (.iconst 0, 1) := by decide +kernel
theorem dX7_restore_37 : decode cX7_restore 37 = .ok (.invokevirtual 33, 3) := by decide +kernel
theorem dX7_restore_40 : decode cX7_restore 40 = .ok (.aload_n 0, 1) := by decide +kernel
theorem dX7_restore_41 : decode cX7_restore 41 = .ok (.getfield 7, 3) := by decide +kernel
theorem dX7_restore_44 : decode cX7_restore 44 = .ok (.iconst 1, 1) := by decide +kernel
theorem dX7_restore_45 : decode cX7_restore 45 = .ok (.iaload, 1) := by decide +kernel
theorem dX7_restore_46 : decode cX7_restore 46 = .ok (.ireturn, 1) := by decide +kernel
theorem dX7_frequency_0 : decode cX7_frequency 0 = .ok (.aload_n 0, 1) := by decide +kernel
theorem dX7_frequency_1 : decode cX7_frequency 1 = .ok (.iload_n 1, 1) := by decide +kernel
theorem dX7_frequency_2 : decode cX7_frequency 2 = .ok (.invokevirtual 109, 3) := by decide +kernel
theorem dX7_frequency_5 : decode cX7_frequency 5 = .ok (.ifCond .eq 16, 3) := by decide +kernel
theorem dX7_frequency_8 : decode cX7_frequency 8 = .ok (.aload_n 0, 1) := by decide +kernel
theorem dX7_frequency_9 : decode cX7_frequency 9 = .ok (.getfield 7, 3) := by decide +kernel
theorem dX7_frequency_12 : decode cX7_frequency 12 = .ok (.sipush 208, 3) := by decide +kernel
theorem dX7_frequency_15 : decode cX7_frequency 15 = .ok (.iload_n 1, 1) := by decide +kernel
theorem dX7_frequency_16 : decode cX7_frequency 16 = .ok (.iadd, 1) := by decide +kernel
theorem dX7_frequency_17 : decode cX7_frequency 17 = .ok (.iaload, 1) := by decide +kernel
theorem dX7_frequency_18 : decode cX7_frequency 18 = .ok (.goto 4, 3) := by decide +kernel
theorem dX7_frequency_21 : decode cX7_frequency 21 = .ok (.iconst (-1), 1) := by decide +kernel
theorem dX7_frequency_22 : decode cX7_frequency 22 = .ok (.ireturn, 1) := by decide +kernel
theorem dX7_target_0 : decode cX7_target 0 = .ok (.iload_n 1, 1) := by decide +kernel
theorem dX7_target_1 : decode cX7_target 1 = .ok (.iconst 1, 1) := by decide +kernel
theorem dX7_target_2 : decode cX7_target 2 = .ok (.sipush 2000, 3) := by decide +kernel
theorem dX7_target_5 : decode cX7_target 5 = .ok (.invokestatic 41, 3) := by decide +kernel
theorem dX7_target_8 : decode cX7_target 8 = .ok (.ifCond .ne 6, 3) := by decide +kernel
theorem dX7_target_11 : decode cX7_target 11 = .ok (.bipush (-2), 2) := by decide +kernel
theorem dX7_target_13 : decode cX7_target 13 = .ok (.ireturn, 1) := by decide +kernel
theorem dX7_target_14 : decode cX7_target 14 = .ok (.aload_n 0, 1) := by decide +kernel
theorem dX7_target_15 : decode cX7_target 15 = .ok (.getfield 7, 3) := by decide +kernel
theorem dX7_target_18 : decode cX7_target 18 = .ok (.iconst 4, 1) := by decide +kernel
theorem dX7_target_19 : decode cX7_target 19 = .ok (.iaload, 1) := by decide +kernel
theorem dX7_target_20 : decode cX7_target 20 = .ok (.ifCond .ne 8, 3) := by decide +kernel
theorem dX7_target_23 : decode cX7_target 23 = .ok (.bipush (-6), 2) := by decide +kernel
theorem dX7_target_25 : decode cX7_target 25 = .ok (.goto 8, 3) := by decide +kernel
theorem dX7_target_28 : decode cX7_target 28 = .ok (.aload_n 0, 1) := by decide +kernel
theorem dX7_target_29 : decode cX7_target 29 = .ok (.iload_n 1, 1) := by decide +kernel
theorem dX7_target_30 : decode cX7_target 30 = .ok (.invokevirtual 117, 3) := by decide +kernel
theorem dX7_target_33 : decode cX7_target 33 = .ok (.ireturn, 1) := by decide +kernel
theorem dX7_gain_0 : decode cX7_gain 0 = .ok (.aload_n 0, 1) := by decide +kernel
theorem dX7_gain_1 : decode cX7_gain 1 = .ok (.iload_n 1, 1) := by decide +kernel
theorem dX7_gain_2 : decode cX7_gain 2 = .ok (.invokevirtual 58, 3) := by decide +kernel
theorem dX7_gain_5 : decode cX7_gain 5 = .ok (.ifCond .ne 5, 3) := by decide +kernel
theorem dX7_gain_8 : decode cX7_gain 8 = .ok (.iconst (-1), 1) := by decide +kernel
theorem dX7_gain_9 : decode cX7_gain 9 = .ok (.ireturn, 1) := by decide +kernel
theorem dX7_gain_10 : decode cX7_gain 10 = .ok (.iload_n 2, 1) := by decide +kernel
theorem dX7_gain_11 : decode cX7_gain 11 = .ok (.iconst 1, 1) := by decide +kernel
theorem dX7_gain_12 : decode cX7_gain 12 = .ok (.sipush 2000, 3) := by decide +kernel
theorem dX7_gain_15 : decode cX7_gain 15 = .ok (.invokestatic 41, 3) := by decide +kernel
theorem dX7_gain_18 : decode cX7_gain 18 = .ok (.ifCond .eq 12, 3) := by decide +kernel
theorem dX7_gain_21 : decode cX7_gain 21 = .ok (.aload_n 0, 1) := by decide +kernel
theorem dX7_gain_22 : decode cX7_gain 22 = .ok (.iload_n 1, 1) := by decide +kernel
theorem dX7_gain_23 : decode cX7_gain 23 = .ok (.iload_n 2, 1) := by decide +kernel
theorem dX7_gain_24 : decode cX7_gain 24 = .ok (.invokevirtual 62, 3) := by decide +kernel
theorem dX7_gain_27 : decode cX7_gain 27 = .ok (.goto 5, 3) := by decide +kernel
theorem dX7_gain_30 : decode cX7_gain 30 = .ok (.bipush (-2), 2) := by decide +kernel
theorem dX7_gain_32 : decode cX7_gain 32 = .ok (.ireturn, 1) := by decide +kernel
theorem dX7_limit_0 : decode cX7_limit 0 = .ok (.aload_n 0, 1) := by decide +kernel
theorem dX7_limit_1 : decode cX7_limit 1 = .ok (.iload_n 1, 1) := by decide +kernel
theorem dX7_limit_2 : decode cX7_limit 2 = .ok (.invokevirtual 58, 3) := by decide +kernel
theorem dX7_limit_5 : decode cX7_limit 5 = .ok (.ifCond .ne 5, 3) := by decide +kernel
theorem dX7_limit_8 : decode cX7_limit 8 = .ok (.iconst (-1), 1) := by decide +kernel
theorem dX7_limit_9 : decode cX7_limit 9 = .ok (.ireturn, 1) := by decide +kernel
theorem dX7_limit_10 : decode cX7_limit 10 = .ok (.iload_n 2, 1) := by decide +kernel
theorem dX7_limit_11 : decode cX7_limit 11 = .ok (.iconst 1, 1) := by decide +kernel
theorem dX7_limit_12 : decode cX7_limit 12 = .ok (.sipush 2000, 3) := by decide +kernel
theorem dX7_limit_15 : decode cX7_limit 15 = .ok (.invokestatic 41, 3) := by decide +kernel
theorem dX7_limit_18 : decode cX7_limit 18 = .ok (.ifCond .eq 12, 3) := by decide +kernel
theorem dX7_limit_21 : decode cX7_limit 21 = .ok (.aload_n 0, 1) := by decide +kernel
theorem dX7_limit_22 : decode cX7_limit 22 = .ok (.iload_n 1, 1) := by decide +kernel
theorem dX7_limit_23 : decode cX7_limit 23 = .ok (.iload_n 2, 1) := by decide +kernel
theorem dX7_limit_24 : decode cX7_limit 24 = .ok (.invokevirtual 97, 3) := by decide +kernel
theorem dX7_limit_27 : decode cX7_limit 27 = .ok (.goto 5, 3) := by decide +kernel
theorem dX7_limit_30 : decode cX7_limit 30 = .ok (.bipush (-2), 2) := by decide +kernel
theorem dX7_limit_32 : decode cX7_limit 32 = .ok (.ireturn, 1) := by decide +kernel
theorem dX7_channel_0 : decode cX7_channel 0 = .ok (.aload_n 0, 1) := by decide +kernel
theorem dX7_channel_1 : decode cX7_channel 1 = .ok (.iload_n 1, 1) := by decide +kernel
theorem dX7_channel_2 : decode cX7_channel 2 = .ok (.invokevirtual 58, 3) := by decide +kernel
theorem dX7_channel_5 : decode cX7_channel 5 = .ok (.ifCond .ne 5, 3) := by decide +kernel
theorem dX7_channel_8 : decode cX7_channel 8 = .ok (.iconst (-1), 1) := by decide +kernel
theorem dX7_channel_9 : decode cX7_channel 9 = .ok (.ireturn, 1) := by decide +kernel
theorem dX7_channel_10 : decode cX7_channel 10 = .ok (.iload_n 2, 1) := by decide +kernel
theorem dX7_channel_11 : decode cX7_channel 11 = .ok (.iconst 0, 1) := by decide +kernel
theorem dX7_channel_12 : decode cX7_channel 12 = .ok (.bipush 7, 2) := by decide +kernel
theorem dX7_channel_14 : decode cX7_channel 14 = .ok (.invokestatic 41, 3) := by decide +kernel
theorem dX7_channel_17 : decode cX7_channel 17 = .ok (.ifCond .ne 6, 3) := by decide +kernel
theorem dX7_channel_20 : decode cX7_channel 20 = .ok (.bipush (-2), 2) := by decide +kernel
theorem dX7_channel_22 : decode cX7_channel 22 = .ok (.ireturn, 1) := by decide +kernel
theorem dX7_channel_23 : decode cX7_channel 23 = .ok (.iload_n 2, 1) := by decide +kernel
theorem dX7_channel_24 : decode cX7_channel 24 = .ok (.iconst 3, 1) := by decide +kernel
theorem dX7_channel_25 : decode cX7_channel 25 = .ok (.if_icmp .ge 12, 3) := by decide +kernel
theorem dX7_channel_28 : decode cX7_channel 28 = .ok (.aload_n 0, 1) := by decide +kernel
theorem dX7_channel_29 : decode cX7_channel 29 = .ok (.iload_n 1, 1) := by decide +kernel
theorem dX7_channel_30 : decode cX7_channel 30 = .ok (.iload_n 2, 1) := by decide +kernel
theorem dX7_channel_31 : decode cX7_channel 31 = .ok (.invokevirtual 65, 3) := by decide +kernel
theorem dX7_channel_34 : decode cX7_channel 34 = .ok (.goto 29, 3) := by decide +kernel
theorem dX7_channel_37 : decode cX7_channel 37 = .ok (.iload_n 2, 1) := by decide +kernel
theorem dX7_channel_38 : decode cX7_channel 38 = .ok (.iconst 3, 1) := by decide +kernel
theorem dX7_channel_39 : decode cX7_channel 39 = .ok (.if_icmp .ne 13, 3) := by decide +kernel
theorem dX7_channel_42 : decode cX7_channel 42 = .ok (.aload_n 0, 1) := by decide +kernel
theorem dX7_channel_43 : decode cX7_channel 43 = .ok (.iload_n 1, 1) := by decide +kernel
theorem dX7_channel_44 : decode cX7_channel 44 = .ok (.bipush 12, 2) := by decide +kernel
theorem dX7_channel_46 : decode cX7_channel 46 = .ok (.invokevirtual 65, 3) := by decide +kernel
theorem dX7_channel_49 : decode cX7_channel 49 = .ok (.goto 14, 3) := by decide +kernel
theorem dX7_channel_52 : decode cX7_channel 52 = .ok (.aload_n 0, 1) := by decide +kernel
theorem dX7_channel_53 : decode cX7_channel 53 = .ok (.iload_n 1, 1) := by decide +kernel
theorem dX7_channel_54 : decode cX7_channel 54 = .ok (.bipush 25, 2) := by decide +kernel
theorem dX7_channel_56 : decode cX7_channel 56 = .ok (.iload_n 2, 1) := by decide +kernel
theorem dX7_channel_57 : decode cX7_channel 57 = .ok (.iadd, 1) := by decide +kernel
theorem dX7_channel_58 : decode cX7_channel 58 = .ok (.iconst 4, 1) := by decide +kernel
theorem dX7_channel_59 : decode cX7_channel 59 = .ok (.isub, 1) := by decide +kernel
theorem dX7_channel_60 : decode cX7_channel 60 = .ok (.invokevirtual 65, 3) := by decide +kernel
theorem dX7_channel_63 : decode cX7_channel 63 = .ok (.ireturn, 1) := by decide +kernel
theorem dX7_level_0 : decode cX7_level 0 = .ok (.aload_n 0, 1) := by decide +kernel
theorem dX7_level_1 : decode cX7_level 1 = .ok (.iload_n 1, 1) := by decide +kernel
theorem dX7_level_2 : decode cX7_level 2 = .ok (.invokevirtual 109, 3) := by decide +kernel
theorem dX7_level_5 : decode cX7_level 5 = .ok (.ifCond .eq 29, 3) := by decide +kernel
theorem dX7_level_8 : decode cX7_level 8 = .ok (.aload_n 0, 1) := by decide +kernel
theorem dX7_level_9 : decode cX7_level 9 = .ok (.iload_n 2, 1) := by decide +kernel
theorem dX7_level_10 : decode cX7_level 10 = .ok (.invokevirtual 58, 3) := by decide +kernel
theorem dX7_level_13 : decode cX7_level 13 = .ok (.ifCond .eq 21, 3) := by decide +kernel
theorem dX7_level_16 : decode cX7_level 16 = .ok (.aload_n 0, 1) := by decide +kernel
theorem dX7_level_17 : decode cX7_level 17 = .ok (.getfield 7, 3) := by decide +kernel
theorem dX7_level_20 : decode cX7_level 20 = .ok (.sipush 308, 3) := by decide +kernel
theorem dX7_level_23 : decode cX7_level 23 = .ok (.bipush 6, 2) := by decide +kernel
theorem dX7_level_25 : decode cX7_level 25 = .ok (.iload_n 1, 1) := by decide +kernel
theorem dX7_level_26 : decode cX7_level 26 = .ok (.imul, 1) := by decide +kernel
theorem dX7_level_27 : decode cX7_level 27 = .ok (.iadd, 1) := by decide +kernel
theorem dX7_level_28 : decode cX7_level 28 = .ok (.iload_n 2, 1) := by decide +kernel
theorem dX7_level_29 : decode cX7_level 29 = .ok (.iadd, 1) := by decide +kernel
theorem dX7_level_30 : decode cX7_level 30 = .ok (.iaload, 1) := by decide +kernel
theorem dX7_level_31 : decode cX7_level 31 = .ok (.goto 4, 3) := by decide +kernel
theorem dX7_level_34 : decode cX7_level 34 = .ok (.iconst (-1), 1) := by decide +kernel
theorem dX7_level_35 : decode cX7_level 35 = .ok (.ireturn, 1) := by decide +kernel
theorem dX7_averaged_0 : decode cX7_averaged 0 = .ok (.aload_n 0, 1) := by decide +kernel
theorem dX7_averaged_1 : decode cX7_averaged 1 = .ok (.iload_n 1, 1) := by decide +kernel
theorem dX7_averaged_2 : decode cX7_averaged 2 = .ok (.invokevirtual 109, 3) := by decide +kernel
theorem dX7_averaged_5 : decode cX7_averaged 5 = .ok (.ifCond .eq 29, 3) := by decide +kernel
theorem dX7_averaged_8 : decode cX7_averaged 8 = .ok (.aload_n 0, 1) := by decide +kernel
theorem dX7_averaged_9 : decode cX7_averaged 9 = .ok (.iload_n 2, 1) := by decide +kernel
theorem dX7_averaged_10 : decode cX7_averaged 10 = .ok (.invokevirtual 58, 3) := by decide +kernel
theorem dX7_averaged_13 : decode cX7_averaged 13 = .ok (.ifCond .eq 21, 3) := by decide +kernel
theorem dX7_averaged_16 : decode cX7_averaged 16 = .ok (.aload_n 0, 1) := by decide +kernel
theorem dX7_averaged_17 : decode cX7_averaged 17 = .ok (.getfield 7, 3) := by decide +kernel
theorem dX7_averaged_20 : decode cX7_averaged 20 = .ok (.sipush 908, 3) := by decide +kernel
theorem dX7_averaged_23 : decode cX7_averaged 23 = .ok (.bipush 6, 2) := by decide +kernel
theorem dX7_averaged_25 : decode cX7_averaged 25 = .ok (.iload_n 1, 1) := by decide +kernel
theorem dX7_averaged_26 : decode cX7_averaged 26 = .ok (.imul, 1) := by decide +kernel
theorem dX7_averaged_27 : decode cX7_averaged 27 = .ok (.iadd, 1) := by decide +kernel
theorem dX7_averaged_28 : decode cX7_averaged 28 = .ok (.iload_n 2, 1) := by decide +kernel
theorem dX7_averaged_29 : decode cX7_averaged 29 = .ok (.iadd, 1) := by decide +kernel
theorem dX7_averaged_30 : decode cX7_averaged 30 = .ok (.iaload, 1) := by decide +kernel
theorem dX7_averaged_31 : decode cX7_averaged 31 = .ok (.goto 4, 3) := by decide +kernel
theorem dX7_averaged_34 : decode cX7_averaged 34 = .ok (.iconst (-1), 1) := by decide +kernel
theorem dX7_averaged_35 : decode cX7_averaged 35 = .ok (.ireturn, 1) := by decide +kernel
theorem dX7_controlGain_0 : decode cX7_controlGain 0 = .ok (.aload_n 0, 1) := by decide +kernel
theorem dX7_controlGain_1 : decode cX7_controlGain 1 = .ok (.iload_n 1, 1) := by decide +kernel
theorem dX7_controlGain_2 : decode cX7_controlGain 2 = .ok (.invokevirtual 109, 3) := by decide +kernel
theorem dX7_controlGain_5 : decode cX7_controlGain 5 = .ok (.ifCond .eq 16, 3) := by decide +kernel
theorem dX7_controlGain_8 : decode cX7_controlGain 8 = .ok (.aload_n 0, 1) := by decide +kernel
theorem dX7_controlGain_9 : decode cX7_controlGain 9 = .ok (.getfield 7, 3) := by decide +kernel
theorem dX7_controlGain_12 : decode cX7_controlGain 12 = .ok (.sipush 1508, 3) := by decide +kernel
theorem dX7_controlGain_15 : decode cX7_controlGain 15 = .ok (.iload_n 1, 1) := by decide +kernel
theorem dX7_controlGain_16 : decode cX7_controlGain 16 = .ok (.iadd, 1) := by decide +kernel
theorem dX7_controlGain_17 : decode cX7_controlGain 17 = .ok (.iaload, 1) := by decide +kernel
theorem dX7_controlGain_18 : decode cX7_controlGain 18 = .ok (.goto 4, 3) := by decide +kernel
theorem dX7_controlGain_21 : decode cX7_controlGain 21 = .ok (.iconst (-1), 1) := by decide +kernel
theorem dX7_controlGain_22 : decode cX7_controlGain 22 = .ok (.ireturn, 1) := by decide +kernel
theorem dX7_driveAt_0 : decode cX7_driveAt 0 = .ok (.aload_n 0, 1) := by decide +kernel
theorem dX7_driveAt_1 : decode cX7_driveAt 1 = .ok (.iload_n 1, 1) := by decide +kernel
theorem dX7_driveAt_2 : decode cX7_driveAt 2 = .ok (.invokevirtual 109, 3) := by decide +kernel
theorem dX7_driveAt_5 : decode cX7_driveAt 5 = .ok (.ifCond .eq 16, 3) := by decide +kernel
theorem dX7_driveAt_8 : decode cX7_driveAt 8 = .ok (.aload_n 0, 1) := by decide +kernel
theorem dX7_driveAt_9 : decode cX7_driveAt 9 = .ok (.getfield 7, 3) := by decide +kernel
theorem dX7_driveAt_12 : decode cX7_driveAt 12 = .ok (.sipush 1608, 3) := by decide +kernel
theorem dX7_driveAt_15 : decode cX7_driveAt 15 = .ok (.iload_n 1, 1) := by decide +kernel
theorem dX7_driveAt_16 : decode cX7_driveAt 16 = .ok (.iadd, 1) := by decide +kernel
theorem dX7_driveAt_17 : decode cX7_driveAt 17 = .ok (.iaload, 1) := by decide +kernel
theorem dX7_driveAt_18 : decode cX7_driveAt 18 = .ok (.goto 4, 3) := by decide +kernel
theorem dX7_driveAt_21 : decode cX7_driveAt 21 = .ok (.iconst (-1), 1) := by decide +kernel
theorem dX7_driveAt_22 : decode cX7_driveAt 22 = .ok (.ireturn, 1) := by decide +kernel
theorem dX7_notchedBy_0 : decode cX7_notchedBy 0 = .ok (.aload_n 0, 1) := by decide +kernel
theorem dX7_notchedBy_1 : decode cX7_notchedBy 1 = .ok (.iload_n 1, 1) := by decide +kernel
theorem dX7_notchedBy_2 : decode cX7_notchedBy 2 = .ok (.invokevirtual 109, 3) := by decide +kernel
theorem dX7_notchedBy_5 : decode cX7_notchedBy 5 = .ok (.ifCond .eq 16, 3) := by decide +kernel
theorem dX7_notchedBy_8 : decode cX7_notchedBy 8 = .ok (.aload_n 0, 1) := by decide +kernel
theorem dX7_notchedBy_9 : decode cX7_notchedBy 9 = .ok (.getfield 7, 3) := by decide +kernel
theorem dX7_notchedBy_12 : decode cX7_notchedBy 12 = .ok (.sipush 1708, 3) := by decide +kernel
theorem dX7_notchedBy_15 : decode cX7_notchedBy 15 = .ok (.iload_n 1, 1) := by decide +kernel
theorem dX7_notchedBy_16 : decode cX7_notchedBy 16 = .ok (.iadd, 1) := by decide +kernel
theorem dX7_notchedBy_17 : decode cX7_notchedBy 17 = .ok (.iaload, 1) := by decide +kernel
theorem dX7_notchedBy_18 : decode cX7_notchedBy 18 = .ok (.goto 4, 3) := by decide +kernel
theorem dX7_notchedBy_21 : decode cX7_notchedBy 21 = .ok (.iconst (-1), 1) := by decide +kernel
theorem dX7_notchedBy_22 : decode cX7_notchedBy 22 = .ok (.ireturn, 1) := by decide +kernel
theorem dX7_gainAt_0 : decode cX7_gainAt 0 = .ok (.aload_n 0, 1) := by decide +kernel
theorem dX7_gainAt_1 : decode cX7_gainAt 1 = .ok (.iload_n 1, 1) := by decide +kernel
theorem dX7_gainAt_2 : decode cX7_gainAt 2 = .ok (.invokevirtual 109, 3) := by decide +kernel
theorem dX7_gainAt_5 : decode cX7_gainAt 5 = .ok (.ifCond .eq 21, 3) := by decide +kernel
theorem dX7_gainAt_8 : decode cX7_gainAt 8 = .ok (.aload_n 0, 1) := by decide +kernel
theorem dX7_gainAt_9 : decode cX7_gainAt 9 = .ok (.getfield 7, 3) := by decide +kernel
theorem dX7_gainAt_12 : decode cX7_gainAt 12 = .ok (.sipush 908, 3) := by decide +kernel
theorem dX7_gainAt_15 : decode cX7_gainAt 15 = .ok (.bipush 6, 2) := by decide +kernel
theorem dX7_gainAt_17 : decode cX7_gainAt 17 = .ok (.iload_n 1, 1) := by decide +kernel
theorem dX7_gainAt_18 : decode cX7_gainAt 18 = .ok (.imul, 1) := by decide +kernel
theorem dX7_gainAt_19 : decode cX7_gainAt 19 = .ok (.iadd, 1) := by decide +kernel
theorem dX7_gainAt_20 : decode cX7_gainAt 20 = .ok (.iload_n 2, 1) := by decide +kernel
theorem dX7_gainAt_21 : decode cX7_gainAt 21 = .ok (.iadd, 1) := by decide +kernel
theorem dX7_gainAt_22 : decode cX7_gainAt 22 = .ok (.iaload, 1) := by decide +kernel
theorem dX7_gainAt_23 : decode cX7_gainAt 23 = .ok (.goto 5, 3) := by decide +kernel
theorem dX7_gainAt_26 : decode cX7_gainAt 26 = .ok (.bipush (-6), 2) := by decide +kernel
theorem dX7_gainAt_28 : decode cX7_gainAt 28 = .ok (.ireturn, 1) := by decide +kernel
theorem dX7_isResonance_0 : decode cX7_isResonance 0 = .ok (.aload_n 0, 1) := by decide +kernel
theorem dX7_isResonance_1 : decode cX7_isResonance 1 = .ok (.iload_n 1, 1) := by decide +kernel
theorem dX7_isResonance_2 : decode cX7_isResonance 2 = .ok (.iload_n 2, 1) := by decide +kernel
theorem dX7_isResonance_3 : decode cX7_isResonance 3 = .ok (.invokevirtual 171, 3) := by decide +kernel
theorem dX7_isResonance_6 : decode cX7_isResonance 6 = .ok (.istore_n 3, 1) := by decide +kernel
theorem dX7_isResonance_7 : decode cX7_isResonance 7 = .ok (.iload_n 3, 1) := by decide +kernel
theorem dX7_isResonance_8 : decode cX7_isResonance 8 = .ok (.bipush (-6), 2) := by decide +kernel
theorem dX7_isResonance_10 : decode cX7_isResonance 10 = .ok (.if_icmp .eq 31, 3) := by decide +kernel
theorem dX7_isResonance_13 : decode cX7_isResonance 13 = .ok (.iload_n 3, 1) := by decide +kernel
theorem dX7_isResonance_14 : decode cX7_isResonance 14 = .ok (.aload_n 0, 1) := by decide +kernel
theorem dX7_isResonance_15 : decode cX7_isResonance 15 = .ok (.iload_n 1, 1) := by decide +kernel
theorem dX7_isResonance_16 : decode cX7_isResonance 16 = .ok (.iconst 1, 1) := by decide +kernel
theorem dX7_isResonance_17 : decode cX7_isResonance 17 = .ok (.isub, 1) := by decide +kernel
theorem dX7_isResonance_18 : decode cX7_isResonance 18 = .ok (.iload_n 2, 1) := by decide +kernel
theorem dX7_isResonance_19 : decode cX7_isResonance 19 = .ok (.invokevirtual 171, 3) := by decide +kernel
theorem dX7_isResonance_22 : decode cX7_isResonance 22 = .ok (.if_icmp .le 19, 3) := by decide +kernel
theorem dX7_isResonance_25 : decode cX7_isResonance 25 = .ok (.iload_n 3, 1) := by decide +kernel
theorem dX7_isResonance_26 : decode cX7_isResonance 26 = .ok (.aload_n 0, 1) := by decide +kernel
theorem dX7_isResonance_27 : decode cX7_isResonance 27 = .ok (.iload_n 1, 1) := by decide +kernel
theorem dX7_isResonance_28 : decode cX7_isResonance 28 = .ok (.iconst 1, 1) := by decide +kernel
theorem dX7_isResonance_29 : decode cX7_isResonance 29 = .ok (.iadd, 1) := by decide +kernel
theorem dX7_isResonance_30 : decode cX7_isResonance 30 = .ok (.iload_n 2, 1) := by decide +kernel
theorem dX7_isResonance_31 : decode cX7_isResonance 31 = .ok (.invokevirtual 171, 3) := by decide +kernel
theorem dX7_isResonance_34 : decode cX7_isResonance 34 = .ok (.if_icmp .le 7, 3) := by decide +kernel
theorem dX7_isResonance_37 : decode cX7_isResonance 37 = .ok (.iconst 1, 1) := by decide +kernel
theorem dX7_isResonance_38 : decode cX7_isResonance 38 = .ok (.goto 4, 3) := by decide +kernel
theorem dX7_isResonance_41 : decode cX7_isResonance 41 = .ok (.iconst 0, 1) := by decide +kernel
theorem dX7_isResonance_42 : decode cX7_isResonance 42 = .ok (.ireturn, 1) := by decide +kernel
theorem dX7_resonance_0 : decode cX7_resonance 0 = .ok (.aload_n 0, 1) := by decide +kernel
theorem dX7_resonance_1 : decode cX7_resonance 1 = .ok (.iload_n 1, 1) := by decide +kernel
theorem dX7_resonance_2 : decode cX7_resonance 2 = .ok (.invokevirtual 58, 3) := by decide +kernel
theorem dX7_resonance_5 : decode cX7_resonance 5 = .ok (.ifCond .ne 5, 3) := by decide +kernel
theorem dX7_resonance_8 : decode cX7_resonance 8 = .ok (.iconst (-1), 1) := by decide +kernel
theorem dX7_resonance_9 : decode cX7_resonance 9 = .ok (.ireturn, 1) := by decide +kernel
theorem dX7_resonance_10 : decode cX7_resonance 10 = .ok (.iload_n 2, 1) := by decide +kernel
theorem dX7_resonance_11 : decode cX7_resonance 11 = .ok (.ifCond .ge 6, 3) := by decide +kernel
theorem dX7_resonance_14 : decode cX7_resonance 14 = .ok (.bipush (-2), 2) := by decide +kernel
theorem dX7_resonance_16 : decode cX7_resonance 16 = .ok (.ireturn, 1) := by decide +kernel
theorem dX7_resonance_17 : decode cX7_resonance 17 = .ok (.iconst 0, 1) := by decide +kernel
theorem dX7_resonance_18 : decode cX7_resonance 18 = .ok (.istore_n 3, 1) := by decide +kernel
theorem dX7_resonance_19 : decode cX7_resonance 19 = .ok (.iload_n 3, 1) := by decide +kernel
theorem dX7_resonance_20 : decode cX7_resonance 20 = .ok (.aload_n 0, 1) := by decide +kernel
theorem dX7_resonance_21 : decode cX7_resonance 21 = .ok (.getfield 7, 3) := by decide +kernel
theorem dX7_resonance_24 : decode cX7_resonance 24 = .ok (.iconst 0, 1) := by decide +kernel
theorem dX7_resonance_25 : decode cX7_resonance 25 = .ok (.iaload, 1) := by decide +kernel
theorem dX7_resonance_26 : decode cX7_resonance 26 = .ok (.if_icmp .ge 101, 3) := by decide +kernel
theorem dX7_resonance_29 : decode cX7_resonance 29 = .ok (.iconst 0, 1) := by decide +kernel
theorem dX7_resonance_30 : decode cX7_resonance 30 = .ok (.istore 4, 2) := by decide +kernel
theorem dX7_resonance_32 : decode cX7_resonance 32 = .ok (.iconst 0, 1) := by decide +kernel
theorem dX7_resonance_33 : decode cX7_resonance 33 = .ok (.istore 5, 2) := by decide +kernel
theorem dX7_resonance_35 : decode cX7_resonance 35 = .ok (.iload 5, 2) := by decide +kernel
theorem dX7_resonance_37 : decode cX7_resonance 37 = .ok (.aload_n 0, 1) := by decide +kernel
theorem dX7_resonance_38 : decode cX7_resonance 38 = .ok (.getfield 7, 3) := by decide +kernel
theorem dX7_resonance_41 : decode cX7_resonance 41 = .ok (.iconst 0, 1) := by decide +kernel
theorem dX7_resonance_42 : decode cX7_resonance 42 = .ok (.iaload, 1) := by decide +kernel
theorem dX7_resonance_43 : decode cX7_resonance 43 = .ok (.if_icmp .ge 61, 3) := by decide +kernel
theorem dX7_resonance_46 : decode cX7_resonance 46 = .ok (.aload_n 0, 1) := by decide +kernel
theorem dX7_resonance_47 : decode cX7_resonance 47 = .ok (.iload 5, 2) := by decide +kernel
theorem dX7_resonance_49 : decode cX7_resonance 49 = .ok (.iload_n 1, 1) := by decide +kernel
theorem dX7_resonance_50 : decode cX7_resonance 50 = .ok (.invokevirtual 171, 3) := by decide +kernel
theorem dX7_resonance_53 : decode cX7_resonance 53 = .ok (.aload_n 0, 1) := by decide +kernel
theorem dX7_resonance_54 : decode cX7_resonance 54 = .ok (.iload_n 3, 1) := by decide +kernel
theorem dX7_resonance_55 : decode cX7_resonance 55 = .ok (.iload_n 1, 1) := by decide +kernel
theorem dX7_resonance_56 : decode cX7_resonance 56 = .ok (.invokevirtual 171, 3) := by decide +kernel
theorem dX7_resonance_59 : decode cX7_resonance 59 = .ok (.isub, 1) := by decide +kernel
theorem dX7_resonance_60 : decode cX7_resonance 60 = .ok (.istore 6, 2) := by decide +kernel
theorem dX7_resonance_62 : decode cX7_resonance 62 = .ok (.iload 4, 2) := by decide +kernel
theorem dX7_resonance_64 : decode cX7_resonance 64 = .ok (.aload_n 0, 1) := by decide +kernel
theorem dX7_resonance_65 : decode cX7_resonance 65 = .ok (.iload 5, 2) := by decide +kernel
theorem dX7_resonance_67 : decode cX7_resonance 67 = .ok (.iload_n 1, 1) := by decide +kernel
theorem dX7_resonance_68 : decode cX7_resonance 68 = .ok (.invokevirtual 174, 3) := by decide +kernel
theorem dX7_resonance_71 : decode cX7_resonance 71 = .ok (.ifCond .eq 23, 3) := by decide +kernel
theorem dX7_resonance_74 : decode cX7_resonance 74 = .ok (.iload 6, 2) := by decide +kernel
theorem dX7_resonance_76 : decode cX7_resonance 76 = .ok (.ifCond .gt 14, 3) := by decide +kernel
theorem dX7_resonance_79 : decode cX7_resonance 79 = .ok (.iload 6, 2) := by decide +kernel
theorem dX7_resonance_81 : decode cX7_resonance 81 = .ok (.ifCond .ne 13, 3) := by decide +kernel
theorem dX7_resonance_84 : decode cX7_resonance 84 = .ok (.iload 5, 2) := by decide +kernel
theorem dX7_resonance_86 : decode cX7_resonance 86 = .ok (.iload_n 3, 1) := by decide +kernel
theorem dX7_resonance_87 : decode cX7_resonance 87 = .ok (.if_icmp .ge 7, 3) := by decide +kernel
theorem dX7_resonance_90 : decode cX7_resonance 90 = .ok (.iconst 1, 1) := by decide +kernel
theorem dX7_resonance_91 : decode cX7_resonance 91 = .ok (.goto 4, 3) := by decide +kernel
theorem dX7_resonance_94 : decode cX7_resonance 94 = .ok (.iconst 0, 1) := by decide +kernel
theorem dX7_resonance_95 : decode cX7_resonance 95 = .ok (.iadd, 1) := by decide +kernel
theorem dX7_resonance_96 : decode cX7_resonance 96 = .ok (.istore 4, 2) := by decide +kernel
theorem dX7_resonance_98 : decode cX7_resonance 98 = .ok (.iinc 5 1, 3) := by decide +kernel
theorem dX7_resonance_101 : decode cX7_resonance 101 = .ok (.goto (-66), 3) := by decide +kernel
theorem dX7_resonance_104 : decode cX7_resonance 104 = .ok (.aload_n 0, 1) := by decide +kernel
theorem dX7_resonance_105 : decode cX7_resonance 105 = .ok (.iload_n 3, 1) := by decide +kernel
theorem dX7_resonance_106 : decode cX7_resonance 106 = .ok (.iload_n 1, 1) := by decide +kernel
theorem dX7_resonance_107 : decode cX7_resonance 107 = .ok (.invokevirtual 174, 3) := by decide +kernel
theorem dX7_resonance_110 : decode cX7_resonance 110 = .ok (.ifCond .eq 11, 3) := by decide +kernel
theorem dX7_resonance_113 : decode cX7_resonance 113 = .ok (.iload 4, 2) := by decide +kernel
theorem dX7_resonance_115 : decode cX7_resonance 115 = .ok (.iload_n 2, 1) := by decide +kernel
theorem dX7_resonance_116 : decode cX7_resonance 116 = .ok (.if_icmp .ne 5, 3) := by decide +kernel
theorem dX7_resonance_119 : decode cX7_resonance 119 = .ok (.iload_n 3, 1) := by decide +kernel
theorem dX7_resonance_120 : decode cX7_resonance 120 = .ok (.ireturn, 1) := by decide +kernel
theorem dX7_resonance_121 : decode cX7_resonance 121 = .ok (.iinc 3 1, 3) := by decide +kernel
theorem dX7_resonance_124 : decode cX7_resonance 124 = .ok (.goto (-105), 3) := by decide +kernel
theorem dX7_resonance_127 : decode cX7_resonance 127 = .ok (.bipush (-6), 2) := by decide +kernel
theorem dX7_resonance_129 : decode cX7_resonance 129 = .ok (.ireturn, 1) := by decide +kernel
theorem dX7_total_0 : decode cX7_total 0 = .ok (.iload_n 1, 1) := by decide +kernel
theorem dX7_total_1 : decode cX7_total 1 = .ok (.iconst 0, 1) := by decide +kernel
theorem dX7_total_2 : decode cX7_total 2 = .ok (.bipush 19, 2) := by decide +kernel
theorem dX7_total_4 : decode cX7_total 4 = .ok (.invokestatic 41, 3) := by decide +kernel
theorem dX7_total_7 : decode cX7_total 7 = .ok (.ifCond .ne 6, 3) := by decide +kernel
theorem dX7_total_10 : decode cX7_total 10 = .ok (.bipush (-2), 2) := by decide +kernel
theorem dX7_total_12 : decode cX7_total 12 = .ok (.ireturn, 1) := by decide +kernel
theorem dX7_total_13 : decode cX7_total 13 = .ok (.iload_n 1, 1) := by decide +kernel
theorem dX7_total_14 : decode cX7_total 14 = .ok (.tableswitch 122 0 13 #[70, 77, 98, 105, 122, 122, 122, 122, 122, 122, 122, 122, 112, 117], 70) := by decide +kernel
theorem dX7_total_84 : decode cX7_total 84 = .ok (.aload_n 0, 1) := by decide +kernel
theorem dX7_total_85 : decode cX7_total 85 = .ok (.getfield 7, 3) := by decide +kernel
theorem dX7_total_88 : decode cX7_total 88 = .ok (.iconst 1, 1) := by decide +kernel
theorem dX7_total_89 : decode cX7_total 89 = .ok (.iaload, 1) := by decide +kernel
theorem dX7_total_90 : decode cX7_total 90 = .ok (.ireturn, 1) := by decide +kernel
theorem dX7_total_91 : decode cX7_total 91 = .ok (.aload_n 0, 1) := by decide +kernel
theorem dX7_total_92 : decode cX7_total 92 = .ok (.getfield 7, 3) := by decide +kernel
theorem dX7_total_95 : decode cX7_total 95 = .ok (.iconst 1, 1) := by decide +kernel
theorem dX7_total_96 : decode cX7_total 96 = .ok (.iaload, 1) := by decide +kernel
theorem dX7_total_97 : decode cX7_total 97 = .ok (.ifCond .ne 8, 3) := by decide +kernel
theorem dX7_total_100 : decode cX7_total 100 = .ok (.bipush (-6), 2) := by decide +kernel
theorem dX7_total_102 : decode cX7_total 102 = .ok (.goto 9, 3) := by decide +kernel
theorem dX7_total_105 : decode cX7_total 105 = .ok (.aload_n 0, 1) := by decide +kernel
theorem dX7_total_106 : decode cX7_total 106 = .ok (.getfield 7, 3) := by decide +kernel
theorem dX7_total_109 : decode cX7_total 109 = .ok (.iconst 2, 1) := by decide +kernel
theorem dX7_total_110 : decode cX7_total 110 = .ok (.iaload, 1) := by decide +kernel
theorem dX7_total_111 : decode cX7_total 111 = .ok (.ireturn, 1) := by decide +kernel
theorem dX7_total_112 : decode cX7_total 112 = .ok (.aload_n 0, 1) := by decide +kernel
theorem dX7_total_113 : decode cX7_total 113 = .ok (.getfield 7, 3) := by decide +kernel
theorem dX7_total_116 : decode cX7_total 116 = .ok (.iconst 3, 1) := by decide +kernel
theorem dX7_total_117 : decode cX7_total 117 = .ok (.iaload, 1) := by decide +kernel
theorem dX7_total_118 : decode cX7_total 118 = .ok (.ireturn, 1) := by decide +kernel
theorem dX7_total_119 : decode cX7_total 119 = .ok (.aload_n 0, 1) := by decide +kernel
theorem dX7_total_120 : decode cX7_total 120 = .ok (.getfield 7, 3) := by decide +kernel
theorem dX7_total_123 : decode cX7_total 123 = .ok (.iconst 0, 1) := by decide +kernel
theorem dX7_total_124 : decode cX7_total 124 = .ok (.iaload, 1) := by decide +kernel
theorem dX7_total_125 : decode cX7_total 125 = .ok (.ireturn, 1) := by decide +kernel
theorem dX7_total_126 : decode cX7_total 126 = .ok (.aload_n 0, 1) := by decide +kernel
theorem dX7_total_127 : decode cX7_total 127 = .ok (.getfield 29, 3) := by decide +kernel
theorem dX7_total_130 : decode cX7_total 130 = .ok (.ireturn, 1) := by decide +kernel
theorem dX7_total_131 : decode cX7_total 131 = .ok (.aload_n 0, 1) := by decide +kernel
theorem dX7_total_132 : decode cX7_total 132 = .ok (.getfield 140, 3) := by decide +kernel
theorem dX7_total_135 : decode cX7_total 135 = .ok (.ireturn, 1) := by decide +kernel
theorem dX7_total_136 : decode cX7_total 136 = .ok (.iload_n 1, 1) := by decide +kernel
theorem dX7_total_137 : decode cX7_total 137 = .ok (.bipush 13, 2) := by decide +kernel
theorem dX7_total_139 : decode cX7_total 139 = .ok (.if_icmp .le 14, 3) := by decide +kernel
theorem dX7_total_142 : decode cX7_total 142 = .ok (.aload_n 0, 1) := by decide +kernel
theorem dX7_total_143 : decode cX7_total 143 = .ok (.iload_n 1, 1) := by decide +kernel
theorem dX7_total_144 : decode cX7_total 144 = .ok (.bipush 14, 2) := by decide +kernel
theorem dX7_total_146 : decode cX7_total 146 = .ok (.isub, 1) := by decide +kernel
theorem dX7_total_147 : decode cX7_total 147 = .ok (.invokevirtual 78, 3) := by decide +kernel
theorem dX7_total_150 : decode cX7_total 150 = .ok (.goto 9, 3) := by decide +kernel
theorem dX7_total_153 : decode cX7_total 153 = .ok (.aload_n 0, 1) := by decide +kernel
theorem dX7_total_154 : decode cX7_total 154 = .ok (.getfield 7, 3) := by decide +kernel
theorem dX7_total_157 : decode cX7_total 157 = .ok (.iload_n 1, 1) := by decide +kernel
theorem dX7_total_158 : decode cX7_total 158 = .ok (.iaload, 1) := by decide +kernel
theorem dX7_total_159 : decode cX7_total 159 = .ok (.ireturn, 1) := by decide +kernel
theorem dX7_putAside_0 : decode cX7_putAside 0 = .ok (.aload_n 0, 1) := by decide +kernel
theorem dX7_putAside_1 : decode cX7_putAside 1 = .ok (.iconst 0, 1) := by decide +kernel
theorem dX7_putAside_2 : decode cX7_putAside 2 = .ok (.sipush 14464, 3) := by decide +kernel
theorem dX7_putAside_5 : decode cX7_putAside 5 = .ok (.invokevirtual 33, 3) := by decide +kernel
theorem dX7_putAside_8 : decode cX7_putAside 8 = .ok (.return_, 1) := by decide +kernel
theorem dX7_comesBack_0 : decode cX7_comesBack 0 = .ok (.aload_n 0, 1) := by decide +kernel
theorem dX7_comesBack_1 : decode cX7_comesBack 1 = .ok (.sipush 14464, 3) := by decide +kernel
theorem dX7_comesBack_4 : decode cX7_comesBack 4 = .ok (.iconst 0, 1) := by decide +kernel
theorem dX7_comesBack_5 : decode cX7_comesBack 5 = .ok (.invokevirtual 33, 3) := by decide +kernel
theorem dX7_comesBack_8 : decode cX7_comesBack 8 = .ok (.return_, 1) := by decide +kernel
theorem dX7_loopsLeft_0 : decode cX7_loopsLeft 0 = .ok (.aload_n 0, 1) := by decide +kernel
theorem dX7_loopsLeft_1 : decode cX7_loopsLeft 1 = .ok (.invokevirtual 177, 3) := by decide +kernel
theorem dX7_loopsLeft_4 : decode cX7_loopsLeft 4 = .ok (.aload_n 0, 1) := by decide +kernel
theorem dX7_loopsLeft_5 : decode cX7_loopsLeft 5 = .ok (.sipush 500, 3) := by decide +kernel
theorem dX7_loopsLeft_8 : decode cX7_loopsLeft 8 = .ok (.invokevirtual 127, 3) := by decide +kernel
theorem dX7_loopsLeft_11 : decode cX7_loopsLeft 11 = .ok (.istore_n 1, 1) := by decide +kernel
theorem dX7_loopsLeft_12 : decode cX7_loopsLeft 12 = .ok (.aload_n 0, 1) := by decide +kernel
theorem dX7_loopsLeft_13 : decode cX7_loopsLeft 13 = .ok (.invokevirtual 45, 3) := by decide +kernel
theorem dX7_loopsLeft_16 : decode cX7_loopsLeft 16 = .ok (.istore_n 2, 1) := by decide +kernel
theorem dX7_loopsLeft_17 : decode cX7_loopsLeft 17 = .ok (.aload_n 0, 1) := by decide +kernel
theorem dX7_loopsLeft_18 : decode cX7_loopsLeft 18 = .ok (.invokevirtual 180, 3) := by decide +kernel
theorem dX7_loopsLeft_21 : decode cX7_loopsLeft 21 = .ok (.iload_n 2, 1) := by decide +kernel
theorem dX7_loopsLeft_22 : decode cX7_loopsLeft 22 = .ok (.ifCond .eq 7, 3) := by decide +kernel
theorem dX7_loopsLeft_25 : decode cX7_loopsLeft 25 = .ok (.iload_n 1, 1) := by decide +kernel
theorem dX7_loopsLeft_26 : decode cX7_loopsLeft 26 = .ok (.goto 5, 3) := by decide +kernel
theorem dX7_loopsLeft_29 : decode cX7_loopsLeft 29 = .ok (.bipush (-6), 2) := by decide +kernel
theorem dX7_loopsLeft_31 : decode cX7_loopsLeft 31 = .ok (.ireturn, 1) := by decide +kernel
theorem dX7_wouldAbort_0 : decode cX7_wouldAbort 0 = .ok (.iload_n 1, 1) := by decide +kernel
theorem dX7_wouldAbort_1 : decode cX7_wouldAbort 1 = .ok (.iconst 1, 1) := by decide +kernel
theorem dX7_wouldAbort_2 : decode cX7_wouldAbort 2 = .ok (.sipush 300, 3) := by decide +kernel
theorem dX7_wouldAbort_5 : decode cX7_wouldAbort 5 = .ok (.invokestatic 41, 3) := by decide +kernel
theorem dX7_wouldAbort_8 : decode cX7_wouldAbort 8 = .ok (.ifCond .ne 6, 3) := by decide +kernel
theorem dX7_wouldAbort_11 : decode cX7_wouldAbort 11 = .ok (.bipush (-2), 2) := by decide +kernel
theorem dX7_wouldAbort_13 : decode cX7_wouldAbort 13 = .ok (.ireturn, 1) := by decide +kernel
theorem dX7_wouldAbort_14 : decode cX7_wouldAbort 14 = .ok (.aload_n 0, 1) := by decide +kernel
theorem dX7_wouldAbort_15 : decode cX7_wouldAbort 15 = .ok (.invokevirtual 134, 3) := by decide +kernel
theorem dX7_wouldAbort_18 : decode cX7_wouldAbort 18 = .ok (.ifCond .ne 6, 3) := by decide +kernel
theorem dX7_wouldAbort_21 : decode cX7_wouldAbort 21 = .ok (.bipush (-6), 2) := by decide +kernel
theorem dX7_wouldAbort_23 : decode cX7_wouldAbort 23 = .ok (.ireturn, 1) := by decide +kernel
theorem dX7_wouldAbort_24 : decode cX7_wouldAbort 24 = .ok (.aload_n 0, 1) := by decide +kernel
theorem dX7_wouldAbort_25 : decode cX7_wouldAbort 25 = .ok (.invokevirtual 177, 3) := by decide +kernel
theorem dX7_wouldAbort_28 : decode cX7_wouldAbort 28 = .ok (.iconst 0, 1) := by decide +kernel
theorem dX7_wouldAbort_29 : decode cX7_wouldAbort 29 = .ok (.istore_n 2, 1) := by decide +kernel
theorem dX7_wouldAbort_30 : decode cX7_wouldAbort 30 = .ok (.iload_n 2, 1) := by decide +kernel
theorem dX7_wouldAbort_31 : decode cX7_wouldAbort 31 = .ok (.iload_n 1, 1) := by decide +kernel
theorem dX7_wouldAbort_32 : decode cX7_wouldAbort 32 = .ok (.if_icmp .ge 20, 3) := by decide +kernel
theorem dX7_wouldAbort_35 : decode cX7_wouldAbort 35 = .ok (.aload_n 0, 1) := by decide +kernel
theorem dX7_wouldAbort_36 : decode cX7_wouldAbort 36 = .ok (.invokevirtual 134, 3) := by decide +kernel
theorem dX7_wouldAbort_39 : decode cX7_wouldAbort 39 = .ok (.ifCond .eq 13, 3) := by decide +kernel
theorem dX7_wouldAbort_42 : decode cX7_wouldAbort 42 = .ok (.aload_n 0, 1) := by decide +kernel
theorem dX7_wouldAbort_43 : decode cX7_wouldAbort 43 = .ok (.invokevirtual 124, 3) := by decide +kernel
theorem dX7_wouldAbort_46 : decode cX7_wouldAbort 46 = .ok (.iinc 2 1, 3) := by decide +kernel
theorem dX7_wouldAbort_49 : decode cX7_wouldAbort 49 = .ok (.goto (-19), 3) := by decide +kernel
theorem dX7_wouldAbort_52 : decode cX7_wouldAbort 52 = .ok (.aload_n 0, 1) := by decide +kernel
theorem dX7_wouldAbort_53 : decode cX7_wouldAbort 53 = .ok (.getfield 7, 3) := by decide +kernel
theorem dX7_wouldAbort_56 : decode cX7_wouldAbort 56 = .ok (.iconst 1, 1) := by decide +kernel
theorem dX7_wouldAbort_57 : decode cX7_wouldAbort 57 = .ok (.iaload, 1) := by decide +kernel
theorem dX7_wouldAbort_58 : decode cX7_wouldAbort 58 = .ok (.iconst 3, 1) := by decide +kernel
theorem dX7_wouldAbort_59 : decode cX7_wouldAbort 59 = .ok (.if_icmp .ne 13, 3) := by decide +kernel
theorem dX7_wouldAbort_62 : decode cX7_wouldAbort 62 = .ok (.aload_n 0, 1) := by decide +kernel
theorem dX7_wouldAbort_63 : decode cX7_wouldAbort 63 = .ok (.getfield 7, 3) := by decide +kernel
theorem dX7_wouldAbort_66 : decode cX7_wouldAbort 66 = .ok (.bipush 9, 2) := by decide +kernel
theorem dX7_wouldAbort_68 : decode cX7_wouldAbort 68 = .ok (.iaload, 1) := by decide +kernel
theorem dX7_wouldAbort_69 : decode cX7_wouldAbort 69 = .ok (.goto 5, 3) := by decide +kernel
theorem dX7_wouldAbort_72 : decode cX7_wouldAbort 72 = .ok (.bipush (-6), 2) := by decide +kernel
theorem dX7_wouldAbort_74 : decode cX7_wouldAbort 74 = .ok (.istore_n 2, 1) := by decide +kernel
theorem dX7_wouldAbort_75 : decode cX7_wouldAbort 75 = .ok (.aload_n 0, 1) := by decide +kernel
theorem dX7_wouldAbort_76 : decode cX7_wouldAbort 76 = .ok (.invokevirtual 180, 3) := by decide +kernel
theorem dX7_wouldAbort_79 : decode cX7_wouldAbort 79 = .ok (.iload_n 2, 1) := by decide +kernel
theorem dX7_wouldAbort_80 : decode cX7_wouldAbort 80 = .ok (.ireturn, 1) := by decide +kernel
theorem dX7_highest_0 : decode cX7_highest 0 = .ok (.aload_n 0, 1) := by decide +kernel
theorem dX7_highest_1 : decode cX7_highest 1 = .ok (.iload_n 1, 1) := by decide +kernel
theorem dX7_highest_2 : decode cX7_highest 2 = .ok (.invokevirtual 58, 3) := by decide +kernel
theorem dX7_highest_5 : decode cX7_highest 5 = .ok (.ifCond .ne 5, 3) := by decide +kernel
theorem dX7_highest_8 : decode cX7_highest 8 = .ok (.iconst (-1), 1) := by decide +kernel
theorem dX7_highest_9 : decode cX7_highest 9 = .ok (.ireturn, 1) := by decide +kernel
theorem dX7_highest_10 : decode cX7_highest 10 = .ok (.iload_n 2, 1) := by decide +kernel
theorem dX7_highest_11 : decode cX7_highest 11 = .ok (.iconst 1, 1) := by decide +kernel
theorem dX7_highest_12 : decode cX7_highest 12 = .ok (.sipush 300, 3) := by decide +kernel
theorem dX7_highest_15 : decode cX7_highest 15 = .ok (.invokestatic 41, 3) := by decide +kernel
theorem dX7_highest_18 : decode cX7_highest 18 = .ok (.ifCond .ne 6, 3) := by decide +kernel
theorem dX7_highest_21 : decode cX7_highest 21 = .ok (.bipush (-2), 2) := by decide +kernel
theorem dX7_highest_23 : decode cX7_highest 23 = .ok (.ireturn, 1) := by decide +kernel
theorem dX7_highest_24 : decode cX7_highest 24 = .ok (.aload_n 0, 1) := by decide +kernel
theorem dX7_highest_25 : decode cX7_highest 25 = .ok (.invokevirtual 177, 3) := by decide +kernel
theorem dX7_highest_28 : decode cX7_highest 28 = .ok (.bipush (-6), 2) := by decide +kernel
theorem dX7_highest_30 : decode cX7_highest 30 = .ok (.istore_n 3, 1) := by decide +kernel
theorem dX7_highest_31 : decode cX7_highest 31 = .ok (.iconst 0, 1) := by decide +kernel
theorem dX7_highest_32 : decode cX7_highest 32 = .ok (.istore 4, 2) := by decide +kernel
theorem dX7_highest_34 : decode cX7_highest 34 = .ok (.iload 4, 2) := by decide +kernel
theorem dX7_highest_36 : decode cX7_highest 36 = .ok (.iload_n 2, 1) := by decide +kernel
theorem dX7_highest_37 : decode cX7_highest 37 = .ok (.if_icmp .ge 49, 3) := by decide +kernel
theorem dX7_highest_40 : decode cX7_highest 40 = .ok (.aload_n 0, 1) := by decide +kernel
theorem dX7_highest_41 : decode cX7_highest 41 = .ok (.invokevirtual 134, 3) := by decide +kernel
theorem dX7_highest_44 : decode cX7_highest 44 = .ok (.ifCond .eq 42, 3) := by decide +kernel
theorem dX7_highest_47 : decode cX7_highest 47 = .ok (.aload_n 0, 1) := by decide +kernel
theorem dX7_highest_48 : decode cX7_highest 48 = .ok (.getfield 7, 3) := by decide +kernel
theorem dX7_highest_51 : decode cX7_highest 51 = .ok (.iconst 2, 1) := by decide +kernel
theorem dX7_highest_52 : decode cX7_highest 52 = .ok (.iaload, 1) := by decide +kernel
theorem dX7_highest_53 : decode cX7_highest 53 = .ok (.istore 5, 2) := by decide +kernel
theorem dX7_highest_55 : decode cX7_highest 55 = .ok (.aload_n 0, 1) := by decide +kernel
theorem dX7_highest_56 : decode cX7_highest 56 = .ok (.invokevirtual 124, 3) := by decide +kernel
theorem dX7_highest_59 : decode cX7_highest 59 = .ok (.iload_n 3, 1) := by decide +kernel
theorem dX7_highest_60 : decode cX7_highest 60 = .ok (.aload_n 0, 1) := by decide +kernel
theorem dX7_highest_61 : decode cX7_highest 61 = .ok (.getfield 7, 3) := by decide +kernel
theorem dX7_highest_64 : decode cX7_highest 64 = .ok (.sipush 308, 3) := by decide +kernel
theorem dX7_highest_67 : decode cX7_highest 67 = .ok (.bipush 6, 2) := by decide +kernel
theorem dX7_highest_69 : decode cX7_highest 69 = .ok (.iload 5, 2) := by decide +kernel
theorem dX7_highest_71 : decode cX7_highest 71 = .ok (.imul, 1) := by decide +kernel
theorem dX7_highest_72 : decode cX7_highest 72 = .ok (.iadd, 1) := by decide +kernel
theorem dX7_highest_73 : decode cX7_highest 73 = .ok (.iload_n 1, 1) := by decide +kernel
theorem dX7_highest_74 : decode cX7_highest 74 = .ok (.iadd, 1) := by decide +kernel
theorem dX7_highest_75 : decode cX7_highest 75 = .ok (.iaload, 1) := by decide +kernel
theorem dX7_highest_76 : decode cX7_highest 76 = .ok (.invokestatic 100, 3) := by decide +kernel
theorem dX7_highest_79 : decode cX7_highest 79 = .ok (.istore_n 3, 1) := by decide +kernel
theorem dX7_highest_80 : decode cX7_highest 80 = .ok (.iinc 4 1, 3) := by decide +kernel
theorem dX7_highest_83 : decode cX7_highest 83 = .ok (.goto (-49), 3) := by decide +kernel
theorem dX7_highest_86 : decode cX7_highest 86 = .ok (.aload_n 0, 1) := by decide +kernel
theorem dX7_highest_87 : decode cX7_highest 87 = .ok (.invokevirtual 180, 3) := by decide +kernel
theorem dX7_highest_90 : decode cX7_highest 90 = .ok (.iload_n 3, 1) := by decide +kernel
theorem dX7_highest_91 : decode cX7_highest 91 = .ok (.ireturn, 1) := by decide +kernel
end
section
theorem dL_law_0 : decode cL_law 0 = .ok (.new 7, 3) := by decide +kernel
theorem dL_law_3 : decode cL_law 3 = .ok (.dup, 1) := by decide +kernel
theorem dL_law_4 : decode cL_law 4 = .ok (.invokespecial 9, 3) := by decide +kernel
theorem dL_law_7 : decode cL_law 7 = .ok (.astore_n 1, 1) := by decide +kernel
theorem dL_law_8 : decode cL_law 8 = .ok (.new 10, 3) := by decide +kernel
theorem dL_law_11 : decode cL_law 11 = .ok (.dup, 1) := by decide +kernel
theorem dL_law_12 : decode cL_law 12 = .ok (.invokespecial 12, 3) := by decide +kernel
theorem dL_law_15 : decode cL_law 15 = .ok (.astore_n 2, 1) := by decide +kernel
theorem dL_law_16 : decode cL_law 16 = .ok (.iconst 0, 1) := by decide +kernel
theorem dL_law_17 : decode cL_law 17 = .ok (.istore_n 3, 1) := by decide +kernel
theorem dL_law_18 : decode cL_law 18 = .ok (.iload_n 3, 1) := by decide +kernel
theorem dL_law_19 : decode cL_law 19 = .ok (.aload_n 0, 1) := by decide +kernel
theorem dL_law_20 : decode cL_law 20 = .ok (.arraylength, 1) := by decide +kernel
theorem dL_law_21 : decode cL_law 21 = .ok (.bipush 6, 2) := by decide +kernel
theorem dL_law_23 : decode cL_law 23 = .ok (.isub, 1) := by decide +kernel
theorem dL_law_24 : decode cL_law 24 = .ok (.if_icmp .gt 1066, 3) := by decide +kernel
theorem dL_law_27 : decode cL_law 27 = .ok (.aload_n 0, 1) := by decide +kernel
theorem dL_law_28 : decode cL_law 28 = .ok (.iload_n 3, 1) := by decide +kernel
theorem dL_law_29 : decode cL_law 29 = .ok (.iaload, 1) := by decide +kernel
theorem dL_law_30 : decode cL_law 30 = .ok (.bipush 31, 2) := by decide +kernel
theorem dL_law_32 : decode cL_law 32 = .ok (.iand, 1) := by decide +kernel
theorem dL_law_33 : decode cL_law 33 = .ok (.tableswitch 1051 0 31 #[143, 186, 219, 278, 341, 394, 427, 450, 473, 512, 525, 548, 561, 574, 587, 600, 623, 646, 669, 692, 725, 758, 791, 824, 857, 880, 903, 926, 959, 982, 995, 1018], 143) := by decide +kernel
theorem dL_law_176 : decode cL_law 176 = .ok (.aload_n 1, 1) := by decide +kernel
theorem dL_law_177 : decode cL_law 177 = .ok (.aload_n 0, 1) := by decide +kernel
theorem dL_law_178 : decode cL_law 178 = .ok (.iload_n 3, 1) := by decide +kernel
theorem dL_law_179 : decode cL_law 179 = .ok (.iconst 1, 1) := by decide +kernel
theorem dL_law_180 : decode cL_law 180 = .ok (.iadd, 1) := by decide +kernel
theorem dL_law_181 : decode cL_law 181 = .ok (.iaload, 1) := by decide +kernel
theorem dL_law_182 : decode cL_law 182 = .ok (.aload_n 0, 1) := by decide +kernel
theorem dL_law_183 : decode cL_law 183 = .ok (.iload_n 3, 1) := by decide +kernel
theorem dL_law_184 : decode cL_law 184 = .ok (.iconst 2, 1) := by decide +kernel
theorem dL_law_185 : decode cL_law 185 = .ok (.iadd, 1) := by decide +kernel
theorem dL_law_186 : decode cL_law 186 = .ok (.iaload, 1) := by decide +kernel
theorem dL_law_187 : decode cL_law 187 = .ok (.aload_n 0, 1) := by decide +kernel
theorem dL_law_188 : decode cL_law 188 = .ok (.iload_n 3, 1) := by decide +kernel
theorem dL_law_189 : decode cL_law 189 = .ok (.iconst 3, 1) := by decide +kernel
theorem dL_law_190 : decode cL_law 190 = .ok (.iadd, 1) := by decide +kernel
theorem dL_law_191 : decode cL_law 191 = .ok (.iaload, 1) := by decide +kernel
theorem dL_law_192 : decode cL_law 192 = .ok (.invokevirtual 13, 3) := by decide +kernel
theorem dL_law_195 : decode cL_law 195 = .ok (.aload_n 2, 1) := by decide +kernel
theorem dL_law_196 : decode cL_law 196 = .ok (.aload_n 0, 1) := by decide +kernel
theorem dL_law_197 : decode cL_law 197 = .ok (.iload_n 3, 1) := by decide +kernel
theorem dL_law_198 : decode cL_law 198 = .ok (.iconst 1, 1) := by decide +kernel
theorem dL_law_199 : decode cL_law 199 = .ok (.iadd, 1) := by decide +kernel
theorem dL_law_200 : decode cL_law 200 = .ok (.iaload, 1) := by decide +kernel
theorem dL_law_201 : decode cL_law 201 = .ok (.aload_n 0, 1) := by decide +kernel
theorem dL_law_202 : decode cL_law 202 = .ok (.iload_n 3, 1) := by decide +kernel
theorem dL_law_203 : decode cL_law 203 = .ok (.iconst 2, 1) := by decide +kernel
theorem dL_law_204 : decode cL_law 204 = .ok (.iadd, 1) := by decide +kernel
theorem dL_law_205 : decode cL_law 205 = .ok (.iaload, 1) := by decide +kernel
theorem dL_law_206 : decode cL_law 206 = .ok (.aload_n 0, 1) := by decide +kernel
theorem dL_law_207 : decode cL_law 207 = .ok (.iload_n 3, 1) := by decide +kernel
theorem dL_law_208 : decode cL_law 208 = .ok (.iconst 3, 1) := by decide +kernel
theorem dL_law_209 : decode cL_law 209 = .ok (.iadd, 1) := by decide +kernel
theorem dL_law_210 : decode cL_law 210 = .ok (.iaload, 1) := by decide +kernel
theorem dL_law_211 : decode cL_law 211 = .ok (.invokevirtual 17, 3) := by decide +kernel
theorem dL_law_214 : decode cL_law 214 = .ok (.if_icmp .eq 870, 3) := by decide +kernel
theorem dL_law_217 : decode cL_law 217 = .ok (.iconst 0, 1) := by decide +kernel
theorem dL_law_218 : decode cL_law 218 = .ok (.ireturn, 1) := by decide +kernel
theorem dL_law_219 : decode cL_law 219 = .ok (.aload_n 1, 1) := by decide +kernel
theorem dL_law_220 : decode cL_law 220 = .ok (.aload_n 0, 1) := by decide +kernel
theorem dL_law_221 : decode cL_law 221 = .ok (.iload_n 3, 1) := by decide +kernel
theorem dL_law_222 : decode cL_law 222 = .ok (.iconst 1, 1) := by decide +kernel
theorem dL_law_223 : decode cL_law 223 = .ok (.iadd, 1) := by decide +kernel
theorem dL_law_224 : decode cL_law 224 = .ok (.iaload, 1) := by decide +kernel
theorem dL_law_225 : decode cL_law 225 = .ok (.aload_n 0, 1) := by decide +kernel
theorem dL_law_226 : decode cL_law 226 = .ok (.iload_n 3, 1) := by decide +kernel
theorem dL_law_227 : decode cL_law 227 = .ok (.iconst 2, 1) := by decide +kernel
theorem dL_law_228 : decode cL_law 228 = .ok (.iadd, 1) := by decide +kernel
theorem dL_law_229 : decode cL_law 229 = .ok (.iaload, 1) := by decide +kernel
theorem dL_law_230 : decode cL_law 230 = .ok (.invokevirtual 18, 3) := by decide +kernel
theorem dL_law_233 : decode cL_law 233 = .ok (.aload_n 2, 1) := by decide +kernel
theorem dL_law_234 : decode cL_law 234 = .ok (.aload_n 0, 1) := by decide +kernel
theorem dL_law_235 : decode cL_law 235 = .ok (.iload_n 3, 1) := by decide +kernel
theorem dL_law_236 : decode cL_law 236 = .ok (.iconst 1, 1) := by decide +kernel
theorem dL_law_237 : decode cL_law 237 = .ok (.iadd, 1) := by decide +kernel
theorem dL_law_238 : decode cL_law 238 = .ok (.iaload, 1) := by decide +kernel
theorem dL_law_239 : decode cL_law 239 = .ok (.aload_n 0, 1) := by decide +kernel
theorem dL_law_240 : decode cL_law 240 = .ok (.iload_n 3, 1) := by decide +kernel
theorem dL_law_241 : decode cL_law 241 = .ok (.iconst 2, 1) := by decide +kernel
theorem dL_law_242 : decode cL_law 242 = .ok (.iadd, 1) := by decide +kernel
theorem dL_law_243 : decode cL_law 243 = .ok (.iaload, 1) := by decide +kernel
theorem dL_law_244 : decode cL_law 244 = .ok (.invokevirtual 22, 3) := by decide +kernel
theorem dL_law_247 : decode cL_law 247 = .ok (.if_icmp .eq 837, 3) := by decide +kernel
theorem dL_law_250 : decode cL_law 250 = .ok (.iconst 0, 1) := by decide +kernel
theorem dL_law_251 : decode cL_law 251 = .ok (.ireturn, 1) := by decide +kernel
theorem dL_law_252 : decode cL_law 252 = .ok (.aload_n 1, 1) := by decide +kernel
theorem dL_law_253 : decode cL_law 253 = .ok (.aload_n 0, 1) := by decide +kernel
theorem dL_law_254 : decode cL_law 254 = .ok (.iload_n 3, 1) := by decide +kernel
theorem dL_law_255 : decode cL_law 255 = .ok (.iconst 1, 1) := by decide +kernel
theorem dL_law_256 : decode cL_law 256 = .ok (.iadd, 1) := by decide +kernel
theorem dL_law_257 : decode cL_law 257 = .ok (.iaload, 1) := by decide +kernel
theorem dL_law_258 : decode cL_law 258 = .ok (.ifCond .eq 7, 3) := by decide +kernel
theorem dL_law_261 : decode cL_law 261 = .ok (.iconst 1, 1) := by decide +kernel
theorem dL_law_262 : decode cL_law 262 = .ok (.goto 4, 3) := by decide +kernel
theorem dL_law_265 : decode cL_law 265 = .ok (.iconst 0, 1) := by decide +kernel
theorem dL_law_266 : decode cL_law 266 = .ok (.aload_n 0, 1) := by decide +kernel
theorem dL_law_267 : decode cL_law 267 = .ok (.iload_n 3, 1) := by decide +kernel
theorem dL_law_268 : decode cL_law 268 = .ok (.iconst 2, 1) := by decide +kernel
theorem dL_law_269 : decode cL_law 269 = .ok (.iadd, 1) := by decide +kernel
theorem dL_law_270 : decode cL_law 270 = .ok (.iaload, 1) := by decide +kernel
theorem dL_law_271 : decode cL_law 271 = .ok (.aload_n 0, 1) := by decide +kernel
theorem dL_law_272 : decode cL_law 272 = .ok (.iload_n 3, 1) := by decide +kernel
theorem dL_law_273 : decode cL_law 273 = .ok (.iconst 3, 1) := by decide +kernel
theorem dL_law_274 : decode cL_law 274 = .ok (.iadd, 1) := by decide +kernel
theorem dL_law_275 : decode cL_law 275 = .ok (.iaload, 1) := by decide +kernel
theorem dL_law_276 : decode cL_law 276 = .ok (.invokevirtual 23, 3) := by decide +kernel
theorem dL_law_279 : decode cL_law 279 = .ok (.aload_n 2, 1) := by decide +kernel
theorem dL_law_280 : decode cL_law 280 = .ok (.aload_n 0, 1) := by decide +kernel
theorem dL_law_281 : decode cL_law 281 = .ok (.iload_n 3, 1) := by decide +kernel
theorem dL_law_282 : decode cL_law 282 = .ok (.iconst 1, 1) := by decide +kernel
theorem dL_law_283 : decode cL_law 283 = .ok (.iadd, 1) := by decide +kernel
theorem dL_law_284 : decode cL_law 284 = .ok (.iaload, 1) := by decide +kernel
theorem dL_law_285 : decode cL_law 285 = .ok (.ifCond .eq 7, 3) := by decide +kernel
theorem dL_law_288 : decode cL_law 288 = .ok (.iconst 1, 1) := by decide +kernel
theorem dL_law_289 : decode cL_law 289 = .ok (.goto 4, 3) := by decide +kernel
theorem dL_law_292 : decode cL_law 292 = .ok (.iconst 0, 1) := by decide +kernel
theorem dL_law_293 : decode cL_law 293 = .ok (.aload_n 0, 1) := by decide +kernel
theorem dL_law_294 : decode cL_law 294 = .ok (.iload_n 3, 1) := by decide +kernel
theorem dL_law_295 : decode cL_law 295 = .ok (.iconst 2, 1) := by decide +kernel
theorem dL_law_296 : decode cL_law 296 = .ok (.iadd, 1) := by decide +kernel
theorem dL_law_297 : decode cL_law 297 = .ok (.iaload, 1) := by decide +kernel
theorem dL_law_298 : decode cL_law 298 = .ok (.aload_n 0, 1) := by decide +kernel
theorem dL_law_299 : decode cL_law 299 = .ok (.iload_n 3, 1) := by decide +kernel
theorem dL_law_300 : decode cL_law 300 = .ok (.iconst 3, 1) := by decide +kernel
theorem dL_law_301 : decode cL_law 301 = .ok (.iadd, 1) := by decide +kernel
theorem dL_law_302 : decode cL_law 302 = .ok (.iaload, 1) := by decide +kernel
theorem dL_law_303 : decode cL_law 303 = .ok (.invokevirtual 27, 3) := by decide +kernel
theorem dL_law_306 : decode cL_law 306 = .ok (.if_icmp .eq 778, 3) := by decide +kernel
theorem dL_law_309 : decode cL_law 309 = .ok (.iconst 0, 1) := by decide +kernel
theorem dL_law_310 : decode cL_law 310 = .ok (.ireturn, 1) := by decide +kernel
theorem dL_law_311 : decode cL_law 311 = .ok (.aload_n 1, 1) := by decide +kernel
theorem dL_law_312 : decode cL_law 312 = .ok (.aload_n 0, 1) := by decide +kernel
theorem dL_law_313 : decode cL_law 313 = .ok (.iload_n 3, 1) := by decide +kernel
theorem dL_law_314 : decode cL_law 314 = .ok (.iconst 1, 1) := by decide +kernel
theorem dL_law_315 : decode cL_law 315 = .ok (.iadd, 1) := by decide +kernel
theorem dL_law_316 : decode cL_law 316 = .ok (.iaload, 1) := by decide +kernel
theorem dL_law_317 : decode cL_law 317 = .ok (.aload_n 0, 1) := by decide +kernel
theorem dL_law_318 : decode cL_law 318 = .ok (.iload_n 3, 1) := by decide +kernel
theorem dL_law_319 : decode cL_law 319 = .ok (.iconst 2, 1) := by decide +kernel
theorem dL_law_320 : decode cL_law 320 = .ok (.iadd, 1) := by decide +kernel
theorem dL_law_321 : decode cL_law 321 = .ok (.iaload, 1) := by decide +kernel
theorem dL_law_322 : decode cL_law 322 = .ok (.aload_n 0, 1) := by decide +kernel
theorem dL_law_323 : decode cL_law 323 = .ok (.iload_n 3, 1) := by decide +kernel
theorem dL_law_324 : decode cL_law 324 = .ok (.iconst 3, 1) := by decide +kernel
theorem dL_law_325 : decode cL_law 325 = .ok (.iadd, 1) := by decide +kernel
theorem dL_law_326 : decode cL_law 326 = .ok (.iaload, 1) := by decide +kernel
theorem dL_law_327 : decode cL_law 327 = .ok (.aload_n 0, 1) := by decide +kernel
theorem dL_law_328 : decode cL_law 328 = .ok (.iload_n 3, 1) := by decide +kernel
theorem dL_law_329 : decode cL_law 329 = .ok (.iconst 4, 1) := by decide +kernel
theorem dL_law_330 : decode cL_law 330 = .ok (.iadd, 1) := by decide +kernel
theorem dL_law_331 : decode cL_law 331 = .ok (.iaload, 1) := by decide +kernel
theorem dL_law_332 : decode cL_law 332 = .ok (.aload_n 0, 1) := by decide +kernel
theorem dL_law_333 : decode cL_law 333 = .ok (.iload_n 3, 1) := by decide +kernel
theorem dL_law_334 : decode cL_law 334 = .ok (.iconst 5, 1) := by decide +kernel
theorem dL_law_335 : decode cL_law 335 = .ok (.iadd, 1) := by decide +kernel
theorem dL_law_336 : decode cL_law 336 = .ok (.iaload, 1) := by decide +kernel
theorem dL_law_337 : decode cL_law 337 = .ok (.invokevirtual 28, 3) := by decide +kernel
theorem dL_law_340 : decode cL_law 340 = .ok (.aload_n 2, 1) := by decide +kernel
theorem dL_law_341 : decode cL_law 341 = .ok (.aload_n 0, 1) := by decide +kernel
theorem dL_law_342 : decode cL_law 342 = .ok (.iload_n 3, 1) := by decide +kernel
theorem dL_law_343 : decode cL_law 343 = .ok (.iconst 1, 1) := by decide +kernel
theorem dL_law_344 : decode cL_law 344 = .ok (.iadd, 1) := by decide +kernel
theorem dL_law_345 : decode cL_law 345 = .ok (.iaload, 1) := by decide +kernel
theorem dL_law_346 : decode cL_law 346 = .ok (.aload_n 0, 1) := by decide +kernel
theorem dL_law_347 : decode cL_law 347 = .ok (.iload_n 3, 1) := by decide +kernel
theorem dL_law_348 : decode cL_law 348 = .ok (.iconst 2, 1) := by decide +kernel
theorem dL_law_349 : decode cL_law 349 = .ok (.iadd, 1) := by decide +kernel
theorem dL_law_350 : decode cL_law 350 = .ok (.iaload, 1) := by decide +kernel
theorem dL_law_351 : decode cL_law 351 = .ok (.aload_n 0, 1) := by decide +kernel
theorem dL_law_352 : decode cL_law 352 = .ok (.iload_n 3, 1) := by decide +kernel
theorem dL_law_353 : decode cL_law 353 = .ok (.iconst 3, 1) := by decide +kernel
theorem dL_law_354 : decode cL_law 354 = .ok (.iadd, 1) := by decide +kernel
theorem dL_law_355 : decode cL_law 355 = .ok (.iaload, 1) := by decide +kernel
theorem dL_law_356 : decode cL_law 356 = .ok (.aload_n 0, 1) := by decide +kernel
theorem dL_law_357 : decode cL_law 357 = .ok (.iload_n 3, 1) := by decide +kernel
theorem dL_law_358 : decode cL_law 358 = .ok (.iconst 4, 1) := by decide +kernel
theorem dL_law_359 : decode cL_law 359 = .ok (.iadd, 1) := by decide +kernel
theorem dL_law_360 : decode cL_law 360 = .ok (.iaload, 1) := by decide +kernel
theorem dL_law_361 : decode cL_law 361 = .ok (.aload_n 0, 1) := by decide +kernel
theorem dL_law_362 : decode cL_law 362 = .ok (.iload_n 3, 1) := by decide +kernel
theorem dL_law_363 : decode cL_law 363 = .ok (.iconst 5, 1) := by decide +kernel
theorem dL_law_364 : decode cL_law 364 = .ok (.iadd, 1) := by decide +kernel
theorem dL_law_365 : decode cL_law 365 = .ok (.iaload, 1) := by decide +kernel
theorem dL_law_366 : decode cL_law 366 = .ok (.invokevirtual 32, 3) := by decide +kernel
theorem dL_law_369 : decode cL_law 369 = .ok (.if_icmp .eq 715, 3) := by decide +kernel
theorem dL_law_372 : decode cL_law 372 = .ok (.iconst 0, 1) := by decide +kernel
theorem dL_law_373 : decode cL_law 373 = .ok (.ireturn, 1) := by decide +kernel
theorem dL_law_374 : decode cL_law 374 = .ok (.aload_n 1, 1) := by decide +kernel
theorem dL_law_375 : decode cL_law 375 = .ok (.aload_n 0, 1) := by decide +kernel
theorem dL_law_376 : decode cL_law 376 = .ok (.iload_n 3, 1) := by decide +kernel
theorem dL_law_377 : decode cL_law 377 = .ok (.iconst 1, 1) := by decide +kernel
theorem dL_law_378 : decode cL_law 378 = .ok (.iadd, 1) := by decide +kernel
theorem dL_law_379 : decode cL_law 379 = .ok (.iaload, 1) := by decide +kernel
theorem dL_law_380 : decode cL_law 380 = .ok (.aload_n 0, 1) := by decide +kernel
theorem dL_law_381 : decode cL_law 381 = .ok (.iload_n 3, 1) := by decide +kernel
theorem dL_law_382 : decode cL_law 382 = .ok (.iconst 2, 1) := by decide +kernel
theorem dL_law_383 : decode cL_law 383 = .ok (.iadd, 1) := by decide +kernel
theorem dL_law_384 : decode cL_law 384 = .ok (.iaload, 1) := by decide +kernel
theorem dL_law_385 : decode cL_law 385 = .ok (.aload_n 0, 1) := by decide +kernel
theorem dL_law_386 : decode cL_law 386 = .ok (.iload_n 3, 1) := by decide +kernel
theorem dL_law_387 : decode cL_law 387 = .ok (.iconst 3, 1) := by decide +kernel
theorem dL_law_388 : decode cL_law 388 = .ok (.iadd, 1) := by decide +kernel
theorem dL_law_389 : decode cL_law 389 = .ok (.iaload, 1) := by decide +kernel
theorem dL_law_390 : decode cL_law 390 = .ok (.aload_n 0, 1) := by decide +kernel
theorem dL_law_391 : decode cL_law 391 = .ok (.iload_n 3, 1) := by decide +kernel
theorem dL_law_392 : decode cL_law 392 = .ok (.iconst 4, 1) := by decide +kernel
theorem dL_law_393 : decode cL_law 393 = .ok (.iadd, 1) := by decide +kernel
theorem dL_law_394 : decode cL_law 394 = .ok (.iaload, 1) := by decide +kernel
theorem dL_law_395 : decode cL_law 395 = .ok (.invokevirtual 33, 3) := by decide +kernel
theorem dL_law_398 : decode cL_law 398 = .ok (.aload_n 2, 1) := by decide +kernel
theorem dL_law_399 : decode cL_law 399 = .ok (.aload_n 0, 1) := by decide +kernel
theorem dL_law_400 : decode cL_law 400 = .ok (.iload_n 3, 1) := by decide +kernel
theorem dL_law_401 : decode cL_law 401 = .ok (.iconst 1, 1) := by decide +kernel
theorem dL_law_402 : decode cL_law 402 = .ok (.iadd, 1) := by decide +kernel
theorem dL_law_403 : decode cL_law 403 = .ok (.iaload, 1) := by decide +kernel
theorem dL_law_404 : decode cL_law 404 = .ok (.aload_n 0, 1) := by decide +kernel
theorem dL_law_405 : decode cL_law 405 = .ok (.iload_n 3, 1) := by decide +kernel
theorem dL_law_406 : decode cL_law 406 = .ok (.iconst 2, 1) := by decide +kernel
theorem dL_law_407 : decode cL_law 407 = .ok (.iadd, 1) := by decide +kernel
theorem dL_law_408 : decode cL_law 408 = .ok (.iaload, 1) := by decide +kernel
theorem dL_law_409 : decode cL_law 409 = .ok (.aload_n 0, 1) := by decide +kernel
theorem dL_law_410 : decode cL_law 410 = .ok (.iload_n 3, 1) := by decide +kernel
theorem dL_law_411 : decode cL_law 411 = .ok (.iconst 3, 1) := by decide +kernel
theorem dL_law_412 : decode cL_law 412 = .ok (.iadd, 1) := by decide +kernel
theorem dL_law_413 : decode cL_law 413 = .ok (.iaload, 1) := by decide +kernel
theorem dL_law_414 : decode cL_law 414 = .ok (.aload_n 0, 1) := by decide +kernel
theorem dL_law_415 : decode cL_law 415 = .ok (.iload_n 3, 1) := by decide +kernel
theorem dL_law_416 : decode cL_law 416 = .ok (.iconst 4, 1) := by decide +kernel
theorem dL_law_417 : decode cL_law 417 = .ok (.iadd, 1) := by decide +kernel
theorem dL_law_418 : decode cL_law 418 = .ok (.iaload, 1) := by decide +kernel
theorem dL_law_419 : decode cL_law 419 = .ok (.invokevirtual 37, 3) := by decide +kernel
theorem dL_law_422 : decode cL_law 422 = .ok (.if_icmp .eq 662, 3) := by decide +kernel
theorem dL_law_425 : decode cL_law 425 = .ok (.iconst 0, 1) := by decide +kernel
theorem dL_law_426 : decode cL_law 426 = .ok (.ireturn, 1) := by decide +kernel
theorem dL_law_427 : decode cL_law 427 = .ok (.aload_n 1, 1) := by decide +kernel
theorem dL_law_428 : decode cL_law 428 = .ok (.aload_n 0, 1) := by decide +kernel
theorem dL_law_429 : decode cL_law 429 = .ok (.iload_n 3, 1) := by decide +kernel
theorem dL_law_430 : decode cL_law 430 = .ok (.iconst 1, 1) := by decide +kernel
theorem dL_law_431 : decode cL_law 431 = .ok (.iadd, 1) := by decide +kernel
theorem dL_law_432 : decode cL_law 432 = .ok (.iaload, 1) := by decide +kernel
theorem dL_law_433 : decode cL_law 433 = .ok (.aload_n 0, 1) := by decide +kernel
theorem dL_law_434 : decode cL_law 434 = .ok (.iload_n 3, 1) := by decide +kernel
theorem dL_law_435 : decode cL_law 435 = .ok (.iconst 2, 1) := by decide +kernel
theorem dL_law_436 : decode cL_law 436 = .ok (.iadd, 1) := by decide +kernel
theorem dL_law_437 : decode cL_law 437 = .ok (.iaload, 1) := by decide +kernel
theorem dL_law_438 : decode cL_law 438 = .ok (.invokevirtual 38, 3) := by decide +kernel
theorem dL_law_441 : decode cL_law 441 = .ok (.aload_n 2, 1) := by decide +kernel
theorem dL_law_442 : decode cL_law 442 = .ok (.aload_n 0, 1) := by decide +kernel
theorem dL_law_443 : decode cL_law 443 = .ok (.iload_n 3, 1) := by decide +kernel
theorem dL_law_444 : decode cL_law 444 = .ok (.iconst 1, 1) := by decide +kernel
theorem dL_law_445 : decode cL_law 445 = .ok (.iadd, 1) := by decide +kernel
theorem dL_law_446 : decode cL_law 446 = .ok (.iaload, 1) := by decide +kernel
theorem dL_law_447 : decode cL_law 447 = .ok (.aload_n 0, 1) := by decide +kernel
theorem dL_law_448 : decode cL_law 448 = .ok (.iload_n 3, 1) := by decide +kernel
theorem dL_law_449 : decode cL_law 449 = .ok (.iconst 2, 1) := by decide +kernel
theorem dL_law_450 : decode cL_law 450 = .ok (.iadd, 1) := by decide +kernel
theorem dL_law_451 : decode cL_law 451 = .ok (.iaload, 1) := by decide +kernel
theorem dL_law_452 : decode cL_law 452 = .ok (.invokevirtual 41, 3) := by decide +kernel
theorem dL_law_455 : decode cL_law 455 = .ok (.if_icmp .eq 629, 3) := by decide +kernel
theorem dL_law_458 : decode cL_law 458 = .ok (.iconst 0, 1) := by decide +kernel
theorem dL_law_459 : decode cL_law 459 = .ok (.ireturn, 1) := by decide +kernel
theorem dL_law_460 : decode cL_law 460 = .ok (.aload_n 1, 1) := by decide +kernel
theorem dL_law_461 : decode cL_law 461 = .ok (.aload_n 0, 1) := by decide +kernel
theorem dL_law_462 : decode cL_law 462 = .ok (.iload_n 3, 1) := by decide +kernel
theorem dL_law_463 : decode cL_law 463 = .ok (.iconst 1, 1) := by decide +kernel
theorem dL_law_464 : decode cL_law 464 = .ok (.iadd, 1) := by decide +kernel
theorem dL_law_465 : decode cL_law 465 = .ok (.iaload, 1) := by decide +kernel
theorem dL_law_466 : decode cL_law 466 = .ok (.invokevirtual 42, 3) := by decide +kernel
theorem dL_law_469 : decode cL_law 469 = .ok (.aload_n 2, 1) := by decide +kernel
theorem dL_law_470 : decode cL_law 470 = .ok (.aload_n 0, 1) := by decide +kernel
theorem dL_law_471 : decode cL_law 471 = .ok (.iload_n 3, 1) := by decide +kernel
theorem dL_law_472 : decode cL_law 472 = .ok (.iconst 1, 1) := by decide +kernel
theorem dL_law_473 : decode cL_law 473 = .ok (.iadd, 1) := by decide +kernel
theorem dL_law_474 : decode cL_law 474 = .ok (.iaload, 1) := by decide +kernel
theorem dL_law_475 : decode cL_law 475 = .ok (.invokevirtual 46, 3) := by decide +kernel
theorem dL_law_478 : decode cL_law 478 = .ok (.if_icmp .eq 606, 3) := by decide +kernel
theorem dL_law_481 : decode cL_law 481 = .ok (.iconst 0, 1) := by decide +kernel
theorem dL_law_482 : decode cL_law 482 = .ok (.ireturn, 1) := by decide +kernel
theorem dL_law_483 : decode cL_law 483 = .ok (.aload_n 1, 1) := by decide +kernel
theorem dL_law_484 : decode cL_law 484 = .ok (.aload_n 0, 1) := by decide +kernel
theorem dL_law_485 : decode cL_law 485 = .ok (.iload_n 3, 1) := by decide +kernel
theorem dL_law_486 : decode cL_law 486 = .ok (.iconst 1, 1) := by decide +kernel
theorem dL_law_487 : decode cL_law 487 = .ok (.iadd, 1) := by decide +kernel
theorem dL_law_488 : decode cL_law 488 = .ok (.iaload, 1) := by decide +kernel
theorem dL_law_489 : decode cL_law 489 = .ok (.invokevirtual 47, 3) := by decide +kernel
theorem dL_law_492 : decode cL_law 492 = .ok (.aload_n 2, 1) := by decide +kernel
theorem dL_law_493 : decode cL_law 493 = .ok (.aload_n 0, 1) := by decide +kernel
theorem dL_law_494 : decode cL_law 494 = .ok (.iload_n 3, 1) := by decide +kernel
theorem dL_law_495 : decode cL_law 495 = .ok (.iconst 1, 1) := by decide +kernel
theorem dL_law_496 : decode cL_law 496 = .ok (.iadd, 1) := by decide +kernel
theorem dL_law_497 : decode cL_law 497 = .ok (.iaload, 1) := by decide +kernel
theorem dL_law_498 : decode cL_law 498 = .ok (.invokevirtual 50, 3) := by decide +kernel
theorem dL_law_501 : decode cL_law 501 = .ok (.if_icmp .eq 583, 3) := by decide +kernel
theorem dL_law_504 : decode cL_law 504 = .ok (.iconst 0, 1) := by decide +kernel
theorem dL_law_505 : decode cL_law 505 = .ok (.ireturn, 1) := by decide +kernel
theorem dL_law_506 : decode cL_law 506 = .ok (.aload_n 1, 1) := by decide +kernel
theorem dL_law_507 : decode cL_law 507 = .ok (.aload_n 0, 1) := by decide +kernel
theorem dL_law_508 : decode cL_law 508 = .ok (.iload_n 3, 1) := by decide +kernel
theorem dL_law_509 : decode cL_law 509 = .ok (.iconst 1, 1) := by decide +kernel
theorem dL_law_510 : decode cL_law 510 = .ok (.iadd, 1) := by decide +kernel
theorem dL_law_511 : decode cL_law 511 = .ok (.iaload, 1) := by decide +kernel
theorem dL_law_512 : decode cL_law 512 = .ok (.ifCond .eq 7, 3) := by decide +kernel
theorem dL_law_515 : decode cL_law 515 = .ok (.iconst 1, 1) := by decide +kernel
theorem dL_law_516 : decode cL_law 516 = .ok (.goto 4, 3) := by decide +kernel
theorem dL_law_519 : decode cL_law 519 = .ok (.iconst 0, 1) := by decide +kernel
theorem dL_law_520 : decode cL_law 520 = .ok (.invokevirtual 51, 3) := by decide +kernel
theorem dL_law_523 : decode cL_law 523 = .ok (.aload_n 2, 1) := by decide +kernel
theorem dL_law_524 : decode cL_law 524 = .ok (.aload_n 0, 1) := by decide +kernel
theorem dL_law_525 : decode cL_law 525 = .ok (.iload_n 3, 1) := by decide +kernel
theorem dL_law_526 : decode cL_law 526 = .ok (.iconst 1, 1) := by decide +kernel
theorem dL_law_527 : decode cL_law 527 = .ok (.iadd, 1) := by decide +kernel
theorem dL_law_528 : decode cL_law 528 = .ok (.iaload, 1) := by decide +kernel
theorem dL_law_529 : decode cL_law 529 = .ok (.ifCond .eq 7, 3) := by decide +kernel
theorem dL_law_532 : decode cL_law 532 = .ok (.iconst 1, 1) := by decide +kernel
theorem dL_law_533 : decode cL_law 533 = .ok (.goto 4, 3) := by decide +kernel
theorem dL_law_536 : decode cL_law 536 = .ok (.iconst 0, 1) := by decide +kernel
theorem dL_law_537 : decode cL_law 537 = .ok (.invokevirtual 55, 3) := by decide +kernel
theorem dL_law_540 : decode cL_law 540 = .ok (.if_icmp .eq 544, 3) := by decide +kernel
theorem dL_law_543 : decode cL_law 543 = .ok (.iconst 0, 1) := by decide +kernel
theorem dL_law_544 : decode cL_law 544 = .ok (.ireturn, 1) := by decide +kernel
theorem dL_law_545 : decode cL_law 545 = .ok (.aload_n 1, 1) := by decide +kernel
theorem dL_law_546 : decode cL_law 546 = .ok (.invokevirtual 56, 3) := by decide +kernel
theorem dL_law_549 : decode cL_law 549 = .ok (.aload_n 2, 1) := by decide +kernel
theorem dL_law_550 : decode cL_law 550 = .ok (.invokevirtual 60, 3) := by decide +kernel
theorem dL_law_553 : decode cL_law 553 = .ok (.if_icmp .eq 531, 3) := by decide +kernel
theorem dL_law_556 : decode cL_law 556 = .ok (.iconst 0, 1) := by decide +kernel
theorem dL_law_557 : decode cL_law 557 = .ok (.ireturn, 1) := by decide +kernel
theorem dL_law_558 : decode cL_law 558 = .ok (.aload_n 1, 1) := by decide +kernel
theorem dL_law_559 : decode cL_law 559 = .ok (.aload_n 0, 1) := by decide +kernel
theorem dL_law_560 : decode cL_law 560 = .ok (.iload_n 3, 1) := by decide +kernel
theorem dL_law_561 : decode cL_law 561 = .ok (.iconst 1, 1) := by decide +kernel
theorem dL_law_562 : decode cL_law 562 = .ok (.iadd, 1) := by decide +kernel
theorem dL_law_563 : decode cL_law 563 = .ok (.iaload, 1) := by decide +kernel
theorem dL_law_564 : decode cL_law 564 = .ok (.invokevirtual 61, 3) := by decide +kernel
theorem dL_law_567 : decode cL_law 567 = .ok (.aload_n 2, 1) := by decide +kernel
theorem dL_law_568 : decode cL_law 568 = .ok (.aload_n 0, 1) := by decide +kernel
theorem dL_law_569 : decode cL_law 569 = .ok (.iload_n 3, 1) := by decide +kernel
theorem dL_law_570 : decode cL_law 570 = .ok (.iconst 1, 1) := by decide +kernel
theorem dL_law_571 : decode cL_law 571 = .ok (.iadd, 1) := by decide +kernel
theorem dL_law_572 : decode cL_law 572 = .ok (.iaload, 1) := by decide +kernel
theorem dL_law_573 : decode cL_law 573 = .ok (.invokevirtual 64, 3) := by decide +kernel
theorem dL_law_576 : decode cL_law 576 = .ok (.if_icmp .eq 508, 3) := by decide +kernel
theorem dL_law_579 : decode cL_law 579 = .ok (.iconst 0, 1) := by decide +kernel
theorem dL_law_580 : decode cL_law 580 = .ok (.ireturn, 1) := by decide +kernel
theorem dL_law_581 : decode cL_law 581 = .ok (.aload_n 1, 1) := by decide +kernel
theorem dL_law_582 : decode cL_law 582 = .ok (.invokevirtual 65, 3) := by decide +kernel
theorem dL_law_585 : decode cL_law 585 = .ok (.aload_n 2, 1) := by decide +kernel
theorem dL_law_586 : decode cL_law 586 = .ok (.invokevirtual 68, 3) := by decide +kernel
theorem dL_law_589 : decode cL_law 589 = .ok (.if_icmp .eq 495, 3) := by decide +kernel
theorem dL_law_592 : decode cL_law 592 = .ok (.iconst 0, 1) := by decide +kernel
theorem dL_law_593 : decode cL_law 593 = .ok (.ireturn, 1) := by decide +kernel
theorem dL_law_594 : decode cL_law 594 = .ok (.aload_n 1, 1) := by decide +kernel
theorem dL_law_595 : decode cL_law 595 = .ok (.invokevirtual 69, 3) := by decide +kernel
theorem dL_law_598 : decode cL_law 598 = .ok (.aload_n 2, 1) := by decide +kernel
theorem dL_law_599 : decode cL_law 599 = .ok (.invokevirtual 72, 3) := by decide +kernel
theorem dL_law_602 : decode cL_law 602 = .ok (.if_icmp .eq 482, 3) := by decide +kernel
theorem dL_law_605 : decode cL_law 605 = .ok (.iconst 0, 1) := by decide +kernel
theorem dL_law_606 : decode cL_law 606 = .ok (.ireturn, 1) := by decide +kernel
theorem dL_law_607 : decode cL_law 607 = .ok (.aload_n 1, 1) := by decide +kernel
theorem dL_law_608 : decode cL_law 608 = .ok (.invokevirtual 73, 3) := by decide +kernel
theorem dL_law_611 : decode cL_law 611 = .ok (.aload_n 2, 1) := by decide +kernel
theorem dL_law_612 : decode cL_law 612 = .ok (.invokevirtual 76, 3) := by decide +kernel
theorem dL_law_615 : decode cL_law 615 = .ok (.if_icmp .eq 469, 3) := by decide +kernel
theorem dL_law_618 : decode cL_law 618 = .ok (.iconst 0, 1) := by decide +kernel
theorem dL_law_619 : decode cL_law 619 = .ok (.ireturn, 1) := by decide +kernel
theorem dL_law_620 : decode cL_law 620 = .ok (.aload_n 1, 1) := by decide +kernel
theorem dL_law_621 : decode cL_law 621 = .ok (.invokevirtual 77, 3) := by decide +kernel
theorem dL_law_624 : decode cL_law 624 = .ok (.aload_n 2, 1) := by decide +kernel
theorem dL_law_625 : decode cL_law 625 = .ok (.invokevirtual 80, 3) := by decide +kernel
theorem dL_law_628 : decode cL_law 628 = .ok (.if_icmp .eq 456, 3) := by decide +kernel
theorem dL_law_631 : decode cL_law 631 = .ok (.iconst 0, 1) := by decide +kernel
theorem dL_law_632 : decode cL_law 632 = .ok (.ireturn, 1) := by decide +kernel
theorem dL_law_633 : decode cL_law 633 = .ok (.aload_n 1, 1) := by decide +kernel
theorem dL_law_634 : decode cL_law 634 = .ok (.aload_n 0, 1) := by decide +kernel
theorem dL_law_635 : decode cL_law 635 = .ok (.iload_n 3, 1) := by decide +kernel
theorem dL_law_636 : decode cL_law 636 = .ok (.iconst 1, 1) := by decide +kernel
theorem dL_law_637 : decode cL_law 637 = .ok (.iadd, 1) := by decide +kernel
theorem dL_law_638 : decode cL_law 638 = .ok (.iaload, 1) := by decide +kernel
theorem dL_law_639 : decode cL_law 639 = .ok (.invokevirtual 81, 3) := by decide +kernel
theorem dL_law_642 : decode cL_law 642 = .ok (.aload_n 2, 1) := by decide +kernel
theorem dL_law_643 : decode cL_law 643 = .ok (.aload_n 0, 1) := by decide +kernel
theorem dL_law_644 : decode cL_law 644 = .ok (.iload_n 3, 1) := by decide +kernel
theorem dL_law_645 : decode cL_law 645 = .ok (.iconst 1, 1) := by decide +kernel
theorem dL_law_646 : decode cL_law 646 = .ok (.iadd, 1) := by decide +kernel
theorem dL_law_647 : decode cL_law 647 = .ok (.iaload, 1) := by decide +kernel
theorem dL_law_648 : decode cL_law 648 = .ok (.invokevirtual 84, 3) := by decide +kernel
theorem dL_law_651 : decode cL_law 651 = .ok (.if_icmp .eq 433, 3) := by decide +kernel
theorem dL_law_654 : decode cL_law 654 = .ok (.iconst 0, 1) := by decide +kernel
theorem dL_law_655 : decode cL_law 655 = .ok (.ireturn, 1) := by decide +kernel
theorem dL_law_656 : decode cL_law 656 = .ok (.aload_n 1, 1) := by decide +kernel
theorem dL_law_657 : decode cL_law 657 = .ok (.aload_n 0, 1) := by decide +kernel
theorem dL_law_658 : decode cL_law 658 = .ok (.iload_n 3, 1) := by decide +kernel
theorem dL_law_659 : decode cL_law 659 = .ok (.iconst 1, 1) := by decide +kernel
theorem dL_law_660 : decode cL_law 660 = .ok (.iadd, 1) := by decide +kernel
theorem dL_law_661 : decode cL_law 661 = .ok (.iaload, 1) := by decide +kernel
theorem dL_law_662 : decode cL_law 662 = .ok (.invokevirtual 85, 3) := by decide +kernel
theorem dL_law_665 : decode cL_law 665 = .ok (.aload_n 2, 1) := by decide +kernel
theorem dL_law_666 : decode cL_law 666 = .ok (.aload_n 0, 1) := by decide +kernel
theorem dL_law_667 : decode cL_law 667 = .ok (.iload_n 3, 1) := by decide +kernel
theorem dL_law_668 : decode cL_law 668 = .ok (.iconst 1, 1) := by decide +kernel
theorem dL_law_669 : decode cL_law 669 = .ok (.iadd, 1) := by decide +kernel
theorem dL_law_670 : decode cL_law 670 = .ok (.iaload, 1) := by decide +kernel
theorem dL_law_671 : decode cL_law 671 = .ok (.invokevirtual 88, 3) := by decide +kernel
theorem dL_law_674 : decode cL_law 674 = .ok (.if_icmp .eq 410, 3) := by decide +kernel
theorem dL_law_677 : decode cL_law 677 = .ok (.iconst 0, 1) := by decide +kernel
theorem dL_law_678 : decode cL_law 678 = .ok (.ireturn, 1) := by decide +kernel
theorem dL_law_679 : decode cL_law 679 = .ok (.aload_n 1, 1) := by decide +kernel
theorem dL_law_680 : decode cL_law 680 = .ok (.aload_n 0, 1) := by decide +kernel
theorem dL_law_681 : decode cL_law 681 = .ok (.iload_n 3, 1) := by decide +kernel
theorem dL_law_682 : decode cL_law 682 = .ok (.iconst 1, 1) := by decide +kernel
theorem dL_law_683 : decode cL_law 683 = .ok (.iadd, 1) := by decide +kernel
theorem dL_law_684 : decode cL_law 684 = .ok (.iaload, 1) := by decide +kernel
theorem dL_law_685 : decode cL_law 685 = .ok (.invokevirtual 89, 3) := by decide +kernel
theorem dL_law_688 : decode cL_law 688 = .ok (.aload_n 2, 1) := by decide +kernel
theorem dL_law_689 : decode cL_law 689 = .ok (.aload_n 0, 1) := by decide +kernel
theorem dL_law_690 : decode cL_law 690 = .ok (.iload_n 3, 1) := by decide +kernel
theorem dL_law_691 : decode cL_law 691 = .ok (.iconst 1, 1) := by decide +kernel
theorem dL_law_692 : decode cL_law 692 = .ok (.iadd, 1) := by decide +kernel
theorem dL_law_693 : decode cL_law 693 = .ok (.iaload, 1) := by decide +kernel
theorem dL_law_694 : decode cL_law 694 = .ok (.invokevirtual 92, 3) := by decide +kernel
theorem dL_law_697 : decode cL_law 697 = .ok (.if_icmp .eq 387, 3) := by decide +kernel
theorem dL_law_700 : decode cL_law 700 = .ok (.iconst 0, 1) := by decide +kernel
theorem dL_law_701 : decode cL_law 701 = .ok (.ireturn, 1) := by decide +kernel
theorem dL_law_702 : decode cL_law 702 = .ok (.aload_n 1, 1) := by decide +kernel
theorem dL_law_703 : decode cL_law 703 = .ok (.aload_n 0, 1) := by decide +kernel
theorem dL_law_704 : decode cL_law 704 = .ok (.iload_n 3, 1) := by decide +kernel
theorem dL_law_705 : decode cL_law 705 = .ok (.iconst 1, 1) := by decide +kernel
theorem dL_law_706 : decode cL_law 706 = .ok (.iadd, 1) := by decide +kernel
theorem dL_law_707 : decode cL_law 707 = .ok (.iaload, 1) := by decide +kernel
theorem dL_law_708 : decode cL_law 708 = .ok (.invokevirtual 93, 3) := by decide +kernel
theorem dL_law_711 : decode cL_law 711 = .ok (.aload_n 2, 1) := by decide +kernel
theorem dL_law_712 : decode cL_law 712 = .ok (.aload_n 0, 1) := by decide +kernel
theorem dL_law_713 : decode cL_law 713 = .ok (.iload_n 3, 1) := by decide +kernel
theorem dL_law_714 : decode cL_law 714 = .ok (.iconst 1, 1) := by decide +kernel
theorem dL_law_715 : decode cL_law 715 = .ok (.iadd, 1) := by decide +kernel
theorem dL_law_716 : decode cL_law 716 = .ok (.iaload, 1) := by decide +kernel
theorem dL_law_717 : decode cL_law 717 = .ok (.invokevirtual 96, 3) := by decide +kernel
theorem dL_law_720 : decode cL_law 720 = .ok (.if_icmp .eq 364, 3) := by decide +kernel
theorem dL_law_723 : decode cL_law 723 = .ok (.iconst 0, 1) := by decide +kernel
theorem dL_law_724 : decode cL_law 724 = .ok (.ireturn, 1) := by decide +kernel
theorem dL_law_725 : decode cL_law 725 = .ok (.aload_n 1, 1) := by decide +kernel
theorem dL_law_726 : decode cL_law 726 = .ok (.aload_n 0, 1) := by decide +kernel
theorem dL_law_727 : decode cL_law 727 = .ok (.iload_n 3, 1) := by decide +kernel
theorem dL_law_728 : decode cL_law 728 = .ok (.iconst 1, 1) := by decide +kernel
theorem dL_law_729 : decode cL_law 729 = .ok (.iadd, 1) := by decide +kernel
theorem dL_law_730 : decode cL_law 730 = .ok (.iaload, 1) := by decide +kernel
theorem dL_law_731 : decode cL_law 731 = .ok (.aload_n 0, 1) := by decide +kernel
theorem dL_law_732 : decode cL_law 732 = .ok (.iload_n 3, 1) := by decide +kernel
theorem dL_law_733 : decode cL_law 733 = .ok (.iconst 2, 1) := by decide +kernel
theorem dL_law_734 : decode cL_law 734 = .ok (.iadd, 1) := by decide +kernel
theorem dL_law_735 : decode cL_law 735 = .ok (.iaload, 1) := by decide +kernel
theorem dL_law_736 : decode cL_law 736 = .ok (.invokevirtual 97, 3) := by decide +kernel
theorem dL_law_739 : decode cL_law 739 = .ok (.aload_n 2, 1) := by decide +kernel
theorem dL_law_740 : decode cL_law 740 = .ok (.aload_n 0, 1) := by decide +kernel
theorem dL_law_741 : decode cL_law 741 = .ok (.iload_n 3, 1) := by decide +kernel
theorem dL_law_742 : decode cL_law 742 = .ok (.iconst 1, 1) := by decide +kernel
theorem dL_law_743 : decode cL_law 743 = .ok (.iadd, 1) := by decide +kernel
theorem dL_law_744 : decode cL_law 744 = .ok (.iaload, 1) := by decide +kernel
theorem dL_law_745 : decode cL_law 745 = .ok (.aload_n 0, 1) := by decide +kernel
theorem dL_law_746 : decode cL_law 746 = .ok (.iload_n 3, 1) := by decide +kernel
theorem dL_law_747 : decode cL_law 747 = .ok (.iconst 2, 1) := by decide +kernel
theorem dL_law_748 : decode cL_law 748 = .ok (.iadd, 1) := by decide +kernel
theorem dL_law_749 : decode cL_law 749 = .ok (.iaload, 1) := by decide +kernel
theorem dL_law_750 : decode cL_law 750 = .ok (.invokevirtual 100, 3) := by decide +kernel
theorem dL_law_753 : decode cL_law 753 = .ok (.if_icmp .eq 331, 3) := by decide +kernel
theorem dL_law_756 : decode cL_law 756 = .ok (.iconst 0, 1) := by decide +kernel
theorem dL_law_757 : decode cL_law 757 = .ok (.ireturn, 1) := by decide +kernel
theorem dL_law_758 : decode cL_law 758 = .ok (.aload_n 1, 1) := by decide +kernel
theorem dL_law_759 : decode cL_law 759 = .ok (.aload_n 0, 1) := by decide +kernel
theorem dL_law_760 : decode cL_law 760 = .ok (.iload_n 3, 1) := by decide +kernel
theorem dL_law_761 : decode cL_law 761 = .ok (.iconst 1, 1) := by decide +kernel
theorem dL_law_762 : decode cL_law 762 = .ok (.iadd, 1) := by decide +kernel
theorem dL_law_763 : decode cL_law 763 = .ok (.iaload, 1) := by decide +kernel
theorem dL_law_764 : decode cL_law 764 = .ok (.aload_n 0, 1) := by decide +kernel
theorem dL_law_765 : decode cL_law 765 = .ok (.iload_n 3, 1) := by decide +kernel
theorem dL_law_766 : decode cL_law 766 = .ok (.iconst 2, 1) := by decide +kernel
theorem dL_law_767 : decode cL_law 767 = .ok (.iadd, 1) := by decide +kernel
theorem dL_law_768 : decode cL_law 768 = .ok (.iaload, 1) := by decide +kernel
theorem dL_law_769 : decode cL_law 769 = .ok (.invokevirtual 101, 3) := by decide +kernel
theorem dL_law_772 : decode cL_law 772 = .ok (.aload_n 2, 1) := by decide +kernel
theorem dL_law_773 : decode cL_law 773 = .ok (.aload_n 0, 1) := by decide +kernel
theorem dL_law_774 : decode cL_law 774 = .ok (.iload_n 3, 1) := by decide +kernel
theorem dL_law_775 : decode cL_law 775 = .ok (.iconst 1, 1) := by decide +kernel
theorem dL_law_776 : decode cL_law 776 = .ok (.iadd, 1) := by decide +kernel
theorem dL_law_777 : decode cL_law 777 = .ok (.iaload, 1) := by decide +kernel
theorem dL_law_778 : decode cL_law 778 = .ok (.aload_n 0, 1) := by decide +kernel
theorem dL_law_779 : decode cL_law 779 = .ok (.iload_n 3, 1) := by decide +kernel
theorem dL_law_780 : decode cL_law 780 = .ok (.iconst 2, 1) := by decide +kernel
theorem dL_law_781 : decode cL_law 781 = .ok (.iadd, 1) := by decide +kernel
theorem dL_law_782 : decode cL_law 782 = .ok (.iaload, 1) := by decide +kernel
theorem dL_law_783 : decode cL_law 783 = .ok (.invokevirtual 104, 3) := by decide +kernel
theorem dL_law_786 : decode cL_law 786 = .ok (.if_icmp .eq 298, 3) := by decide +kernel
theorem dL_law_789 : decode cL_law 789 = .ok (.iconst 0, 1) := by decide +kernel
theorem dL_law_790 : decode cL_law 790 = .ok (.ireturn, 1) := by decide +kernel
theorem dL_law_791 : decode cL_law 791 = .ok (.aload_n 1, 1) := by decide +kernel
theorem dL_law_792 : decode cL_law 792 = .ok (.aload_n 0, 1) := by decide +kernel
theorem dL_law_793 : decode cL_law 793 = .ok (.iload_n 3, 1) := by decide +kernel
theorem dL_law_794 : decode cL_law 794 = .ok (.iconst 1, 1) := by decide +kernel
theorem dL_law_795 : decode cL_law 795 = .ok (.iadd, 1) := by decide +kernel
theorem dL_law_796 : decode cL_law 796 = .ok (.iaload, 1) := by decide +kernel
theorem dL_law_797 : decode cL_law 797 = .ok (.aload_n 0, 1) := by decide +kernel
theorem dL_law_798 : decode cL_law 798 = .ok (.iload_n 3, 1) := by decide +kernel
theorem dL_law_799 : decode cL_law 799 = .ok (.iconst 2, 1) := by decide +kernel
theorem dL_law_800 : decode cL_law 800 = .ok (.iadd, 1) := by decide +kernel
theorem dL_law_801 : decode cL_law 801 = .ok (.iaload, 1) := by decide +kernel
theorem dL_law_802 : decode cL_law 802 = .ok (.invokevirtual 105, 3) := by decide +kernel
theorem dL_law_805 : decode cL_law 805 = .ok (.aload_n 2, 1) := by decide +kernel
theorem dL_law_806 : decode cL_law 806 = .ok (.aload_n 0, 1) := by decide +kernel
theorem dL_law_807 : decode cL_law 807 = .ok (.iload_n 3, 1) := by decide +kernel
theorem dL_law_808 : decode cL_law 808 = .ok (.iconst 1, 1) := by decide +kernel
theorem dL_law_809 : decode cL_law 809 = .ok (.iadd, 1) := by decide +kernel
theorem dL_law_810 : decode cL_law 810 = .ok (.iaload, 1) := by decide +kernel
theorem dL_law_811 : decode cL_law 811 = .ok (.aload_n 0, 1) := by decide +kernel
theorem dL_law_812 : decode cL_law 812 = .ok (.iload_n 3, 1) := by decide +kernel
theorem dL_law_813 : decode cL_law 813 = .ok (.iconst 2, 1) := by decide +kernel
theorem dL_law_814 : decode cL_law 814 = .ok (.iadd, 1) := by decide +kernel
theorem dL_law_815 : decode cL_law 815 = .ok (.iaload, 1) := by decide +kernel
theorem dL_law_816 : decode cL_law 816 = .ok (.invokevirtual 108, 3) := by decide +kernel
theorem dL_law_819 : decode cL_law 819 = .ok (.if_icmp .eq 265, 3) := by decide +kernel
theorem dL_law_822 : decode cL_law 822 = .ok (.iconst 0, 1) := by decide +kernel
theorem dL_law_823 : decode cL_law 823 = .ok (.ireturn, 1) := by decide +kernel
theorem dL_law_824 : decode cL_law 824 = .ok (.aload_n 1, 1) := by decide +kernel
theorem dL_law_825 : decode cL_law 825 = .ok (.aload_n 0, 1) := by decide +kernel
theorem dL_law_826 : decode cL_law 826 = .ok (.iload_n 3, 1) := by decide +kernel
theorem dL_law_827 : decode cL_law 827 = .ok (.iconst 1, 1) := by decide +kernel
theorem dL_law_828 : decode cL_law 828 = .ok (.iadd, 1) := by decide +kernel
theorem dL_law_829 : decode cL_law 829 = .ok (.iaload, 1) := by decide +kernel
theorem dL_law_830 : decode cL_law 830 = .ok (.aload_n 0, 1) := by decide +kernel
theorem dL_law_831 : decode cL_law 831 = .ok (.iload_n 3, 1) := by decide +kernel
theorem dL_law_832 : decode cL_law 832 = .ok (.iconst 2, 1) := by decide +kernel
theorem dL_law_833 : decode cL_law 833 = .ok (.iadd, 1) := by decide +kernel
theorem dL_law_834 : decode cL_law 834 = .ok (.iaload, 1) := by decide +kernel
theorem dL_law_835 : decode cL_law 835 = .ok (.invokevirtual 109, 3) := by decide +kernel
theorem dL_law_838 : decode cL_law 838 = .ok (.aload_n 2, 1) := by decide +kernel
theorem dL_law_839 : decode cL_law 839 = .ok (.aload_n 0, 1) := by decide +kernel
theorem dL_law_840 : decode cL_law 840 = .ok (.iload_n 3, 1) := by decide +kernel
theorem dL_law_841 : decode cL_law 841 = .ok (.iconst 1, 1) := by decide +kernel
theorem dL_law_842 : decode cL_law 842 = .ok (.iadd, 1) := by decide +kernel
theorem dL_law_843 : decode cL_law 843 = .ok (.iaload, 1) := by decide +kernel
theorem dL_law_844 : decode cL_law 844 = .ok (.aload_n 0, 1) := by decide +kernel
theorem dL_law_845 : decode cL_law 845 = .ok (.iload_n 3, 1) := by decide +kernel
theorem dL_law_846 : decode cL_law 846 = .ok (.iconst 2, 1) := by decide +kernel
theorem dL_law_847 : decode cL_law 847 = .ok (.iadd, 1) := by decide +kernel
theorem dL_law_848 : decode cL_law 848 = .ok (.iaload, 1) := by decide +kernel
theorem dL_law_849 : decode cL_law 849 = .ok (.invokevirtual 112, 3) := by decide +kernel
theorem dL_law_852 : decode cL_law 852 = .ok (.if_icmp .eq 232, 3) := by decide +kernel
theorem dL_law_855 : decode cL_law 855 = .ok (.iconst 0, 1) := by decide +kernel
theorem dL_law_856 : decode cL_law 856 = .ok (.ireturn, 1) := by decide +kernel
theorem dL_law_857 : decode cL_law 857 = .ok (.aload_n 1, 1) := by decide +kernel
theorem dL_law_858 : decode cL_law 858 = .ok (.aload_n 0, 1) := by decide +kernel
theorem dL_law_859 : decode cL_law 859 = .ok (.iload_n 3, 1) := by decide +kernel
theorem dL_law_860 : decode cL_law 860 = .ok (.iconst 1, 1) := by decide +kernel
theorem dL_law_861 : decode cL_law 861 = .ok (.iadd, 1) := by decide +kernel
theorem dL_law_862 : decode cL_law 862 = .ok (.iaload, 1) := by decide +kernel
theorem dL_law_863 : decode cL_law 863 = .ok (.aload_n 0, 1) := by decide +kernel
theorem dL_law_864 : decode cL_law 864 = .ok (.iload_n 3, 1) := by decide +kernel
theorem dL_law_865 : decode cL_law 865 = .ok (.iconst 2, 1) := by decide +kernel
theorem dL_law_866 : decode cL_law 866 = .ok (.iadd, 1) := by decide +kernel
theorem dL_law_867 : decode cL_law 867 = .ok (.iaload, 1) := by decide +kernel
theorem dL_law_868 : decode cL_law 868 = .ok (.invokevirtual 113, 3) := by decide +kernel
theorem dL_law_871 : decode cL_law 871 = .ok (.aload_n 2, 1) := by decide +kernel
theorem dL_law_872 : decode cL_law 872 = .ok (.aload_n 0, 1) := by decide +kernel
theorem dL_law_873 : decode cL_law 873 = .ok (.iload_n 3, 1) := by decide +kernel
theorem dL_law_874 : decode cL_law 874 = .ok (.iconst 1, 1) := by decide +kernel
theorem dL_law_875 : decode cL_law 875 = .ok (.iadd, 1) := by decide +kernel
theorem dL_law_876 : decode cL_law 876 = .ok (.iaload, 1) := by decide +kernel
theorem dL_law_877 : decode cL_law 877 = .ok (.aload_n 0, 1) := by decide +kernel
theorem dL_law_878 : decode cL_law 878 = .ok (.iload_n 3, 1) := by decide +kernel
theorem dL_law_879 : decode cL_law 879 = .ok (.iconst 2, 1) := by decide +kernel
theorem dL_law_880 : decode cL_law 880 = .ok (.iadd, 1) := by decide +kernel
theorem dL_law_881 : decode cL_law 881 = .ok (.iaload, 1) := by decide +kernel
theorem dL_law_882 : decode cL_law 882 = .ok (.invokevirtual 116, 3) := by decide +kernel
theorem dL_law_885 : decode cL_law 885 = .ok (.if_icmp .eq 199, 3) := by decide +kernel
theorem dL_law_888 : decode cL_law 888 = .ok (.iconst 0, 1) := by decide +kernel
theorem dL_law_889 : decode cL_law 889 = .ok (.ireturn, 1) := by decide +kernel
theorem dL_law_890 : decode cL_law 890 = .ok (.aload_n 1, 1) := by decide +kernel
theorem dL_law_891 : decode cL_law 891 = .ok (.aload_n 0, 1) := by decide +kernel
theorem dL_law_892 : decode cL_law 892 = .ok (.iload_n 3, 1) := by decide +kernel
theorem dL_law_893 : decode cL_law 893 = .ok (.iconst 1, 1) := by decide +kernel
theorem dL_law_894 : decode cL_law 894 = .ok (.iadd, 1) := by decide +kernel
theorem dL_law_895 : decode cL_law 895 = .ok (.iaload, 1) := by decide +kernel
theorem dL_law_896 : decode cL_law 896 = .ok (.invokevirtual 117, 3) := by decide +kernel
theorem dL_law_899 : decode cL_law 899 = .ok (.aload_n 2, 1) := by decide +kernel
theorem dL_law_900 : decode cL_law 900 = .ok (.aload_n 0, 1) := by decide +kernel
theorem dL_law_901 : decode cL_law 901 = .ok (.iload_n 3, 1) := by decide +kernel
theorem dL_law_902 : decode cL_law 902 = .ok (.iconst 1, 1) := by decide +kernel
theorem dL_law_903 : decode cL_law 903 = .ok (.iadd, 1) := by decide +kernel
theorem dL_law_904 : decode cL_law 904 = .ok (.iaload, 1) := by decide +kernel
theorem dL_law_905 : decode cL_law 905 = .ok (.invokevirtual 120, 3) := by decide +kernel
theorem dL_law_908 : decode cL_law 908 = .ok (.if_icmp .eq 176, 3) := by decide +kernel
theorem dL_law_911 : decode cL_law 911 = .ok (.iconst 0, 1) := by decide +kernel
theorem dL_law_912 : decode cL_law 912 = .ok (.ireturn, 1) := by decide +kernel
theorem dL_law_913 : decode cL_law 913 = .ok (.aload_n 1, 1) := by decide +kernel
theorem dL_law_914 : decode cL_law 914 = .ok (.aload_n 0, 1) := by decide +kernel
theorem dL_law_915 : decode cL_law 915 = .ok (.iload_n 3, 1) := by decide +kernel
theorem dL_law_916 : decode cL_law 916 = .ok (.iconst 1, 1) := by decide +kernel
theorem dL_law_917 : decode cL_law 917 = .ok (.iadd, 1) := by decide +kernel
theorem dL_law_918 : decode cL_law 918 = .ok (.iaload, 1) := by decide +kernel
theorem dL_law_919 : decode cL_law 919 = .ok (.invokevirtual 121, 3) := by decide +kernel
theorem dL_law_922 : decode cL_law 922 = .ok (.aload_n 2, 1) := by decide +kernel
theorem dL_law_923 : decode cL_law 923 = .ok (.aload_n 0, 1) := by decide +kernel
theorem dL_law_924 : decode cL_law 924 = .ok (.iload_n 3, 1) := by decide +kernel
theorem dL_law_925 : decode cL_law 925 = .ok (.iconst 1, 1) := by decide +kernel
theorem dL_law_926 : decode cL_law 926 = .ok (.iadd, 1) := by decide +kernel
theorem dL_law_927 : decode cL_law 927 = .ok (.iaload, 1) := by decide +kernel
theorem dL_law_928 : decode cL_law 928 = .ok (.invokevirtual 124, 3) := by decide +kernel
theorem dL_law_931 : decode cL_law 931 = .ok (.if_icmp .eq 153, 3) := by decide +kernel
theorem dL_law_934 : decode cL_law 934 = .ok (.iconst 0, 1) := by decide +kernel
theorem dL_law_935 : decode cL_law 935 = .ok (.ireturn, 1) := by decide +kernel
theorem dL_law_936 : decode cL_law 936 = .ok (.aload_n 1, 1) := by decide +kernel
theorem dL_law_937 : decode cL_law 937 = .ok (.aload_n 0, 1) := by decide +kernel
theorem dL_law_938 : decode cL_law 938 = .ok (.iload_n 3, 1) := by decide +kernel
theorem dL_law_939 : decode cL_law 939 = .ok (.iconst 1, 1) := by decide +kernel
theorem dL_law_940 : decode cL_law 940 = .ok (.iadd, 1) := by decide +kernel
theorem dL_law_941 : decode cL_law 941 = .ok (.iaload, 1) := by decide +kernel
theorem dL_law_942 : decode cL_law 942 = .ok (.invokevirtual 125, 3) := by decide +kernel
theorem dL_law_945 : decode cL_law 945 = .ok (.aload_n 2, 1) := by decide +kernel
theorem dL_law_946 : decode cL_law 946 = .ok (.aload_n 0, 1) := by decide +kernel
theorem dL_law_947 : decode cL_law 947 = .ok (.iload_n 3, 1) := by decide +kernel
theorem dL_law_948 : decode cL_law 948 = .ok (.iconst 1, 1) := by decide +kernel
theorem dL_law_949 : decode cL_law 949 = .ok (.iadd, 1) := by decide +kernel
theorem dL_law_950 : decode cL_law 950 = .ok (.iaload, 1) := by decide +kernel
theorem dL_law_951 : decode cL_law 951 = .ok (.invokevirtual 128, 3) := by decide +kernel
theorem dL_law_954 : decode cL_law 954 = .ok (.if_icmp .eq 130, 3) := by decide +kernel
theorem dL_law_957 : decode cL_law 957 = .ok (.iconst 0, 1) := by decide +kernel
theorem dL_law_958 : decode cL_law 958 = .ok (.ireturn, 1) := by decide +kernel
theorem dL_law_959 : decode cL_law 959 = .ok (.aload_n 1, 1) := by decide +kernel
theorem dL_law_960 : decode cL_law 960 = .ok (.aload_n 0, 1) := by decide +kernel
theorem dL_law_961 : decode cL_law 961 = .ok (.iload_n 3, 1) := by decide +kernel
theorem dL_law_962 : decode cL_law 962 = .ok (.iconst 1, 1) := by decide +kernel
theorem dL_law_963 : decode cL_law 963 = .ok (.iadd, 1) := by decide +kernel
theorem dL_law_964 : decode cL_law 964 = .ok (.iaload, 1) := by decide +kernel
theorem dL_law_965 : decode cL_law 965 = .ok (.aload_n 0, 1) := by decide +kernel
theorem dL_law_966 : decode cL_law 966 = .ok (.iload_n 3, 1) := by decide +kernel
theorem dL_law_967 : decode cL_law 967 = .ok (.iconst 2, 1) := by decide +kernel
theorem dL_law_968 : decode cL_law 968 = .ok (.iadd, 1) := by decide +kernel
theorem dL_law_969 : decode cL_law 969 = .ok (.iaload, 1) := by decide +kernel
theorem dL_law_970 : decode cL_law 970 = .ok (.invokevirtual 129, 3) := by decide +kernel
theorem dL_law_973 : decode cL_law 973 = .ok (.aload_n 2, 1) := by decide +kernel
theorem dL_law_974 : decode cL_law 974 = .ok (.aload_n 0, 1) := by decide +kernel
theorem dL_law_975 : decode cL_law 975 = .ok (.iload_n 3, 1) := by decide +kernel
theorem dL_law_976 : decode cL_law 976 = .ok (.iconst 1, 1) := by decide +kernel
theorem dL_law_977 : decode cL_law 977 = .ok (.iadd, 1) := by decide +kernel
theorem dL_law_978 : decode cL_law 978 = .ok (.iaload, 1) := by decide +kernel
theorem dL_law_979 : decode cL_law 979 = .ok (.aload_n 0, 1) := by decide +kernel
theorem dL_law_980 : decode cL_law 980 = .ok (.iload_n 3, 1) := by decide +kernel
theorem dL_law_981 : decode cL_law 981 = .ok (.iconst 2, 1) := by decide +kernel
theorem dL_law_982 : decode cL_law 982 = .ok (.iadd, 1) := by decide +kernel
theorem dL_law_983 : decode cL_law 983 = .ok (.iaload, 1) := by decide +kernel
theorem dL_law_984 : decode cL_law 984 = .ok (.invokevirtual 132, 3) := by decide +kernel
theorem dL_law_987 : decode cL_law 987 = .ok (.if_icmp .eq 97, 3) := by decide +kernel
theorem dL_law_990 : decode cL_law 990 = .ok (.iconst 0, 1) := by decide +kernel
theorem dL_law_991 : decode cL_law 991 = .ok (.ireturn, 1) := by decide +kernel
theorem dL_law_992 : decode cL_law 992 = .ok (.aload_n 1, 1) := by decide +kernel
theorem dL_law_993 : decode cL_law 993 = .ok (.aload_n 0, 1) := by decide +kernel
theorem dL_law_994 : decode cL_law 994 = .ok (.iload_n 3, 1) := by decide +kernel
theorem dL_law_995 : decode cL_law 995 = .ok (.iconst 1, 1) := by decide +kernel
theorem dL_law_996 : decode cL_law 996 = .ok (.iadd, 1) := by decide +kernel
theorem dL_law_997 : decode cL_law 997 = .ok (.iaload, 1) := by decide +kernel
theorem dL_law_998 : decode cL_law 998 = .ok (.invokevirtual 133, 3) := by decide +kernel
theorem dL_law_1001 : decode cL_law 1001 = .ok (.aload_n 2, 1) := by decide +kernel
theorem dL_law_1002 : decode cL_law 1002 = .ok (.aload_n 0, 1) := by decide +kernel
theorem dL_law_1003 : decode cL_law 1003 = .ok (.iload_n 3, 1) := by decide +kernel
theorem dL_law_1004 : decode cL_law 1004 = .ok (.iconst 1, 1) := by decide +kernel
theorem dL_law_1005 : decode cL_law 1005 = .ok (.iadd, 1) := by decide +kernel
theorem dL_law_1006 : decode cL_law 1006 = .ok (.iaload, 1) := by decide +kernel
theorem dL_law_1007 : decode cL_law 1007 = .ok (.invokevirtual 136, 3) := by decide +kernel
theorem dL_law_1010 : decode cL_law 1010 = .ok (.if_icmp .eq 74, 3) := by decide +kernel
theorem dL_law_1013 : decode cL_law 1013 = .ok (.iconst 0, 1) := by decide +kernel
theorem dL_law_1014 : decode cL_law 1014 = .ok (.ireturn, 1) := by decide +kernel
theorem dL_law_1015 : decode cL_law 1015 = .ok (.aload_n 1, 1) := by decide +kernel
theorem dL_law_1016 : decode cL_law 1016 = .ok (.invokevirtual 137, 3) := by decide +kernel
theorem dL_law_1019 : decode cL_law 1019 = .ok (.aload_n 2, 1) := by decide +kernel
theorem dL_law_1020 : decode cL_law 1020 = .ok (.invokevirtual 140, 3) := by decide +kernel
theorem dL_law_1023 : decode cL_law 1023 = .ok (.if_icmp .eq 61, 3) := by decide +kernel
theorem dL_law_1026 : decode cL_law 1026 = .ok (.iconst 0, 1) := by decide +kernel
theorem dL_law_1027 : decode cL_law 1027 = .ok (.ireturn, 1) := by decide +kernel
theorem dL_law_1028 : decode cL_law 1028 = .ok (.aload_n 1, 1) := by decide +kernel
theorem dL_law_1029 : decode cL_law 1029 = .ok (.aload_n 0, 1) := by decide +kernel
theorem dL_law_1030 : decode cL_law 1030 = .ok (.iload_n 3, 1) := by decide +kernel
theorem dL_law_1031 : decode cL_law 1031 = .ok (.iconst 1, 1) := by decide +kernel
theorem dL_law_1032 : decode cL_law 1032 = .ok (.iadd, 1) := by decide +kernel
theorem dL_law_1033 : decode cL_law 1033 = .ok (.iaload, 1) := by decide +kernel
theorem dL_law_1034 : decode cL_law 1034 = .ok (.invokevirtual 141, 3) := by decide +kernel
theorem dL_law_1037 : decode cL_law 1037 = .ok (.aload_n 2, 1) := by decide +kernel
theorem dL_law_1038 : decode cL_law 1038 = .ok (.aload_n 0, 1) := by decide +kernel
theorem dL_law_1039 : decode cL_law 1039 = .ok (.iload_n 3, 1) := by decide +kernel
theorem dL_law_1040 : decode cL_law 1040 = .ok (.iconst 1, 1) := by decide +kernel
theorem dL_law_1041 : decode cL_law 1041 = .ok (.iadd, 1) := by decide +kernel
theorem dL_law_1042 : decode cL_law 1042 = .ok (.iaload, 1) := by decide +kernel
theorem dL_law_1043 : decode cL_law 1043 = .ok (.invokevirtual 144, 3) := by decide +kernel
theorem dL_law_1046 : decode cL_law 1046 = .ok (.if_icmp .eq 38, 3) := by decide +kernel
theorem dL_law_1049 : decode cL_law 1049 = .ok (.iconst 0, 1) := by decide +kernel
theorem dL_law_1050 : decode cL_law 1050 = .ok (.ireturn, 1) := by decide +kernel
theorem dL_law_1051 : decode cL_law 1051 = .ok (.aload_n 1, 1) := by decide +kernel
theorem dL_law_1052 : decode cL_law 1052 = .ok (.aload_n 0, 1) := by decide +kernel
theorem dL_law_1053 : decode cL_law 1053 = .ok (.iload_n 3, 1) := by decide +kernel
theorem dL_law_1054 : decode cL_law 1054 = .ok (.iconst 1, 1) := by decide +kernel
theorem dL_law_1055 : decode cL_law 1055 = .ok (.iadd, 1) := by decide +kernel
theorem dL_law_1056 : decode cL_law 1056 = .ok (.iaload, 1) := by decide +kernel
theorem dL_law_1057 : decode cL_law 1057 = .ok (.aload_n 0, 1) := by decide +kernel
theorem dL_law_1058 : decode cL_law 1058 = .ok (.iload_n 3, 1) := by decide +kernel
theorem dL_law_1059 : decode cL_law 1059 = .ok (.iconst 2, 1) := by decide +kernel
theorem dL_law_1060 : decode cL_law 1060 = .ok (.iadd, 1) := by decide +kernel
theorem dL_law_1061 : decode cL_law 1061 = .ok (.iaload, 1) := by decide +kernel
theorem dL_law_1062 : decode cL_law 1062 = .ok (.invokevirtual 145, 3) := by decide +kernel
theorem dL_law_1065 : decode cL_law 1065 = .ok (.aload_n 2, 1) := by decide +kernel
theorem dL_law_1066 : decode cL_law 1066 = .ok (.aload_n 0, 1) := by decide +kernel
theorem dL_law_1067 : decode cL_law 1067 = .ok (.iload_n 3, 1) := by decide +kernel
theorem dL_law_1068 : decode cL_law 1068 = .ok (.iconst 1, 1) := by decide +kernel
theorem dL_law_1069 : decode cL_law 1069 = .ok (.iadd, 1) := by decide +kernel
theorem dL_law_1070 : decode cL_law 1070 = .ok (.iaload, 1) := by decide +kernel
theorem dL_law_1071 : decode cL_law 1071 = .ok (.aload_n 0, 1) := by decide +kernel
theorem dL_law_1072 : decode cL_law 1072 = .ok (.iload_n 3, 1) := by decide +kernel
theorem dL_law_1073 : decode cL_law 1073 = .ok (.iconst 2, 1) := by decide +kernel
theorem dL_law_1074 : decode cL_law 1074 = .ok (.iadd, 1) := by decide +kernel
theorem dL_law_1075 : decode cL_law 1075 = .ok (.iaload, 1) := by decide +kernel
theorem dL_law_1076 : decode cL_law 1076 = .ok (.invokevirtual 148, 3) := by decide +kernel
theorem dL_law_1079 : decode cL_law 1079 = .ok (.if_icmp .eq 5, 3) := by decide +kernel
theorem dL_law_1082 : decode cL_law 1082 = .ok (.iconst 0, 1) := by decide +kernel
theorem dL_law_1083 : decode cL_law 1083 = .ok (.ireturn, 1) := by decide +kernel
theorem dL_law_1084 : decode cL_law 1084 = .ok (.iinc 3 6, 3) := by decide +kernel
theorem dL_law_1087 : decode cL_law 1087 = .ok (.goto (-1069), 3) := by decide +kernel
theorem dL_law_1090 : decode cL_law 1090 = .ok (.iconst 1, 1) := by decide +kernel
theorem dL_law_1091 : decode cL_law 1091 = .ok (.ireturn, 1) := by decide +kernel
end
section
/-! THE ABSTRACT MEMORY: every object and array of the class and of the reference has a number (its place); M gives the ints that stand in it; what refers to what never changes. -/
abbrev MM : Type := Nat → Nat → Int32
def bz (b : Bool) : Int32 := if b = true then 1 else 0
def nz (x : Int32) : Bool := !(x == 0)
def msf (M : MM) (a : Nat) (f : Nat → Int32) : MM := fun b => if b = a then f else M b
def ms (M : MM) (a i : Nat) (v : Int32) : MM := msf M a (upd (M a) i v)
/-- kind and length of the places of a State: 0 Channel, 1 History, 2 Lines, 3 Profile, 4 State, 5 Text, 6 ShakerSweep, 7 the reference; 8 ints, 9 booleans, 10 channels, 11 states -/
def stK (o : Nat) : Nat × Nat := match o with
  | 0 => (4, 0)
  | 1 => (2, 0)
  | 2 => (8, 100)
  | 3 => (3, 0)
  | 4 => (8, 8)
  | 5 => (8, 8)
  | 6 => (10, 6)
  | 7 => (8, 6)
  | 8 => (8, 100)
  | 9 => (8, 100)
  | 10 => (8, 100)
  | o => match (o - 11) % 9 with
    | 0 => (0, 0)
    | 1 => (8, 3)
    | 2 => (8, 3)
    | 3 => (8, 3)
    | 4 => (8, 4)
    | 5 => (8, 4)
    | 6 => (8, 4)
    | _ => (8, 100)
def kd (k : Nat) : Nat × Nat := if k < 650 then stK (k % 65) else match k - 650 with
  | 0 => (6, 0)
  | 1 => (1, 0)
  | 2 => (11, 6)
  | 3 => (11, 2)
  | 4 => (9, 2)
  | 5 => (5, 0)
  | 6 => (8, 80)
  | 7 => (7, 0)
  | 8 => (8, 16272)
  | 9 => (9, 2)
  | 10 => (8, 80)
  | 11 => (8, 6)
  | _ => (12, 0)
def fsC (ad : Nat → Nat) (k : Nat) (r : Nat → Int32) : List Value := [.int (bz (nz (r 0))), .int (r 1), .int (r 2), .ref (ad (k + 1)), .ref (ad (k + 2)), .ref (ad (k + 3)), .ref (ad (k + 4)), .ref (ad (k + 5)), .ref (ad (k + 6)), .int (r 9), .ref (ad (k + 7)), .ref (ad (k + 8)), .int (r 12), .int (r 13), .int (r 14), .int (r 15), .int (r 16), .int (r 17)]
def fsH (ad : Nat → Nat) (k : Nat) (r : Nat → Int32) : List Value := [.ref (ad (k + 1)), .int (r 1), .int (r 2)]
def fsL (ad : Nat → Nat) (k : Nat) (r : Nat → Int32) : List Value := [.ref (ad (k + 1)), .int (r 1)]
def fsP (ad : Nat → Nat) (k : Nat) (r : Nat → Int32) : List Value := [.ref (ad (k + 1)), .ref (ad (k + 2)), .int (r 2)]
def fsS (ad : Nat → Nat) (k : Nat) (r : Nat → Int32) : List Value := [.ref (ad (k + 1)), .ref (ad (k + 3)), .ref (ad (k + 6)), .int (r 3), .ref (ad (k + 7)), .ref (ad (k + 8)), .ref (ad (k + 9)), .ref (ad (k + 10)), .int (r 8), .int (r 9), .int (r 10), .int (bz (nz (r 11))), .int (r 12), .int (r 13), .int (r 14), .int (r 15), .int (r 16)]
def fsT (ad : Nat → Nat) (k : Nat) (r : Nat → Int32) : List Value := [.ref (ad (k + 1)), .int (r 1), .int (r 2), .int (r 3), .int (r 4), .int (r 5), .int (r 6)]
def fsX (ad : Nat → Nat) : List Value := [.ref (ad 0), .ref (ad 65), .ref (ad 651), .ref (ad 653), .ref (ad 654), .ref (ad 655)]
def fsM (ad : Nat → Nat) (k : Nat) (r : Nat → Int32) : List Value := [.ref (ad (k + 1)), .int (r 1), .ref (ad (k + 2)), .ref (ad (k + 3)), .int (r 4), .ref (ad (k + 4)), .int (r 6), .int (r 7)]
def bzr (r : Nat → Int32) : Nat → Int32 := fun j => bz (nz (r j))
def chA (ad : Nat → Nat) (k : Nat) : Nat → Option Nat := fun j => some (ad (k + 5 + 9 * j))
def stA (ad : Nat → Nat) (k : Nat) : Nat → Option Nat := fun j => some (ad (if k = 652 then 260 + 65 * j else 130 + 65 * j))
def cellF (dA : Nat → ClassId) (ad : Nat → Nat) (k : Nat) (r : Nat → Int32) : va_E := match (kd k).1 with
  | 0 => .inr (0, fsC ad k r)
  | 1 => .inr (1, fsH ad k r)
  | 2 => .inr (2, fsL ad k r)
  | 3 => .inr (3, fsP ad k r)
  | 4 => .inr (4, fsS ad k r)
  | 5 => .inr (5, fsT ad k r)
  | 6 => .inr (6, fsX ad)
  | 7 => .inr (7, fsM ad k r)
  | 8 => .inl (dA 0, (kd k).2, .inl r)
  | 9 => .inl (dA 1, (kd k).2, .inl (bzr r))
  | 10 => .inl (dA 2, (kd k).2, .inr (.inr (.inr (.inr (chA ad k)))))
  | _ => .inl (dA 3, (kd k).2, .inr (.inr (.inr (.inr (stA ad k)))))
def wl (dA : Nat → ClassId) (ad : Nat → Nat) (lo n : Nat) (M : MM) : va_W := (List.range n).map (fun i => (ad (lo + i), cellF dA ad (lo + i) (M (lo + i))))
def tysA (dA : Nat → ClassId) : List (ClassId × FieldType) := [(dA 0, .int), (dA 1, .boolean), (dA 2, .object "ShakerSweep$Channel"), (dA 3, .object "ShakerSweep$State")]
/-- what a reference is known to be -/
def tO (lo n c w a : Nat) : Prop := lo ≤ a ∧ a + w ≤ lo + n ∧ (kd a).1 = c
abbrev tCh (lo n a : Nat) : Prop := tO lo n 0 9 a
abbrev tLn (lo n a : Nat) : Prop := tO lo n 2 2 a
abbrev tPf (lo n a : Nat) : Prop := tO lo n 3 3 a
abbrev tSt (lo n a : Nat) : Prop := tO lo n 4 65 a
abbrev tTx (lo n a : Nat) : Prop := tO lo n 5 2 a
abbrev tHi (lo n a : Nat) : Prop := tO lo n 1 2 a ∧ a = 651 ∧ lo = 0
abbrev tSS (lo n a : Nat) : Prop := tO lo n 6 7 a ∧ a = 650 ∧ lo = 0
abbrev tMo (lo n a : Nat) : Prop := tO lo n 7 5 a
def tIA (lo n L a : Nat) : Prop := lo ≤ a ∧ a + 1 ≤ lo + n ∧ kd a = (8, L)
def tZA (lo n L a : Nat) : Prop := lo ≤ a ∧ a + 1 ≤ lo + n ∧ kd a = (9, L)
def tCA (lo n a : Nat) : Prop := lo ≤ a ∧ a + 59 ≤ lo + n ∧ kd a = (10, 6)
def tSA (lo n L a : Nat) : Prop := lo ≤ a ∧ a + 1 ≤ lo + n ∧ kd a = (11, L) ∧ lo = 0 ∧ 650 ≤ n
theorem kd_st {a : Nat} (h : (kd a).1 = 4) : kd (a + 1) = (2, 0) ∧ kd (a + 3) = (3, 0) ∧ kd (a + 6) = (10, 6) ∧ kd (a + 7) = (8, 6) ∧ kd (a + 8) = (8, 100) ∧ kd (a + 9) = (8, 100) ∧ kd (a + 10) = (8, 100) := by
  have key : ∀ a, a < 700 → (kd a).1 = 4 → kd (a + 1) = (2, 0) ∧ kd (a + 3) = (3, 0) ∧ kd (a + 6) = (10, 6) ∧ kd (a + 7) = (8, 6) ∧ kd (a + 8) = (8, 100) ∧ kd (a + 9) = (8, 100) ∧ kd (a + 10) = (8, 100) := by decide +kernel
  rcases Nat.lt_or_ge a 700 with q | q
  · exact key a q h
  · exfalso
    obtain ⟨d, rfl⟩ := Nat.exists_eq_add_of_le q
    simp only [kd, show ¬ (700 + d < 650) by omega, if_false, show 700 + d - 650 = d + 50 by omega] at h
    revert h; simp
theorem kd_big (d : Nat) : kd (700 + d) = (12, 0) := by
  simp only [kd, show ¬ (700 + d < 650) by omega, if_false, show 700 + d - 650 = d + 50 by omega]
theorem kd_lt {a c : Nat} (h : (kd a).1 = c) (hc : c ≠ 12) : a < 700 := by
  rcases Nat.lt_or_ge a 700 with q | q
  · exact q
  · obtain ⟨d, rfl⟩ := Nat.exists_eq_add_of_le q
    rw [kd_big] at h
    exact absurd h.symm hc
theorem kd_all {P : Nat → Prop} {c : Nat} (hc : c ≠ 12) (key : ∀ a, a < 700 → (kd a).1 = c → P a) : ∀ a, (kd a).1 = c → P a := fun a h => key a (kd_lt h hc) h
theorem kd_0j : ∀ a, (kd a).1 = 0 → ∀ j, j < 9 → kd (a + j) = stK (11 + j) := kd_all (by decide) (by decide +kernel)
theorem kd_0 (a : Nat) (h : (kd a).1 = 0) : kd (a + 1) = (8, 3) ∧ kd (a + 2) = (8, 3) ∧ kd (a + 3) = (8, 3) ∧ kd (a + 4) = (8, 4) ∧ kd (a + 5) = (8, 4) ∧ kd (a + 6) = (8, 4) ∧ kd (a + 7) = (8, 100) ∧ kd (a + 8) = (8, 100) := ⟨kd_0j a h 1 (by omega), kd_0j a h 2 (by omega), kd_0j a h 3 (by omega), kd_0j a h 4 (by omega), kd_0j a h 5 (by omega), kd_0j a h 6 (by omega), kd_0j a h 7 (by omega), kd_0j a h 8 (by omega)⟩
theorem kd_2 : ∀ a, (kd a).1 = 2 → kd (a + 1) = (8, 100) := kd_all (by decide) (by decide +kernel)
theorem kd_3 : ∀ a, (kd a).1 = 3 → kd (a + 1) = (8, 8) ∧ kd (a + 2) = (8, 8) := kd_all (by decide) (by decide +kernel)
theorem kd_5 : ∀ a, (kd a).1 = 5 → kd (a + 1) = (8, 80) := kd_all (by decide) (by decide +kernel)
theorem kd_7 : ∀ a, (kd a).1 = 7 → kd (a + 1) = (8, 16272) ∧ kd (a + 2) = (9, 2) ∧ kd (a + 3) = (8, 80) ∧ kd (a + 4) = (8, 6) := kd_all (by decide) (by decide +kernel)
theorem kd_10 : ∀ a, (kd a).1 = 10 → ∀ j, j < 6 → kd (a + 5 + 9 * j) = (0, 0) := kd_all (by decide) (by decide +kernel)
theorem kd_11 : ∀ a, (kd a).1 = 11 → (a = 652 ∨ a = 653) := kd_all (by decide) (by decide +kernel)
theorem kd_sts : ∀ j, j < 10 → kd (65 * j) = (4, 0) := by decide +kernel
-- references out of references
theorem rC1 {lo n a : Nat} (h : tCh lo n a) : tIA lo n 3 (a + 1) := ⟨by have := h.1; omega, by have := h.2.1; omega, (kd_0 a h.2.2).1⟩
theorem rC2 {lo n a : Nat} (h : tCh lo n a) : tIA lo n 3 (a + 2) := ⟨by have := h.1; omega, by have := h.2.1; omega, (kd_0 a h.2.2).2.1⟩
theorem rC3 {lo n a : Nat} (h : tCh lo n a) : tIA lo n 3 (a + 3) := ⟨by have := h.1; omega, by have := h.2.1; omega, (kd_0 a h.2.2).2.2.1⟩
theorem rC4 {lo n a : Nat} (h : tCh lo n a) : tIA lo n 4 (a + 4) := ⟨by have := h.1; omega, by have := h.2.1; omega, (kd_0 a h.2.2).2.2.2.1⟩
theorem rC5 {lo n a : Nat} (h : tCh lo n a) : tIA lo n 4 (a + 5) := ⟨by have := h.1; omega, by have := h.2.1; omega, (kd_0 a h.2.2).2.2.2.2.1⟩
theorem rC6 {lo n a : Nat} (h : tCh lo n a) : tIA lo n 4 (a + 6) := ⟨by have := h.1; omega, by have := h.2.1; omega, (kd_0 a h.2.2).2.2.2.2.2.1⟩
theorem rC7 {lo n a : Nat} (h : tCh lo n a) : tIA lo n 100 (a + 7) := ⟨by have := h.1; omega, by have := h.2.1; omega, (kd_0 a h.2.2).2.2.2.2.2.2.1⟩
theorem rC8 {lo n a : Nat} (h : tCh lo n a) : tIA lo n 100 (a + 8) := ⟨by have := h.1; omega, by have := h.2.1; omega, (kd_0 a h.2.2).2.2.2.2.2.2.2⟩
theorem rL1 {lo n a : Nat} (h : tLn lo n a) : tIA lo n 100 (a + 1) := ⟨by have := h.1; omega, by have := h.2.1; omega, kd_2 a h.2.2⟩
theorem rP1 {lo n a : Nat} (h : tPf lo n a) : tIA lo n 8 (a + 1) := ⟨by have := h.1; omega, by have := h.2.1; omega, (kd_3 a h.2.2).1⟩
theorem rP2 {lo n a : Nat} (h : tPf lo n a) : tIA lo n 8 (a + 2) := ⟨by have := h.1; omega, by have := h.2.1; omega, (kd_3 a h.2.2).2⟩
theorem rT1 {lo n a : Nat} (h : tTx lo n a) : tIA lo n 80 (a + 1) := ⟨by have := h.1; omega, by have := h.2.1; omega, kd_5 a h.2.2⟩
theorem rS1 {lo n a : Nat} (h : tSt lo n a) : tLn lo n (a + 1) := ⟨by have := h.1; omega, by have := h.2.1; omega, by rw [(kd_st h.2.2).1]⟩
theorem rS3 {lo n a : Nat} (h : tSt lo n a) : tPf lo n (a + 3) := ⟨by have := h.1; omega, by have := h.2.1; omega, by rw [(kd_st h.2.2).2.1]⟩
theorem rS6 {lo n a : Nat} (h : tSt lo n a) : tCA lo n (a + 6) := ⟨by have := h.1; omega, by have := h.2.1; omega, (kd_st h.2.2).2.2.1⟩
theorem rS7 {lo n a : Nat} (h : tSt lo n a) : tIA lo n 6 (a + 7) := ⟨by have := h.1; omega, by have := h.2.1; omega, (kd_st h.2.2).2.2.2.1⟩
theorem rS8 {lo n a : Nat} (h : tSt lo n a) : tIA lo n 100 (a + 8) := ⟨by have := h.1; omega, by have := h.2.1; omega, (kd_st h.2.2).2.2.2.2.1⟩
theorem rS9 {lo n a : Nat} (h : tSt lo n a) : tIA lo n 100 (a + 9) := ⟨by have := h.1; omega, by have := h.2.1; omega, (kd_st h.2.2).2.2.2.2.2.1⟩
theorem rS10 {lo n a : Nat} (h : tSt lo n a) : tIA lo n 100 (a + 10) := ⟨by have := h.1; omega, by have := h.2.1; omega, (kd_st h.2.2).2.2.2.2.2.2⟩
theorem rCA {lo n a j : Nat} (h : tCA lo n a) (hj : j < 6) : tCh lo n (a + 5 + 9 * j) := ⟨by have := h.1; omega, by have := h.2.1; omega, by rw [kd_10 a (by rw [h.2.2]) j hj]⟩
theorem rM1 {lo n a : Nat} (h : tMo lo n a) : tIA lo n 16272 (a + 1) := ⟨by have := h.1; omega, by have := h.2.1; omega, (kd_7 a h.2.2).1⟩
theorem rM2 {lo n a : Nat} (h : tMo lo n a) : tZA lo n 2 (a + 2) := ⟨by have := h.1; omega, by have := h.2.1; omega, (kd_7 a h.2.2).2.1⟩
theorem rM3 {lo n a : Nat} (h : tMo lo n a) : tIA lo n 80 (a + 3) := ⟨by have := h.1; omega, by have := h.2.1; omega, (kd_7 a h.2.2).2.2.1⟩
theorem rM4 {lo n a : Nat} (h : tMo lo n a) : tIA lo n 6 (a + 4) := ⟨by have := h.1; omega, by have := h.2.1; omega, (kd_7 a h.2.2).2.2.2⟩
theorem rSA {lo n a j L : Nat} (h : tSA lo n L a) (hj : j < L) : tSt lo n (if a = 652 then 260 + 65 * j else 130 + 65 * j) := by
  obtain ⟨h1, h2, h3, h4, h5⟩ := h
  rcases kd_11 a (by rw [h3]) with rfl | rfl
  · have hL : L = 6 := by have := (Prod.mk.inj (h3.symm.trans (by decide +kernel : kd 652 = (11, 6)))).2; omega
    refine ⟨by omega, by simp; omega, ?_⟩
    rw [if_pos rfl, show 260 + 65 * j = 65 * (4 + j) by omega, kd_sts (4 + j) (by omega)]
  · have hL : L = 2 := by have := (Prod.mk.inj (h3.symm.trans (by decide +kernel : kd 653 = (11, 2)))).2; omega
    refine ⟨by omega, by simp; omega, ?_⟩
    rw [if_neg (by decide), show 130 + 65 * j = 65 * (2 + j) by omega, kd_sts (2 + j) (by omega)]
theorem rX0 {lo n a : Nat} (h : tSS lo n a) : tSt lo n 0 := ⟨by have := h.2.2; omega, by have h1 := h.1.2.1; have h2 := h.2.1; omega, by decide +kernel⟩
theorem rX1 {lo n a : Nat} (h : tSS lo n a) : tSt lo n 65 := ⟨by have := h.2.2; omega, by have h1 := h.1.2.1; have h2 := h.2.1; omega, by decide +kernel⟩
theorem rX2 {lo n a : Nat} (h : tSS lo n a) : tHi lo n 651 := ⟨⟨by have := h.2.2; omega, by have h1 := h.1.2.1; have h2 := h.2.1; omega, by decide +kernel⟩, rfl, h.2.2⟩
theorem rX3 {lo n a : Nat} (h : tSS lo n a) : tSA lo n 2 653 := ⟨by have := h.2.2; omega, by have h1 := h.1.2.1; have h2 := h.2.1; omega, by decide +kernel, h.2.2, by have h1 := h.1.2.1; have h2 := h.2.1; have h3 := h.2.2; omega⟩
theorem rX4 {lo n a : Nat} (h : tSS lo n a) : tZA lo n 2 654 := ⟨by have := h.2.2; omega, by have h1 := h.1.2.1; have h2 := h.2.1; omega, by decide +kernel⟩
theorem rX5 {lo n a : Nat} (h : tSS lo n a) : tTx lo n 655 := ⟨by have := h.2.2; omega, by have h1 := h.1.2.1; have h2 := h.2.1; omega, by decide +kernel⟩
theorem rH1 {lo n a : Nat} (h : tHi lo n a) : tSA lo n 6 (a + 1) := by
  obtain ⟨h1, h2, h3⟩ := h
  subst h2
  exact ⟨by omega, by have := h1.2.1; omega, by decide +kernel, h3, by have := h1.2.1; omega⟩
-- cells
theorem cC {lo n a : Nat} (h : tCh lo n a) (dA : Nat → ClassId) (ad : Nat → Nat) (r : Nat → Int32) : cellF dA ad a r = .inr (0, fsC ad a r) := by unfold cellF; rw [h.2.2]; rfl
theorem cH {lo n a : Nat} (h : tHi lo n a) (dA : Nat → ClassId) (ad : Nat → Nat) (r : Nat → Int32) : cellF dA ad a r = .inr (1, fsH ad a r) := by unfold cellF; rw [h.1.2.2]; rfl
theorem cL {lo n a : Nat} (h : tLn lo n a) (dA : Nat → ClassId) (ad : Nat → Nat) (r : Nat → Int32) : cellF dA ad a r = .inr (2, fsL ad a r) := by unfold cellF; rw [h.2.2]; rfl
theorem cP {lo n a : Nat} (h : tPf lo n a) (dA : Nat → ClassId) (ad : Nat → Nat) (r : Nat → Int32) : cellF dA ad a r = .inr (3, fsP ad a r) := by unfold cellF; rw [h.2.2]; rfl
theorem cS {lo n a : Nat} (h : tSt lo n a) (dA : Nat → ClassId) (ad : Nat → Nat) (r : Nat → Int32) : cellF dA ad a r = .inr (4, fsS ad a r) := by unfold cellF; rw [h.2.2]; rfl
theorem cT {lo n a : Nat} (h : tTx lo n a) (dA : Nat → ClassId) (ad : Nat → Nat) (r : Nat → Int32) : cellF dA ad a r = .inr (5, fsT ad a r) := by unfold cellF; rw [h.2.2]; rfl
theorem cX {lo n a : Nat} (h : tSS lo n a) (dA : Nat → ClassId) (ad : Nat → Nat) (r : Nat → Int32) : cellF dA ad a r = .inr (6, fsX ad) := by unfold cellF; rw [h.1.2.2]; rfl
theorem cM {lo n a : Nat} (h : tMo lo n a) (dA : Nat → ClassId) (ad : Nat → Nat) (r : Nat → Int32) : cellF dA ad a r = .inr (7, fsM ad a r) := by unfold cellF; rw [h.2.2]; rfl
theorem cI {lo n L a : Nat} (h : tIA lo n L a) (dA : Nat → ClassId) (ad : Nat → Nat) (r : Nat → Int32) : cellF dA ad a r = .inl (dA 0, L, .inl r) := by unfold cellF; rw [h.2.2]; rfl
theorem cZ {lo n L a : Nat} (h : tZA lo n L a) (dA : Nat → ClassId) (ad : Nat → Nat) (r : Nat → Int32) : cellF dA ad a r = .inl (dA 1, L, .inl (bzr r)) := by unfold cellF; rw [h.2.2]; rfl
theorem cCA {lo n a : Nat} (h : tCA lo n a) (dA : Nat → ClassId) (ad : Nat → Nat) (r : Nat → Int32) : cellF dA ad a r = .inl (dA 2, 6, .inr (.inr (.inr (.inr (chA ad a))))) := by unfold cellF; rw [h.2.2]; rfl
theorem cSA {lo n L a : Nat} (h : tSA lo n L a) (dA : Nat → ClassId) (ad : Nat → Nat) (r : Nat → Int32) : cellF dA ad a r = .inl (dA 3, L, .inr (.inr (.inr (.inr (stA ad a))))) := by unfold cellF; rw [h.2.2.1]; rfl
theorem wl_at {dA : Nat → ClassId} {ad : Nat → Nat} {lo n a w : Nat} {M : MM} (h1 : lo ≤ a) (h2 : a + (w + 1) ≤ lo + n) {E : va_E} (h : cellF dA ad a (M a) = E) : (wl dA ad lo n M)[a - lo]? = some (ad a, E) := by
  have h3 : a - lo < n := by omega
  simp only [wl, List.getElem?_map, List.getElem?_range h3, Option.map_some, show lo + (a - lo) = a by omega, h]
theorem wl_set {dA : Nat → ClassId} {ad : Nat → Nat} {lo n a w : Nat} {M : MM} {f : Nat → Int32} (h1 : lo ≤ a) (h2 : a + (w + 1) ≤ lo + n) {E : va_E} (h : cellF dA ad a f = E) : (wl dA ad lo n M).set (a - lo) (ad a, E) = wl dA ad lo n (msf M a f) := by
  apply List.ext_getElem?
  intro k
  have hl : (wl dA ad lo n M).length = n := by simp [wl]
  by_cases hk : k = a - lo
  · subst hk
    rw [List.getElem?_set_self (by rw [hl]; omega)]
    rw [wl_at (w := w) (M := msf M a f) h1 h2 (E := E) (by rw [← h]; simp [msf])]
  · rw [List.getElem?_set_ne (Ne.symm hk)]
    simp only [wl, List.getElem?_map]
    rcases Nat.lt_or_ge k n with q | q
    · simp only [List.getElem?_range q, Option.map_some]
      have : lo + k ≠ a := by omega
      simp [msf, this]
    · simp [List.getElem?_eq_none, q]
theorem wl_addr {dA : Nat → ClassId} {ad : Nat → Nat} {lo n : Nat} {M M' : MM} {q : Nat} (h : ∃ (k : Nat) (E : va_E), (wl dA ad lo n M)[k]? = some (q, E)) : ∃ (k : Nat) (E : va_E), (wl dA ad lo n M')[k]? = some (q, E) := by
  obtain ⟨k, E, h⟩ := h
  have hk : k < n := by
    have := (List.getElem?_eq_some_iff.mp h).1
    simpa [wl] using this
  refine ⟨k, cellF dA ad (lo + k) (M' (lo + k)), ?_⟩
  simp only [wl, List.getElem?_map, List.getElem?_range hk, Option.map_some] at h ⊢
  injection h with h
  injection h with h3 h4
  rw [h3]
theorem wl_A {dA : Nat → ClassId} {ad : Nat → Nat} {lo n sz : Nat} (M M' : MM) : va_A (wl dA ad lo n M) sz = va_A (wl dA ad lo n M') sz := by
  funext q
  apply propext
  exact ⟨fun h => h.elim (fun h => Or.inl (wl_addr h)) Or.inr, fun h => h.elim (fun h => Or.inl (wl_addr h)) Or.inr⟩
theorem wl_D {dA : Nat → ClassId} {ad : Nat → Nat} {lo n : Nat} {A : Nat → Prop} {M : MM} (h : va_D A (wl dA ad lo n M)) (M' : MM) : va_D A (wl dA ad lo n M') := by
  have key : ∀ (i : Nat) (p : Nat × va_E), (wl dA ad lo n M')[i]? = some p → ∃ E, (wl dA ad lo n M)[i]? = some (p.1, E) := by
    intro i p hi
    have hk : i < n := by
      have := (List.getElem?_eq_some_iff.mp hi).1
      simpa [wl] using this
    refine ⟨cellF dA ad (lo + i) (M (lo + i)), ?_⟩
    simp only [wl, List.getElem?_map, List.getElem?_range hk, Option.map_some] at hi ⊢
    injection hi with hi
    rw [← hi]
  refine ⟨fun i j p q hi hj e => ?_, fun k q hk => ?_⟩
  · obtain ⟨E1, h1⟩ := key i p hi
    obtain ⟨E2, h2⟩ := key j q hj
    exact h.1 i j _ _ h1 h2 e
  · obtain ⟨E1, h1⟩ := key k q hk
    exact h.2 k (q.1, E1) h1
end
section
/-! THE ABSTRACT MACHINE: AW says of a frame over the abstract memory what W says of a frame over a heap; a rule an instruction. -/
def cv (ad : Nat → Nat) (v : Value) : Value := match v with
  | .ref a => .ref (ad a)
  | v => v
theorem cv_cat (ad : Nat → Nat) (v : Value) : (cv ad v).category = v.category := by cases v <;> rfl
def cvl (ad : Nat → Nat) (ls : List (Nat × Value)) : List (Nat × Value) := ls.map (fun q => (q.1, cv ad q.2))
def sLE (j : Nat) : Int32 := [0, 1, 1, 1, 10, 1].getD j 0
def sGR (j : Nat) : Int32 := [2, 8, 5, 100, 90, 9].getD j 0
def sAF (j : Nat) : Int32 := [0, 1, 1, 25, 50, 1].getD j 0
def SF1 (f : String) (v : Nat → Int32) (t : Nat) (A : Nat → Prop) (U : State) (H : Heap) : Prop := va_Z "ShakerSweep" f "[I" (.ref t) A U H ∧ va_T .int t 6 (fun j => .int (v j)) A U H
def SF (ad : Nat → Nat) (A : Nat → Prop) (U : State) (H : Heap) : Prop := SF1 "SETTING_LEAST" sLE (ad 1000) A U H ∧ SF1 "SETTING_GREATEST" sGR (ad 1001) A U H ∧ SF1 "SETTING_AT_FIRST" sAF (ad 1002) A U H
theorem SF1.step {f : String} {v : Nat → Int32} {t : Nat} {A B : Nat → Prop} {u U : State} {H H1 : Heap} (h : SF1 f v t A u H) (hvm : u.vm.Alike U.vm) (hq : ∀ a : Nat, a < H.size → ¬ A a → H1[a]? = H[a]?) (hAB : ∀ q, B q → A q) : SF1 f v t B U H1 := by
  obtain ⟨hZ, hT⟩ := h
  exact ⟨((hZ.moved hvm).kept hq).narrow hAB, ((hT.moved hvm).kept hq).narrow hAB⟩
theorem SF.step {ad : Nat → Nat} {A B : Nat → Prop} {u U : State} {H H1 : Heap} (h : SF ad A u H) (hvm : u.vm.Alike U.vm) (hq : ∀ a : Nat, a < H.size → ¬ A a → H1[a]? = H[a]?) (hAB : ∀ q, B q → A q) : SF ad B U H1 := ⟨h.1.step hvm hq hAB, h.2.1.step hvm hq hAB, h.2.2.step hvm hq hAB⟩
def CX (p : Program) (s : State) (m : MethodId) (args : Array Value) (meth : Method) (c : Code) (cc : ByteArray) (nL : Nat) (own : String) (D : va_G) (dA : Nat → ClassId) (ad : Nat → Nat) (lo n : Nat) (A : Nat → Prop) : Prop :=
  p.tables.exec = Jvm.exec ∧ c.code = cc ∧ c.maxLocals = nL ∧ s.vm.findClass own = some m.cls ∧ (∀ w ∈ tblA, w.before args s = true) ∧ meth.locks = false ∧ va_K D vwCl (tysA dA) s ∧ (∀ M, va_D A (wl dA ad lo n M)) ∧ (∀ q, s.heap.size ≤ q → A q) ∧ SF ad A s s.heap
def AW (p : Program) (l : Launch) (e : Env) (R : Room) (s : State) (m : MethodId) (args : Array Value) (below : List Frame) (meth : Method) (c : Code) (D : va_G) (dA : Nat → ClassId) (ad : Nat → Nat) (lo n nL : Nat) (A : Nat → Prop) (kc ks : Nat) (Q : State → Prop) (pc : Nat) (ls : List (Nat × Value)) (st : List Value) (M : MM) : Prop :=
  ∀ (H : Heap) (locs : List Loc) (la : Array Slot), va_P D vwCl (wl dA ad lo n M) H → va_S A s.heap H locs → lv_has la nL (cvl ad ls) → W p l e R s m args below meth c H locs kc ks Q (F0 m pc la (st.map (cv ad)))
theorem cvl_at {ad : Nat → Nat} {ls : List (Nat × Value)} {k i : Nat} {v : Value} (h : ls[k]? = some (i, v)) : (cvl ad ls)[k]? = some (i, cv ad v) := by
  simp [cvl, List.getElem?_map, h]
theorem cvl_st1 {ad : Nat → Nat} {ls ls' : List (Nat × Value)} {i : Nat} {v : Value} (h : (i, v) :: ls.filter (fun q => !(q.1 == i) && !(q.1 + 1 == i && q.2.category == 2)) = ls') : (i, cv ad v) :: (cvl ad ls).filter (fun q => !(q.1 == i) && !(q.1 + 1 == i && q.2.category == 2)) = cvl ad ls' := by
  rw [← h]
  simp only [cvl, List.map_cons, List.filter_map]
  congr 2
  apply List.filter_congr
  intro q _
  simp [cv_cat]
theorem cvl_st2 {ad : Nat → Nat} {ls ls' : List (Nat × Value)} {i : Nat} {v : Value} (h : (i, v) :: ls.filter (fun q => !(q.1 == i) && (!(q.1 == i + 1) && !(q.1 + 1 == i && q.2.category == 2))) = ls') : (i, cv ad v) :: (cvl ad ls).filter (fun q => !(q.1 == i) && (!(q.1 == i + 1) && !(q.1 + 1 == i && q.2.category == 2))) = cvl ad ls' := by
  rw [← h]
  simp only [cvl, List.map_cons, List.filter_map]
  congr 2
  apply List.filter_congr
  intro q _
  simp [cv_cat]
theorem cvl_sub {ad : Nat → Nat} {la : Array Slot} {nL : Nat} {ls ls' : List (Nat × Value)} (h : lv_has la nL (cvl ad ls)) (ks : List Nat) (hl : lv_pick ls ks = ls') : lv_has la nL (cvl ad ls') := by
  refine lv_sub h ks ?_
  rw [← hl]
  simp only [lv_pick, cvl, List.getElem?_map, List.map_filterMap]
theorem map_cat (ad : Nat → Nat) (st : List Value) : ((st.map (cv ad)).map fun v => v.category) = st.map fun v => v.category := by
  rw [List.map_map]
  apply List.map_congr_left
  intro v _
  exact cv_cat ad v
def lcp (x y : Int64) : Int32 := lg_cmp x y
section AWR
variable {p : Program} {l : Launch} {e : Env} {R : Room} {s : State} {m : MethodId} {args : Array Value} {below : List Frame} {meth : Method} {c : Code} {D : va_G} {dA : Nat → ClassId} {ad : Nat → Nat} {lo n nL : Nat} {A : Nat → Prop} {kc ks : Nat} {Q : State → Prop} {cc : ByteArray} {own : String}
variable {pc pc' : Nat} {ls ls' : List (Nat × Value)} {rest : List Value} {M : MM}
theorem AW.sub (pk0 : List Nat) (hl : lv_pick ls pk0 = ls') (k : AW p l e R s m args below meth c D dA ad lo n nL A kc ks Q pc ls' rest M) : AW p l e R s m args below meth c D dA ad lo n nL A kc ks Q pc ls rest M := fun H locs la hP hS h => k H locs la hP hS (cvl_sub h pk0 hl)
theorem AW.iconst {z : Int} {v : Int32} (X : CX p s m args meth c cc nL own D dA ad lo n A) (hv : Int32.ofInt z = v) (hd : decode cc pc = .ok (.iconst z, 1)) (hn : pc + 1 = pc') (k : AW p l e R s m args below meth c D dA ad lo n nL A kc ks Q pc' ls (.int v :: rest) M) : AW p l e R s m args below meth c D dA ad lo n nL A kc ks Q pc ls rest M := by
  subst hn
  intro H locs la hP hS h
  exact lv_iconst X.1 X.2.1 hd hv (k H locs la hP hS h)
theorem AW.bipush {z : Int} {v : Int32} (X : CX p s m args meth c cc nL own D dA ad lo n A) (hv : (Int8.ofInt z).toInt32 = v) (hd : decode cc pc = .ok (.bipush z, 2)) (hn : pc + 2 = pc') (k : AW p l e R s m args below meth c D dA ad lo n nL A kc ks Q pc' ls (.int v :: rest) M) : AW p l e R s m args below meth c D dA ad lo n nL A kc ks Q pc ls rest M := by
  subst hn
  intro H locs la hP hS h
  exact lv_bipush X.1 X.2.1 hd hv (k H locs la hP hS h)
theorem AW.sipush {z : Int} {v : Int32} (X : CX p s m args meth c cc nL own D dA ad lo n A) (hv : (Int16.ofInt z).toInt32 = v) (hd : decode cc pc = .ok (.sipush z, 3)) (hn : pc + 3 = pc') (k : AW p l e R s m args below meth c D dA ad lo n nL A kc ks Q pc' ls (.int v :: rest) M) : AW p l e R s m args below meth c D dA ad lo n nL A kc ks Q pc ls rest M := by
  subst hn
  intro H locs la hP hS h
  exact lv_sipush X.1 X.2.1 hd hv (k H locs la hP hS h)
theorem AW.lconst {z : Fin 2} {v : Int64} (X : CX p s m args meth c cc nL own D dA ad lo n A) (hv : Int64.ofNat (z : Nat) = v) (hd : decode cc pc = .ok (.lconst z, 1)) (hn : pc + 1 = pc') (k : AW p l e R s m args below meth c D dA ad lo n nL A kc ks Q pc' ls (.long v :: rest) M) : AW p l e R s m args below meth c D dA ad lo n nL A kc ks Q pc ls rest M := by
  subst hn
  intro H locs la hP hS h
  exact lv_lconst X.1 X.2.1 hd hv (k H locs la hP hS h)
theorem AW.ldc {ix : Nat} {v : Int32} (X : CX p s m args meth c cc nL own D dA ad lo n A) (hw : Jvm.Cond.constant own ix v ∈ tblA) (hd : decode cc pc = .ok (.ldc ix, 2)) (hn : pc + 2 = pc') (k : AW p l e R s m args below meth c D dA ad lo n nL A kc ks Q pc' ls (.int v :: rest) M) : AW p l e R s m args below meth c D dA ad lo n nL A kc ks Q pc ls rest M := by
  subst hn
  intro H locs la hP hS h
  exact lv_ldc X.1 X.2.1 X.2.2.2.1 (X.2.2.2.2.1 _ hw) hd (k H locs la hP hS h)
theorem AW.ldc2 {ix : Nat} {v : Int64} (X : CX p s m args meth c cc nL own D dA ad lo n A) (hw : Jvm.Cond.constantLong own ix v ∈ tblA) (hd : decode cc pc = .ok (.ldc2_w ix, 3)) (hn : pc + 3 = pc') (k : AW p l e R s m args below meth c D dA ad lo n nL A kc ks Q pc' ls (.long v :: rest) M) : AW p l e R s m args below meth c D dA ad lo n nL A kc ks Q pc ls rest M := by
  subst hn
  intro H locs la hP hS h
  exact lv_ldc2 X.1 X.2.1 X.2.2.2.1 (X.2.2.2.2.1 _ hw) hd (k H locs la hP hS h)
theorem AW.iload_n {f : Fin 4} {i k0 : Nat} {x : Int32} (X : CX p s m args meth c cc nL own D dA ad lo n A) (hi : (f : Nat) = i) (hl : ls[k0]? = some (i, .int x)) (hd : decode cc pc = .ok (.iload_n f, 1)) (hn : pc + 1 = pc') (k : AW p l e R s m args below meth c D dA ad lo n nL A kc ks Q pc' ls (.int x :: rest) M) : AW p l e R s m args below meth c D dA ad lo n nL A kc ks Q pc ls rest M := by
  subst hn
  intro H locs la hP hS h
  exact lv_iload_n X.1 X.2.1 hd hi (lv_at h k0 (cvl_at hl)) (k H locs la hP hS h)
theorem AW.iload {i k0 : Nat} {x : Int32} (X : CX p s m args meth c cc nL own D dA ad lo n A) (hl : ls[k0]? = some (i, .int x)) (hd : decode cc pc = .ok (.iload i, 2)) (hn : pc + 2 = pc') (k : AW p l e R s m args below meth c D dA ad lo n nL A kc ks Q pc' ls (.int x :: rest) M) : AW p l e R s m args below meth c D dA ad lo n nL A kc ks Q pc ls rest M := by
  subst hn
  intro H locs la hP hS h
  exact lv_iload X.1 X.2.1 hd (lv_at h k0 (cvl_at hl)) (k H locs la hP hS h)
theorem AW.lload_n {f : Fin 4} {i k0 : Nat} {x : Int64} (X : CX p s m args meth c cc nL own D dA ad lo n A) (hi : (f : Nat) = i) (hl : ls[k0]? = some (i, .long x)) (hd : decode cc pc = .ok (.lload_n f, 1)) (hn : pc + 1 = pc') (k : AW p l e R s m args below meth c D dA ad lo n nL A kc ks Q pc' ls (.long x :: rest) M) : AW p l e R s m args below meth c D dA ad lo n nL A kc ks Q pc ls rest M := by
  subst hn
  intro H locs la hP hS h
  exact lv_lload_n X.1 X.2.1 hd hi (lv_at h k0 (cvl_at hl)) (k H locs la hP hS h)
theorem AW.lload {i k0 : Nat} {x : Int64} (X : CX p s m args meth c cc nL own D dA ad lo n A) (hl : ls[k0]? = some (i, .long x)) (hd : decode cc pc = .ok (.lload i, 2)) (hn : pc + 2 = pc') (k : AW p l e R s m args below meth c D dA ad lo n nL A kc ks Q pc' ls (.long x :: rest) M) : AW p l e R s m args below meth c D dA ad lo n nL A kc ks Q pc ls rest M := by
  subst hn
  intro H locs la hP hS h
  exact lv_lload X.1 X.2.1 hd (lv_at h k0 (cvl_at hl)) (k H locs la hP hS h)
theorem AW.aload_n {f : Fin 4} {i k0 : Nat} {x : Nat} (X : CX p s m args meth c cc nL own D dA ad lo n A) (hi : (f : Nat) = i) (hl : ls[k0]? = some (i, .ref x)) (hd : decode cc pc = .ok (.aload_n f, 1)) (hn : pc + 1 = pc') (k : AW p l e R s m args below meth c D dA ad lo n nL A kc ks Q pc' ls (.ref x :: rest) M) : AW p l e R s m args below meth c D dA ad lo n nL A kc ks Q pc ls rest M := by
  subst hn
  intro H locs la hP hS h
  exact lv_aload_n X.1 X.2.1 hd hi (lv_at h k0 (cvl_at hl)) (k H locs la hP hS h)
theorem AW.aload {i k0 : Nat} {x : Nat} (X : CX p s m args meth c cc nL own D dA ad lo n A) (hl : ls[k0]? = some (i, .ref x)) (hd : decode cc pc = .ok (.aload i, 2)) (hn : pc + 2 = pc') (k : AW p l e R s m args below meth c D dA ad lo n nL A kc ks Q pc' ls (.ref x :: rest) M) : AW p l e R s m args below meth c D dA ad lo n nL A kc ks Q pc ls rest M := by
  subst hn
  intro H locs la hP hS h
  exact lv_aload X.1 X.2.1 hd (lv_at h k0 (cvl_at hl)) (k H locs la hP hS h)
theorem AW.istore_n {f : Fin 4} {i : Nat} {x : Int32} (X : CX p s m args meth c cc nL own D dA ad lo n A) (hi : (f : Nat) = i) (hlt : i < nL) (hl : (i, Value.int x) :: ls.filter (fun q => !(q.1 == i) && !(q.1 + 1 == i && q.2.category == 2)) = ls') (hd : decode cc pc = .ok (.istore_n f, 1)) (hn : pc + 1 = pc') (k : AW p l e R s m args below meth c D dA ad lo n nL A kc ks Q pc' ls' rest M) : AW p l e R s m args below meth c D dA ad lo n nL A kc ks Q pc ls (.int x :: rest) M := by
  subst hn
  intro H locs la hP hS h
  exact lv_istore_n X.1 X.2.1 hd hi h hlt (cvl_st1 (v := .int x) hl) (fun la h => (k H locs la hP hS h))
theorem AW.istore {i : Nat} {x : Int32} (X : CX p s m args meth c cc nL own D dA ad lo n A) (hlt : i < nL) (hl : (i, Value.int x) :: ls.filter (fun q => !(q.1 == i) && !(q.1 + 1 == i && q.2.category == 2)) = ls') (hd : decode cc pc = .ok (.istore i, 2)) (hn : pc + 2 = pc') (k : AW p l e R s m args below meth c D dA ad lo n nL A kc ks Q pc' ls' rest M) : AW p l e R s m args below meth c D dA ad lo n nL A kc ks Q pc ls (.int x :: rest) M := by
  subst hn
  intro H locs la hP hS h
  exact lv_istore X.1 X.2.1 hd h hlt (cvl_st1 (v := .int x) hl) (fun la h => (k H locs la hP hS h))
theorem AW.lstore_n {f : Fin 4} {i : Nat} {x : Int64} (X : CX p s m args meth c cc nL own D dA ad lo n A) (hi : (f : Nat) = i) (hlt : i + 1 < nL) (hl : (i, Value.long x) :: ls.filter (fun q => !(q.1 == i) && (!(q.1 == i + 1) && !(q.1 + 1 == i && q.2.category == 2))) = ls') (hd : decode cc pc = .ok (.lstore_n f, 1)) (hn : pc + 1 = pc') (k : AW p l e R s m args below meth c D dA ad lo n nL A kc ks Q pc' ls' rest M) : AW p l e R s m args below meth c D dA ad lo n nL A kc ks Q pc ls (.long x :: rest) M := by
  subst hn
  intro H locs la hP hS h
  exact lv_lstore_n X.1 X.2.1 hd hi h hlt (cvl_st2 (v := .long x) hl) (fun la h => (k H locs la hP hS h))
theorem AW.lstore {i : Nat} {x : Int64} (X : CX p s m args meth c cc nL own D dA ad lo n A) (hlt : i + 1 < nL) (hl : (i, Value.long x) :: ls.filter (fun q => !(q.1 == i) && (!(q.1 == i + 1) && !(q.1 + 1 == i && q.2.category == 2))) = ls') (hd : decode cc pc = .ok (.lstore i, 2)) (hn : pc + 2 = pc') (k : AW p l e R s m args below meth c D dA ad lo n nL A kc ks Q pc' ls' rest M) : AW p l e R s m args below meth c D dA ad lo n nL A kc ks Q pc ls (.long x :: rest) M := by
  subst hn
  intro H locs la hP hS h
  exact lv_lstore X.1 X.2.1 hd h hlt (cvl_st2 (v := .long x) hl) (fun la h => (k H locs la hP hS h))
theorem AW.astore_n {f : Fin 4} {i : Nat} {x : Nat} (X : CX p s m args meth c cc nL own D dA ad lo n A) (hi : (f : Nat) = i) (hlt : i < nL) (hl : (i, Value.ref x) :: ls.filter (fun q => !(q.1 == i) && !(q.1 + 1 == i && q.2.category == 2)) = ls') (hd : decode cc pc = .ok (.astore_n f, 1)) (hn : pc + 1 = pc') (k : AW p l e R s m args below meth c D dA ad lo n nL A kc ks Q pc' ls' rest M) : AW p l e R s m args below meth c D dA ad lo n nL A kc ks Q pc ls (.ref x :: rest) M := by
  subst hn
  intro H locs la hP hS h
  exact lv_astore_n X.1 X.2.1 hd hi h hlt (cvl_st1 (v := .ref x) hl) (fun la h => (k H locs la hP hS h))
theorem AW.astore {i : Nat} {x : Nat} (X : CX p s m args meth c cc nL own D dA ad lo n A) (hlt : i < nL) (hl : (i, Value.ref x) :: ls.filter (fun q => !(q.1 == i) && !(q.1 + 1 == i && q.2.category == 2)) = ls') (hd : decode cc pc = .ok (.astore i, 2)) (hn : pc + 2 = pc') (k : AW p l e R s m args below meth c D dA ad lo n nL A kc ks Q pc' ls' rest M) : AW p l e R s m args below meth c D dA ad lo n nL A kc ks Q pc ls (.ref x :: rest) M := by
  subst hn
  intro H locs la hP hS h
  exact lv_astore X.1 X.2.1 hd h hlt (cvl_st1 (v := .ref x) hl) (fun la h => (k H locs la hP hS h))
theorem AW.iinc {i k0 : Nat} {z : Int} {x y v : Int32} (X : CX p s m args meth c cc nL own D dA ad lo n A) (hk : ls[k0]? = some (i, .int x)) (hz : Int32.ofInt z = y) (hv : x + y = v) (hlt : i < nL) (hl : (i, Value.int v) :: ls.filter (fun q => !(q.1 == i) && !(q.1 + 1 == i && q.2.category == 2)) = ls') (hd : decode cc pc = .ok (.iinc i z, 3)) (hn : pc + 3 = pc') (k : AW p l e R s m args below meth c D dA ad lo n nL A kc ks Q pc' ls' rest M) : AW p l e R s m args below meth c D dA ad lo n nL A kc ks Q pc ls rest M := by
  subst hn
  intro H locs la hP hS h
  exact lv_iinc X.1 X.2.1 hd h (cvl_at hk) (by rw [hz]; exact hv) hlt (cvl_st1 (v := .int v) hl) (fun la h => (k H locs la hP hS h))
theorem AW.iadd {x y : Int32} (X : CX p s m args meth c cc nL own D dA ad lo n A)  (hd : decode cc pc = .ok (.iadd, 1)) (hn : pc + 1 = pc') (k : AW p l e R s m args below meth c D dA ad lo n nL A kc ks Q pc' ls (.int (x + y) :: rest) M) : AW p l e R s m args below meth c D dA ad lo n nL A kc ks Q pc ls (.int y :: .int x :: rest) M := by
  subst hn
  intro H locs la hP hS h
  exact lv_iadd X.1 X.2.1 hd (k H locs la hP hS h)
theorem AW.isub {x y : Int32} (X : CX p s m args meth c cc nL own D dA ad lo n A)  (hd : decode cc pc = .ok (.isub, 1)) (hn : pc + 1 = pc') (k : AW p l e R s m args below meth c D dA ad lo n nL A kc ks Q pc' ls (.int (x - y) :: rest) M) : AW p l e R s m args below meth c D dA ad lo n nL A kc ks Q pc ls (.int y :: .int x :: rest) M := by
  subst hn
  intro H locs la hP hS h
  exact lv_isub X.1 X.2.1 hd (k H locs la hP hS h)
theorem AW.imul {x y : Int32} (X : CX p s m args meth c cc nL own D dA ad lo n A)  (hd : decode cc pc = .ok (.imul, 1)) (hn : pc + 1 = pc') (k : AW p l e R s m args below meth c D dA ad lo n nL A kc ks Q pc' ls (.int (x * y) :: rest) M) : AW p l e R s m args below meth c D dA ad lo n nL A kc ks Q pc ls (.int y :: .int x :: rest) M := by
  subst hn
  intro H locs la hP hS h
  exact lv_imul X.1 X.2.1 hd (k H locs la hP hS h)
theorem AW.iand {x y : Int32} (X : CX p s m args meth c cc nL own D dA ad lo n A)  (hd : decode cc pc = .ok (.iand, 1)) (hn : pc + 1 = pc') (k : AW p l e R s m args below meth c D dA ad lo n nL A kc ks Q pc' ls (.int (x &&& y) :: rest) M) : AW p l e R s m args below meth c D dA ad lo n nL A kc ks Q pc ls (.int y :: .int x :: rest) M := by
  subst hn
  intro H locs la hP hS h
  exact lv_iand X.1 X.2.1 hd (k H locs la hP hS h)
theorem AW.idiv {x y : Int32} (X : CX p s m args meth c cc nL own D dA ad lo n A) (hne : ¬ y = 0) (hd : decode cc pc = .ok (.idiv, 1)) (hn : pc + 1 = pc') (k : AW p l e R s m args below meth c D dA ad lo n nL A kc ks Q pc' ls (.int (x / y) :: rest) M) : AW p l e R s m args below meth c D dA ad lo n nL A kc ks Q pc ls (.int y :: .int x :: rest) M := by
  subst hn
  intro H locs la hP hS h
  exact lv_idiv X.1 X.2.1 hd hne (k H locs la hP hS h)
theorem AW.irem {x y : Int32} (X : CX p s m args meth c cc nL own D dA ad lo n A) (hne : ¬ y = 0) (hd : decode cc pc = .ok (.irem, 1)) (hn : pc + 1 = pc') (k : AW p l e R s m args below meth c D dA ad lo n nL A kc ks Q pc' ls (.int (x - x / y * y) :: rest) M) : AW p l e R s m args below meth c D dA ad lo n nL A kc ks Q pc ls (.int y :: .int x :: rest) M := by
  subst hn
  intro H locs la hP hS h
  exact lv_irem X.1 X.2.1 hd hne (k H locs la hP hS h)
theorem AW.ladd {x y : Int64} (X : CX p s m args meth c cc nL own D dA ad lo n A)  (hd : decode cc pc = .ok (.ladd, 1)) (hn : pc + 1 = pc') (k : AW p l e R s m args below meth c D dA ad lo n nL A kc ks Q pc' ls (.long (x + y) :: rest) M) : AW p l e R s m args below meth c D dA ad lo n nL A kc ks Q pc ls (.long y :: .long x :: rest) M := by
  subst hn
  intro H locs la hP hS h
  exact lv_ladd X.1 X.2.1 hd (k H locs la hP hS h)
theorem AW.lsub {x y : Int64} (X : CX p s m args meth c cc nL own D dA ad lo n A)  (hd : decode cc pc = .ok (.lsub, 1)) (hn : pc + 1 = pc') (k : AW p l e R s m args below meth c D dA ad lo n nL A kc ks Q pc' ls (.long (x - y) :: rest) M) : AW p l e R s m args below meth c D dA ad lo n nL A kc ks Q pc ls (.long y :: .long x :: rest) M := by
  subst hn
  intro H locs la hP hS h
  exact lv_lsub X.1 X.2.1 hd (k H locs la hP hS h)
theorem AW.lmul {x y : Int64} (X : CX p s m args meth c cc nL own D dA ad lo n A)  (hd : decode cc pc = .ok (.lmul, 1)) (hn : pc + 1 = pc') (k : AW p l e R s m args below meth c D dA ad lo n nL A kc ks Q pc' ls (.long (x * y) :: rest) M) : AW p l e R s m args below meth c D dA ad lo n nL A kc ks Q pc ls (.long y :: .long x :: rest) M := by
  subst hn
  intro H locs la hP hS h
  exact lv_lmul X.1 X.2.1 hd (k H locs la hP hS h)
theorem AW.ldiv {x y : Int64} (X : CX p s m args meth c cc nL own D dA ad lo n A) (hne : ¬ y = 0) (hd : decode cc pc = .ok (.ldiv, 1)) (hn : pc + 1 = pc') (k : AW p l e R s m args below meth c D dA ad lo n nL A kc ks Q pc' ls (.long (x / y) :: rest) M) : AW p l e R s m args below meth c D dA ad lo n nL A kc ks Q pc ls (.long y :: .long x :: rest) M := by
  subst hn
  intro H locs la hP hS h
  exact lv_ldiv X.1 X.2.1 hd hne (k H locs la hP hS h)
theorem AW.lcmp {x y : Int64} (X : CX p s m args meth c cc nL own D dA ad lo n A)  (hd : decode cc pc = .ok (.lcmp, 1)) (hn : pc + 1 = pc') (k : AW p l e R s m args below meth c D dA ad lo n nL A kc ks Q pc' ls (.int (lcp x y) :: rest) M) : AW p l e R s m args below meth c D dA ad lo n nL A kc ks Q pc ls (.long y :: .long x :: rest) M := by
  subst hn
  intro H locs la hP hS h
  exact W.lcmp X.1 X.2.1 hd (k H locs la hP hS h)
theorem AW.i2l {x : Int32} (X : CX p s m args meth c cc nL own D dA ad lo n A)  (hd : decode cc pc = .ok (.i2l, 1)) (hn : pc + 1 = pc') (k : AW p l e R s m args below meth c D dA ad lo n nL A kc ks Q pc' ls (.long x.toInt64 :: rest) M) : AW p l e R s m args below meth c D dA ad lo n nL A kc ks Q pc ls (.int x :: rest) M := by
  subst hn
  intro H locs la hP hS h
  exact lv_i2l X.1 X.2.1 hd rfl (k H locs la hP hS h)
theorem AW.l2i {x : Int64} (X : CX p s m args meth c cc nL own D dA ad lo n A)  (hd : decode cc pc = .ok (.l2i, 1)) (hn : pc + 1 = pc') (k : AW p l e R s m args below meth c D dA ad lo n nL A kc ks Q pc' ls (.int x.toInt32 :: rest) M) : AW p l e R s m args below meth c D dA ad lo n nL A kc ks Q pc ls (.long x :: rest) M := by
  subst hn
  intro H locs la hP hS h
  exact lv_l2i X.1 X.2.1 hd rfl (k H locs la hP hS h)
theorem AW.pop {v : Value} (X : CX p s m args meth c cc nL own D dA ad lo n A) (hc : v.category = 1) (hd : decode cc pc = .ok (.pop, 1)) (hn : pc + 1 = pc') (k : AW p l e R s m args below meth c D dA ad lo n nL A kc ks Q pc' ls rest M) : AW p l e R s m args below meth c D dA ad lo n nL A kc ks Q pc ls (v :: rest) M := by
  subst hn
  intro H locs la hP hS h
  exact lv_pop X.1 X.2.1 hd ((cv_cat ad v).trans hc) (k H locs la hP hS h)
theorem AW.dup {v : Value} (X : CX p s m args meth c cc nL own D dA ad lo n A) (hc : v.category = 1) (hd : decode cc pc = .ok (.dup, 1)) (hn : pc + 1 = pc') (k : AW p l e R s m args below meth c D dA ad lo n nL A kc ks Q pc' ls (v :: v :: rest) M) : AW p l e R s m args below meth c D dA ad lo n nL A kc ks Q pc ls (v :: rest) M := by
  subst hn
  intro H locs la hP hS h
  exact lv_dup X.1 X.2.1 hd ((cv_cat ad v).trans hc) (k H locs la hP hS h)
theorem AW.dup_x1 {v w : Value} (X : CX p s m args meth c cc nL own D dA ad lo n A) (hc : v.category = 1) (hc2 : w.category = 1) (hd : decode cc pc = .ok (.dup_x1, 1)) (hn : pc + 1 = pc') (k : AW p l e R s m args below meth c D dA ad lo n nL A kc ks Q pc' ls (v :: w :: v :: rest) M) : AW p l e R s m args below meth c D dA ad lo n nL A kc ks Q pc ls (v :: w :: rest) M := by
  subst hn
  intro H locs la hP hS h
  exact lv_dup_x1 X.1 X.2.1 hd ((cv_cat ad v).trans hc) ((cv_cat ad w).trans hc2) (k H locs la hP hS h)
theorem AW.dup2 {v w : Value} (X : CX p s m args meth c cc nL own D dA ad lo n A) (hc : v.category = 1) (hc2 : w.category = 1) (hd : decode cc pc = .ok (.dup2, 1)) (hn : pc + 1 = pc') (k : AW p l e R s m args below meth c D dA ad lo n nL A kc ks Q pc' ls (v :: w :: v :: w :: rest) M) : AW p l e R s m args below meth c D dA ad lo n nL A kc ks Q pc ls (v :: w :: rest) M := by
  subst hn
  intro H locs la hP hS h
  exact lv_dup2_11 X.1 X.2.1 hd ((cv_cat ad v).trans hc) ((cv_cat ad w).trans hc2) (k H locs la hP hS h)
theorem AW.goto {off : Int} (X : CX p s m args meth c cc nL own D dA ad lo n A) (hd : decode cc pc = .ok (.goto off, 3)) (ht : (pc : Int) + off = (pc' : Int)) (k : AW p l e R s m args below meth c D dA ad lo n nL A kc ks Q pc' ls rest M) : AW p l e R s m args below meth c D dA ad lo n nL A kc ks Q pc ls rest M := fun H locs la hP hS h => lv_goto X.1 X.2.1 hd ht (k H locs la hP hS h)
theorem AW.if_eq {x : Int32} {off : Int} {tgt : Nat} (X : CX p s m args meth c cc nL own D dA ad lo n A) (hd : decode cc pc = .ok (.ifCond .eq off, 3)) (ht : (pc : Int) + off = (tgt : Int)) (hn : pc + 3 = pc') (kt : x = 0 → AW p l e R s m args below meth c D dA ad lo n nL A kc ks Q tgt ls rest M) (kf : ¬ x = 0 → AW p l e R s m args below meth c D dA ad lo n nL A kc ks Q pc' ls rest M) : AW p l e R s m args below meth c D dA ad lo n nL A kc ks Q pc ls (.int x :: rest) M := by
  subst hn
  exact fun H locs la hP hS h => lv_if_eq X.1 X.2.1 hd ht (fun q => kt q H locs la hP hS h) (fun q => kf q H locs la hP hS h)
theorem AW.icmp_eq {x y : Int32} {off : Int} {tgt : Nat} (X : CX p s m args meth c cc nL own D dA ad lo n A) (hd : decode cc pc = .ok (.if_icmp .eq off, 3)) (ht : (pc : Int) + off = (tgt : Int)) (hn : pc + 3 = pc') (kt : x = y → AW p l e R s m args below meth c D dA ad lo n nL A kc ks Q tgt ls rest M) (kf : ¬ x = y → AW p l e R s m args below meth c D dA ad lo n nL A kc ks Q pc' ls rest M) : AW p l e R s m args below meth c D dA ad lo n nL A kc ks Q pc ls (.int y :: .int x :: rest) M := by
  subst hn
  exact fun H locs la hP hS h => lv_icmp_eq X.1 X.2.1 hd ht (fun q => kt q H locs la hP hS h) (fun q => kf q H locs la hP hS h)
theorem AW.if_ne {x : Int32} {off : Int} {tgt : Nat} (X : CX p s m args meth c cc nL own D dA ad lo n A) (hd : decode cc pc = .ok (.ifCond .ne off, 3)) (ht : (pc : Int) + off = (tgt : Int)) (hn : pc + 3 = pc') (kt : ¬ x = 0 → AW p l e R s m args below meth c D dA ad lo n nL A kc ks Q tgt ls rest M) (kf : x = 0 → AW p l e R s m args below meth c D dA ad lo n nL A kc ks Q pc' ls rest M) : AW p l e R s m args below meth c D dA ad lo n nL A kc ks Q pc ls (.int x :: rest) M := by
  subst hn
  exact fun H locs la hP hS h => lv_if_ne X.1 X.2.1 hd ht (fun q => kt q H locs la hP hS h) (fun q => kf q H locs la hP hS h)
theorem AW.icmp_ne {x y : Int32} {off : Int} {tgt : Nat} (X : CX p s m args meth c cc nL own D dA ad lo n A) (hd : decode cc pc = .ok (.if_icmp .ne off, 3)) (ht : (pc : Int) + off = (tgt : Int)) (hn : pc + 3 = pc') (kt : ¬ x = y → AW p l e R s m args below meth c D dA ad lo n nL A kc ks Q tgt ls rest M) (kf : x = y → AW p l e R s m args below meth c D dA ad lo n nL A kc ks Q pc' ls rest M) : AW p l e R s m args below meth c D dA ad lo n nL A kc ks Q pc ls (.int y :: .int x :: rest) M := by
  subst hn
  exact fun H locs la hP hS h => lv_icmp_ne X.1 X.2.1 hd ht (fun q => kt q H locs la hP hS h) (fun q => kf q H locs la hP hS h)
theorem AW.if_lt {x : Int32} {off : Int} {tgt : Nat} (X : CX p s m args meth c cc nL own D dA ad lo n A) (hd : decode cc pc = .ok (.ifCond .lt off, 3)) (ht : (pc : Int) + off = (tgt : Int)) (hn : pc + 3 = pc') (kt : x < 0 → AW p l e R s m args below meth c D dA ad lo n nL A kc ks Q tgt ls rest M) (kf : ¬ x < 0 → AW p l e R s m args below meth c D dA ad lo n nL A kc ks Q pc' ls rest M) : AW p l e R s m args below meth c D dA ad lo n nL A kc ks Q pc ls (.int x :: rest) M := by
  subst hn
  exact fun H locs la hP hS h => lv_if_lt X.1 X.2.1 hd ht (fun q => kt q H locs la hP hS h) (fun q => kf q H locs la hP hS h)
theorem AW.icmp_lt {x y : Int32} {off : Int} {tgt : Nat} (X : CX p s m args meth c cc nL own D dA ad lo n A) (hd : decode cc pc = .ok (.if_icmp .lt off, 3)) (ht : (pc : Int) + off = (tgt : Int)) (hn : pc + 3 = pc') (kt : x < y → AW p l e R s m args below meth c D dA ad lo n nL A kc ks Q tgt ls rest M) (kf : ¬ x < y → AW p l e R s m args below meth c D dA ad lo n nL A kc ks Q pc' ls rest M) : AW p l e R s m args below meth c D dA ad lo n nL A kc ks Q pc ls (.int y :: .int x :: rest) M := by
  subst hn
  exact fun H locs la hP hS h => lv_icmp_lt X.1 X.2.1 hd ht (fun q => kt q H locs la hP hS h) (fun q => kf q H locs la hP hS h)
theorem AW.if_ge {x : Int32} {off : Int} {tgt : Nat} (X : CX p s m args meth c cc nL own D dA ad lo n A) (hd : decode cc pc = .ok (.ifCond .ge off, 3)) (ht : (pc : Int) + off = (tgt : Int)) (hn : pc + 3 = pc') (kt : 0 ≤ x → AW p l e R s m args below meth c D dA ad lo n nL A kc ks Q tgt ls rest M) (kf : ¬ 0 ≤ x → AW p l e R s m args below meth c D dA ad lo n nL A kc ks Q pc' ls rest M) : AW p l e R s m args below meth c D dA ad lo n nL A kc ks Q pc ls (.int x :: rest) M := by
  subst hn
  exact fun H locs la hP hS h => lv_if_ge X.1 X.2.1 hd ht (fun q => kt q H locs la hP hS h) (fun q => kf q H locs la hP hS h)
theorem AW.icmp_ge {x y : Int32} {off : Int} {tgt : Nat} (X : CX p s m args meth c cc nL own D dA ad lo n A) (hd : decode cc pc = .ok (.if_icmp .ge off, 3)) (ht : (pc : Int) + off = (tgt : Int)) (hn : pc + 3 = pc') (kt : y ≤ x → AW p l e R s m args below meth c D dA ad lo n nL A kc ks Q tgt ls rest M) (kf : ¬ y ≤ x → AW p l e R s m args below meth c D dA ad lo n nL A kc ks Q pc' ls rest M) : AW p l e R s m args below meth c D dA ad lo n nL A kc ks Q pc ls (.int y :: .int x :: rest) M := by
  subst hn
  exact fun H locs la hP hS h => lv_icmp_ge X.1 X.2.1 hd ht (fun q => kt q H locs la hP hS h) (fun q => kf q H locs la hP hS h)
theorem AW.if_gt {x : Int32} {off : Int} {tgt : Nat} (X : CX p s m args meth c cc nL own D dA ad lo n A) (hd : decode cc pc = .ok (.ifCond .gt off, 3)) (ht : (pc : Int) + off = (tgt : Int)) (hn : pc + 3 = pc') (kt : 0 < x → AW p l e R s m args below meth c D dA ad lo n nL A kc ks Q tgt ls rest M) (kf : ¬ 0 < x → AW p l e R s m args below meth c D dA ad lo n nL A kc ks Q pc' ls rest M) : AW p l e R s m args below meth c D dA ad lo n nL A kc ks Q pc ls (.int x :: rest) M := by
  subst hn
  exact fun H locs la hP hS h => lv_if_gt X.1 X.2.1 hd ht (fun q => kt q H locs la hP hS h) (fun q => kf q H locs la hP hS h)
theorem AW.icmp_gt {x y : Int32} {off : Int} {tgt : Nat} (X : CX p s m args meth c cc nL own D dA ad lo n A) (hd : decode cc pc = .ok (.if_icmp .gt off, 3)) (ht : (pc : Int) + off = (tgt : Int)) (hn : pc + 3 = pc') (kt : y < x → AW p l e R s m args below meth c D dA ad lo n nL A kc ks Q tgt ls rest M) (kf : ¬ y < x → AW p l e R s m args below meth c D dA ad lo n nL A kc ks Q pc' ls rest M) : AW p l e R s m args below meth c D dA ad lo n nL A kc ks Q pc ls (.int y :: .int x :: rest) M := by
  subst hn
  exact fun H locs la hP hS h => lv_icmp_gt X.1 X.2.1 hd ht (fun q => kt q H locs la hP hS h) (fun q => kf q H locs la hP hS h)
theorem AW.if_le {x : Int32} {off : Int} {tgt : Nat} (X : CX p s m args meth c cc nL own D dA ad lo n A) (hd : decode cc pc = .ok (.ifCond .le off, 3)) (ht : (pc : Int) + off = (tgt : Int)) (hn : pc + 3 = pc') (kt : x ≤ 0 → AW p l e R s m args below meth c D dA ad lo n nL A kc ks Q tgt ls rest M) (kf : ¬ x ≤ 0 → AW p l e R s m args below meth c D dA ad lo n nL A kc ks Q pc' ls rest M) : AW p l e R s m args below meth c D dA ad lo n nL A kc ks Q pc ls (.int x :: rest) M := by
  subst hn
  exact fun H locs la hP hS h => lv_if_le X.1 X.2.1 hd ht (fun q => kt q H locs la hP hS h) (fun q => kf q H locs la hP hS h)
theorem AW.icmp_le {x y : Int32} {off : Int} {tgt : Nat} (X : CX p s m args meth c cc nL own D dA ad lo n A) (hd : decode cc pc = .ok (.if_icmp .le off, 3)) (ht : (pc : Int) + off = (tgt : Int)) (hn : pc + 3 = pc') (kt : x ≤ y → AW p l e R s m args below meth c D dA ad lo n nL A kc ks Q tgt ls rest M) (kf : ¬ x ≤ y → AW p l e R s m args below meth c D dA ad lo n nL A kc ks Q pc' ls rest M) : AW p l e R s m args below meth c D dA ad lo n nL A kc ks Q pc ls (.int y :: .int x :: rest) M := by
  subst hn
  exact fun H locs la hP hS h => lv_icmp_le X.1 X.2.1 hd ht (fun q => kt q H locs la hP hS h) (fun q => kf q H locs la hP hS h)
theorem AW.lookup {dflt : Int} {ps : Array (Int × Int)} {len : Nat} {x : Int32} {off : Int} (X : CX p s m args meth c cc nL own D dA ad lo n A) (hd : decode cc pc = .ok (.lookupswitch dflt ps, len)) (hp : (ps.toList.zip (ps.toList.drop 1)).all (fun (a, next) => a.1 < next.1) = true) (ho : Op.lookupswitch.offset ps.toList dflt x.toInt = off) (ht : (pc : Int) + off = (pc' : Int)) (k : AW p l e R s m args below meth c D dA ad lo n nL A kc ks Q pc' ls rest M) : AW p l e R s m args below meth c D dA ad lo n nL A kc ks Q pc ls (.int x :: rest) M := fun H locs la hP hS h => lv_lookup X.1 X.2.1 hd hp ho ht (k H locs la hP hS h)
theorem AW.tout {dflt a b : Int} {offs : Array Int} {len : Nat} {x : Int32} (X : CX p s m args meth c cc nL own D dA ad lo n A) (hd : decode cc pc = .ok (.tableswitch dflt a b offs, len)) (ho : x.toInt < a ∨ b < x.toInt) (ht : (pc : Int) + dflt = (pc' : Int)) (k : AW p l e R s m args below meth c D dA ad lo n nL A kc ks Q pc' ls rest M) : AW p l e R s m args below meth c D dA ad lo n nL A kc ks Q pc ls (.int x :: rest) M := fun H locs la hP hS h => lv_tableOut X.1 X.2.1 hd ho ht (k H locs la hP hS h)
theorem AW.tin {dflt a b off : Int} {offs : Array Int} {len : Nat} {x : Int32} (X : CX p s m args meth c cc nL own D dA ad lo n A) (hd : decode cc pc = .ok (.tableswitch dflt a b offs, len)) (h1 : ¬ x.toInt < a) (h2 : ¬ b < x.toInt) (ho : offs[(x.toInt - a).toNat]? = some off) (ht : (pc : Int) + off = (pc' : Int)) (k : AW p l e R s m args below meth c D dA ad lo n nL A kc ks Q pc' ls rest M) : AW p l e R s m args below meth c D dA ad lo n nL A kc ks Q pc ls (.int x :: rest) M := fun H locs la hP hS h => lv_tableIn X.1 X.2.1 hd h1 h2 ho ht (k H locs la hP hS h)
theorem AW.getf {a ix w ci N : Nat} {C : String} {T : u_T} {fs : List Value} {v : Value} (X : CX p s m args meth c cc nL own D dA ad lo n A) (k0 : Nat) (h1 : lo ≤ a) (h2 : a + (w + 1) ≤ lo + n) (he : cellF dA ad a (M a) = .inr (ci, fs)) (hc : vwCl[ci]? = some (C, T, N)) (hin : ∀ w ∈ u_ws C T N, w ∈ tblA) (hk : k0 < N) (hT : (T k0).1 = C) (hl : Cond.fieldLink own ix C (T k0).2.1 (T k0).2.2.1 ∈ tblA) (hv : fs[k0]? = some (cv ad v)) (hd : decode cc pc = .ok (.getfield ix, 3)) (hn : pc + 3 = pc') (k : AW p l e R s m args below meth c D dA ad lo n nL A kc ks Q pc' ls (v :: rest) M) : AW p l e R s m args below meth c D dA ad lo n nL A kc ks Q pc ls (.ref a :: rest) M := by
  subst hn
  intro H locs la hP hS h
  exact va_get X.1 X.2.1 X.2.2.2.2.1 hin X.2.2.2.1 X.2.2.2.2.2.2.1 hP (a - lo) (wl_at h1 h2 he) hc k0 hk (X.2.2.2.2.1 _ hl) (fun z hz => by rw [← hT]; exact hz) hv hd (k H locs la hP hS h)
theorem AW.putf {a ix w ci N : Nat} {C : String} {T : u_T} {fs : List Value} {v : Value} {ty : FieldType} {r : Nat → Int32} (X : CX p s m args meth c cc nL own D dA ad lo n A) (k0 : Nat) (h1 : lo ≤ a) (h2 : a + (w + 1) ≤ lo + n) (he : cellF dA ad a (M a) = .inr (ci, fs)) (he2 : cellF dA ad a r = .inr (ci, fs.set k0 v)) (hc : vwCl[ci]? = some (C, T, N)) (hin : ∀ w ∈ u_ws C T N, w ∈ tblA) (ty0 : Nat → FieldType) (hty : ∀ k, k < N → parseFieldDescriptor (T k).2.2.1 = some (ty0 k)) (hnm : ∀ a, a < N → ∀ b, b < N → a ≠ b → (T a).2.1 ≠ (T b).2.1) (hk : k0 < N) (hT : (T k0).1 = C) (hl : Cond.fieldLink own ix C (T k0).2.1 (T k0).2.2.1 ∈ tblA) (hfin : (T k0).2.2.2 = false) (hpd : parseFieldDescriptor (T k0).2.2.1 = some ty) (hna : narrow ty v = v) (hfit : fits ty v = true) (hlen : k0 < fs.length) (hcv : cv ad v = v) (hd : decode cc pc = .ok (.putfield ix, 3)) (hn : pc + 3 = pc') (k : AW p l e R s m args below meth c D dA ad lo n nL A kc ks Q pc' ls rest (msf M a r)) : AW p l e R s m args below meth c D dA ad lo n nL A kc ks Q pc ls (v :: .ref a :: rest) M := by
  subst hn
  intro H locs la hP hS h
  show W _ _ _ _ _ _ _ _ _ _ _ _ _ _ _ (F0 m pc la (cv ad v :: .ref (ad a) :: rest.map (cv ad)))
  rw [hcv]
  refine va_put X.1 X.2.1 X.2.2.2.2.1 hin ty0 hty hnm X.2.2.2.1 X.2.2.2.2.2.2.1 hP (X.2.2.2.2.2.2.2.1 M) hS (a - lo) (wl_at h1 h2 he) hc k0 hk (X.2.2.2.2.1 _ hl) (fun z hz => by rw [← hT]; exact hz) hfin hpd hna hfit hlen hd (fun H1 locs1 hP1 hD1 hS1 => ?_)
  rw [wl_set h1 h2 he2] at hP1
  exact k H1 locs1 la hP1 hS1 h
theorem AW.iald {a L : Nat} {i : Int32} (X : CX p s m args meth c cc nL own D dA ad lo n A) (t : tIA lo n L a) (hi : vp_in i L) (hd : decode cc pc = .ok (.iaload, 1)) (hn : pc + 1 = pc') (k : AW p l e R s m args below meth c D dA ad lo n nL A kc ks Q pc' ls (.int (M a i.toNatClampNeg) :: rest) M) : AW p l e R s m args below meth c D dA ad lo n nL A kc ks Q pc ls (.int i :: .ref a :: rest) M := by
  subst hn
  intro H locs la hP hS h
  exact va_iald X.1 X.2.1 X.2.2.2.2.2.2.1 hP (a - lo) 0 (wl_at (w := 0) t.1 t.2.1 (cI t dA ad (M a))) rfl hi hd (k H locs la hP hS h)
theorem AW.iast {a L : Nat} {i x : Int32} (X : CX p s m args meth c cc nL own D dA ad lo n A) (t : tIA lo n L a) (hi : vp_in i L) (hd : decode cc pc = .ok (.iastore, 1)) (hn : pc + 1 = pc') (k : AW p l e R s m args below meth c D dA ad lo n nL A kc ks Q pc' ls rest (ms M a i.toNatClampNeg x)) : AW p l e R s m args below meth c D dA ad lo n nL A kc ks Q pc ls (.int x :: .int i :: .ref a :: rest) M := by
  subst hn
  intro H locs la hP hS h
  refine va_iast X.1 X.2.1 X.2.2.2.2.2.2.1 hP (X.2.2.2.2.2.2.2.1 M) hS (a - lo) 0 (wl_at (w := 0) t.1 t.2.1 (cI t dA ad (M a))) rfl hi hd (fun H1 locs1 hP1 hD1 hS1 => ?_)
  rw [wl_set (w := 0) t.1 t.2.1 (cI t dA ad _)] at hP1
  exact k H1 locs1 la hP1 hS1 h
theorem AW.zald {a L : Nat} {i : Int32} (X : CX p s m args meth c cc nL own D dA ad lo n A) (t : tZA lo n L a) (hi : vp_in i L) (hd : decode cc pc = .ok (.baload, 1)) (hn : pc + 1 = pc') (k : AW p l e R s m args below meth c D dA ad lo n nL A kc ks Q pc' ls (.int (bz (nz (M a i.toNatClampNeg))) :: rest) M) : AW p l e R s m args below meth c D dA ad lo n nL A kc ks Q pc ls (.int i :: .ref a :: rest) M := by
  subst hn
  intro H locs la hP hS h
  exact va_zald X.1 X.2.1 X.2.2.2.2.2.2.1 hP (a - lo) 1 (wl_at (w := 0) t.1 t.2.1 (cZ t dA ad (M a))) rfl hi hd (k H locs la hP hS h)
theorem bzr_upd (r : Nat → Int32) (k : Nat) (b : Bool) : bzr (upd r k (bz b)) = upd (bzr r) k (bz b) := by
  funext j
  by_cases h : j = k
  · subst h; cases b <;> simp [bzr, upd] <;> decide
  · simp [bzr, upd, h]
theorem nar_bz (b : Bool) : vp_nar .boolean (bz b) = bz b := by cases b <;> rfl
theorem AW.zast {a L : Nat} {i : Int32} {b : Bool} (X : CX p s m args meth c cc nL own D dA ad lo n A) (t : tZA lo n L a) (hi : vp_in i L) (hd : decode cc pc = .ok (.bastore, 1)) (hn : pc + 1 = pc') (k : AW p l e R s m args below meth c D dA ad lo n nL A kc ks Q pc' ls rest (ms M a i.toNatClampNeg (bz b))) : AW p l e R s m args below meth c D dA ad lo n nL A kc ks Q pc ls (.int (bz b) :: .int i :: .ref a :: rest) M := by
  subst hn
  intro H locs la hP hS h
  refine va_zast X.1 X.2.1 X.2.2.2.2.2.2.1 hP (X.2.2.2.2.2.2.2.1 M) hS (a - lo) 1 (wl_at (w := 0) t.1 t.2.1 (cZ t dA ad (M a))) rfl hi hd (fun H1 locs1 hP1 hD1 hS1 => ?_)
  rw [nar_bz, ← bzr_upd, wl_set (w := 0) t.1 t.2.1 (cZ t dA ad _)] at hP1
  exact k H1 locs1 la hP1 hS1 h
theorem AW.aldC {a : Nat} {i : Int32} (X : CX p s m args meth c cc nL own D dA ad lo n A) (t : tCA lo n a) (hi : vp_in i 6) (hd : decode cc pc = .ok (.aaload, 1)) (hn : pc + 1 = pc') (k : AW p l e R s m args below meth c D dA ad lo n nL A kc ks Q pc' ls (.ref (a + 5 + 9 * i.toNatClampNeg) :: rest) M) : AW p l e R s m args below meth c D dA ad lo n nL A kc ks Q pc ls (.int i :: .ref a :: rest) M := by
  subst hn
  intro H locs la hP hS h
  exact va_aldq X.1 X.2.1 X.2.2.2.2.2.2.1 hP (a - lo) 2 (wl_at (w := 58) t.1 t.2.1 (cCA t dA ad (M a))) rfl hi hd (k H locs la hP hS h)
theorem AW.aldS {a L : Nat} {i : Int32} (X : CX p s m args meth c cc nL own D dA ad lo n A) (t : tSA lo n L a) (hi : vp_in i L) (hd : decode cc pc = .ok (.aaload, 1)) (hn : pc + 1 = pc') (k : AW p l e R s m args below meth c D dA ad lo n nL A kc ks Q pc' ls (.ref (if a = 652 then 260 + 65 * i.toNatClampNeg else 130 + 65 * i.toNatClampNeg) :: rest) M) : AW p l e R s m args below meth c D dA ad lo n nL A kc ks Q pc ls (.int i :: .ref a :: rest) M := by
  subst hn
  intro H locs la hP hS h
  exact va_aldq X.1 X.2.1 X.2.2.2.2.2.2.1 hP (a - lo) 3 (wl_at (w := 0) t.1 t.2.1 (cSA t dA ad (M a))) rfl hi hd (k H locs la hP hS h)
theorem AW.alen {a L : Nat} {v : Int32} (X : CX p s m args meth c cc nL own D dA ad lo n A) (t : tIA lo n L a) (hv : Int32.ofNat L = v) (hd : decode cc pc = .ok (.arraylength, 1)) (hn : pc + 1 = pc') (k : AW p l e R s m args below meth c D dA ad lo n nL A kc ks Q pc' ls (.int v :: rest) M) : AW p l e R s m args below meth c D dA ad lo n nL A kc ks Q pc ls (.ref a :: rest) M := by
  subst hn
  intro H locs la hP hS h
  exact va_alen X.1 X.2.1 X.2.2.2.2.2.2.1 hP (a - lo) 0 (wl_at (w := 0) t.1 t.2.1 (cI t dA ad (M a))) rfl hv hd (k H locs la hP hS h)
theorem AW.gsL {ix : Nat} (X : CX p s m args meth c cc nL own D dA ad lo n A) (hl : Cond.fieldLinkNest own ix "ShakerSweep" "SETTING_LEAST" "[I" "ShakerSweep" ∈ tblA) (hd : decode cc pc = .ok (.getstatic ix, 3)) (hn : pc + 3 = pc') (k : AW p l e R s m args below meth c D dA ad lo n nL A kc ks Q pc' ls (.ref 1000 :: rest) M) : AW p l e R s m args below meth c D dA ad lo n nL A kc ks Q pc ls rest M := by
  subst hn
  intro H locs la hP hS h
  exact va_getsN X.1 X.2.1 X.2.2.2.2.2.2.2.2.2.1.1 hS X.2.2.2.1 (X.2.2.2.2.1 _ hl) (fun _ h => h) hd (k H locs la hP hS h)
theorem AW.gsLi {i : Int32} (X : CX p s m args meth c cc nL own D dA ad lo n A) (hi : vp_in i 6) (hd : decode cc pc = .ok (.iaload, 1)) (hn : pc + 1 = pc') (k : AW p l e R s m args below meth c D dA ad lo n nL A kc ks Q pc' ls (.int (sLE i.toNatClampNeg) :: rest) M) : AW p l e R s m args below meth c D dA ad lo n nL A kc ks Q pc ls (.int i :: .ref 1000 :: rest) M := by
  subst hn
  intro H locs la hP hS h
  exact va_ti X.1 X.2.1 X.2.2.2.2.2.2.2.2.2.1.2 hS hi rfl hd (k H locs la hP hS h)
theorem AW.gsG {ix : Nat} (X : CX p s m args meth c cc nL own D dA ad lo n A) (hl : Cond.fieldLinkNest own ix "ShakerSweep" "SETTING_GREATEST" "[I" "ShakerSweep" ∈ tblA) (hd : decode cc pc = .ok (.getstatic ix, 3)) (hn : pc + 3 = pc') (k : AW p l e R s m args below meth c D dA ad lo n nL A kc ks Q pc' ls (.ref 1001 :: rest) M) : AW p l e R s m args below meth c D dA ad lo n nL A kc ks Q pc ls rest M := by
  subst hn
  intro H locs la hP hS h
  exact va_getsN X.1 X.2.1 X.2.2.2.2.2.2.2.2.2.2.1.1 hS X.2.2.2.1 (X.2.2.2.2.1 _ hl) (fun _ h => h) hd (k H locs la hP hS h)
theorem AW.gsGi {i : Int32} (X : CX p s m args meth c cc nL own D dA ad lo n A) (hi : vp_in i 6) (hd : decode cc pc = .ok (.iaload, 1)) (hn : pc + 1 = pc') (k : AW p l e R s m args below meth c D dA ad lo n nL A kc ks Q pc' ls (.int (sGR i.toNatClampNeg) :: rest) M) : AW p l e R s m args below meth c D dA ad lo n nL A kc ks Q pc ls (.int i :: .ref 1001 :: rest) M := by
  subst hn
  intro H locs la hP hS h
  exact va_ti X.1 X.2.1 X.2.2.2.2.2.2.2.2.2.2.1.2 hS hi rfl hd (k H locs la hP hS h)
theorem AW.mmax {x y : Int32} {ix : Nat} (X : CX p s m args meth c cc nL own D dA ad lo n A) (hR : 1 ≤ R.frames ∧ 21 ≤ R.locals ∧ kc ≤ R.cells ∧ ks ≤ R.slots) (hcat : (rest.map fun v => v.category).sum ≤ 8) (hl : Cond.methodLink own ix Lib.Math.max.name ∈ tblA) (hd : decode cc pc = .ok (.invokestatic ix, 3)) (hn : pc + 3 = pc') (k : AW p l e R s m args below meth c D dA ad lo n nL A kc ks Q pc' ls (.int (if x < y then y else x) :: rest) M) : AW p l e R s m args below meth c D dA ad lo n nL A kc ks Q pc ls (.int y :: .int x :: rest) M := by
  subst hn
  intro H locs la hP hS h
  exact va_mmax X.1 X.2.1 (X.2.2.1.trans h.1.symm) X.2.2.2.1 (X.2.2.2.2.1 _ hl) (X.2.2.2.2.1 _ mMaxS) (X.2.2.2.2.1 _ mMathI) (X.2.2.2.2.1 _ mMaxC) hR.1 (by rw [map_cat]; omega) hR.2.2.1 hR.2.2.2 hd (k H locs la hP hS h)
theorem AW.mmin {x y : Int32} {ix : Nat} (X : CX p s m args meth c cc nL own D dA ad lo n A) (hR : 1 ≤ R.frames ∧ 21 ≤ R.locals ∧ kc ≤ R.cells ∧ ks ≤ R.slots) (hcat : (rest.map fun v => v.category).sum ≤ 8) (hl : Cond.methodLink own ix Lib.Math.min.name ∈ tblA) (hd : decode cc pc = .ok (.invokestatic ix, 3)) (hn : pc + 3 = pc') (k : AW p l e R s m args below meth c D dA ad lo n nL A kc ks Q pc' ls (.int (if y < x then y else x) :: rest) M) : AW p l e R s m args below meth c D dA ad lo n nL A kc ks Q pc ls (.int y :: .int x :: rest) M := by
  subst hn
  intro H locs la hP hS h
  exact va_mmin X.1 X.2.1 (X.2.2.1.trans h.1.symm) X.2.2.2.1 (X.2.2.2.2.1 _ hl) (X.2.2.2.2.1 _ mMinS) (X.2.2.2.2.1 _ mMathI) (X.2.2.2.2.1 _ mMinC) hR.1 (by rw [map_cat]; omega) hR.2.2.1 hR.2.2.2 hd (k H locs la hP hS h)
theorem AW.mmaxL {x y : Int64} {ix : Nat} (X : CX p s m args meth c cc nL own D dA ad lo n A) (hR : 1 ≤ R.frames ∧ 23 ≤ R.locals ∧ kc ≤ R.cells ∧ ks ≤ R.slots) (hcat : (rest.map fun v => v.category).sum ≤ 8) (hl : Cond.methodLink own ix Lib.MathLoose.max_long.x ∈ tblA) (hd : decode cc pc = .ok (.invokestatic ix, 3)) (hn : pc + 3 = pc') (k : AW p l e R s m args below meth c D dA ad lo n nL A kc ks Q pc' ls (.long (if y < x then x else y) :: rest) M) : AW p l e R s m args below meth c D dA ad lo n nL A kc ks Q pc ls (.long y :: .long x :: rest) M := by
  subst hn
  intro H locs la hP hS h
  exact va_mmax_long X.1 X.2.1 (X.2.2.1.trans h.1.symm) X.2.2.2.1 (X.2.2.2.2.1 _ hl) (X.2.2.2.2.1 _ mMaxLS) (X.2.2.2.2.1 _ mMathI) (X.2.2.2.2.1 _ mMaxLC) hR.1 (by rw [map_cat]; omega) hR.2.2.1 hR.2.2.2 hd (k H locs la hP hS h)
theorem AW.mminL {x y : Int64} {ix : Nat} (X : CX p s m args meth c cc nL own D dA ad lo n A) (hR : 1 ≤ R.frames ∧ 23 ≤ R.locals ∧ kc ≤ R.cells ∧ ks ≤ R.slots) (hcat : (rest.map fun v => v.category).sum ≤ 8) (hl : Cond.methodLink own ix Lib.MathLoose.min_long.x ∈ tblA) (hd : decode cc pc = .ok (.invokestatic ix, 3)) (hn : pc + 3 = pc') (k : AW p l e R s m args below meth c D dA ad lo n nL A kc ks Q pc' ls (.long (if y < x then y else x) :: rest) M) : AW p l e R s m args below meth c D dA ad lo n nL A kc ks Q pc ls (.long y :: .long x :: rest) M := by
  subst hn
  intro H locs la hP hS h
  exact va_mmin_long X.1 X.2.1 (X.2.2.1.trans h.1.symm) X.2.2.2.1 (X.2.2.2.2.1 _ hl) (X.2.2.2.2.1 _ mMinLS) (X.2.2.2.2.1 _ mMathI) (X.2.2.2.2.1 _ mMinLC) hR.1 (by rw [map_cat]; omega) hR.2.2.1 hR.2.2.2 hd (k H locs la hP hS h)
theorem AW.acopy {a b L L2 : Nat} {sp dp z : Int32} {ix : Nat} (X : CX p s m args meth c cc nL own D dA ad lo n A) (ta : tIA lo n L a) (tb : tIA lo n L2 b) (hR : 1 ≤ R.frames ∧ 8 + (nativeFrameWords "java/lang/System" "arraycopy" 5 + 11) ≤ R.locals) (hcat : (rest.map fun v => v.category).sum ≤ 8) (h1 : ¬ sp < 0) (h2 : ¬ dp < 0) (h3 : ¬ z < 0) (h4 : sp.toNatClampNeg + z.toNatClampNeg ≤ L) (h5 : dp.toNatClampNeg + z.toNatClampNeg ≤ L2) (hl : Cond.methodLink own ix arraycopyName ∈ tblA) (hd : decode cc pc = .ok (.invokestatic ix, 3)) (hn : pc + 3 = pc') (k : AW p l e R s m args below meth c D dA ad lo n nL A kc ks Q pc' ls rest (msf M b (va_cpy (M a) (M b) sp.toNatClampNeg dp.toNatClampNeg z.toNatClampNeg))) : AW p l e R s m args below meth c D dA ad lo n nL A kc ks Q pc ls (.int z :: .int dp :: .ref b :: .int sp :: .ref a :: rest) M := by
  subst hn
  intro H locs la hP hS h
  refine va_copyi X.1 X.2.1 (X.2.2.1.trans h.1.symm) X.2.2.2.1 (X.2.2.2.2.1 _ hl) (X.2.2.2.2.1 _ mAcN) (X.2.2.2.2.1 _ mAcS) (X.2.2.2.2.1 _ mSysI) X.2.2.2.2.2.2.1 hP (X.2.2.2.2.2.2.2.1 M) hS (a - lo) (b - lo) 0 0 (ty := .int) (wl_at (w := 0) ta.1 ta.2.1 (cI ta dA ad (M a))) (wl_at (w := 0) tb.1 tb.2.1 (cI tb dA ad (M b))) rfl rfl rfl h1 h2 h3 h4 h5 (fun _ _ => rfl) hR.1 (by rw [map_cat]; omega) hd (fun H1 locs1 hP1 hD1 hS1 => ?_)
  rw [wl_set (w := 0) tb.1 tb.2.1 (cI tb dA ad _)] at hP1
  exact k H1 locs1 la hP1 hS1 h
end AWR
end
section
/-! CONTRACTS over the abstract memory: MC says of a method that it returns rv and turns the memory M into M' -/
def MQc (D : va_G) (dA : Nat → ClassId) (ad : Nat → Nat) (lo n : Nat) (rv : Option Value) (M' : MM) (A : Nat → Prop) : Array Value → State → Outcome → State → Prop := fun _ st oc t => (oc = .returned rv ∧ va_P D vwCl (wl dA ad lo n M') t.heap) ∧ va_F A st t
def NW (U : State) : Prop := ∀ w ∈ tblA, isNest w = true → va_Nw w U
def MPc (D : va_G) (dA : Nat → ClassId) (ad : Nat → Nat) (lo n sz : Nat) (M : MM) (U : State) : Prop := U.heap.size = sz ∧ va_P D vwCl (wl dA ad lo n M) U.heap ∧ va_K D vwCl (tysA dA) U ∧ va_D (fun _ => True) (wl dA ad lo n M) ∧ SF ad (va_A (wl dA ad lo n M) sz) U U.heap ∧ NW U
def MC (y : MethodName) (cc : ByteArray) (mL : Nat) (ret : Option FieldType) (fr lc lo n : Nat) (av : List Value) (M : MM) (rv : Option Value) (M' : MM) : Prop := ∀ (l : Launch) (D : va_G) (dA : Nat → ClassId) (ad : Nat → Nat) (sz : Nat), Met l y (Cond.code y cc mL ret :: tblG) { frames := fr, cells := 0, slots := 0, locals := lc } (va_Pc (av.map (cv ad)) (MPc D dA ad lo n sz M)) (MQc D dA ad lo n rv M' (va_A (wl dA ad lo n M) sz)) 0 0 (va_A (wl dA ad lo n M) sz)
theorem lv_args_cv (ad : Nat → Nat) : ∀ (av : List Value) (i : Nat), lv_args i (av.map (cv ad)) = cvl ad (lv_args i av)
  | [], _ => rfl
  | v :: av, i => by
    simp only [List.map_cons, lv_args, cv_cat, cvl]
    rw [lv_args_cv ad av]
    rfl
theorem nestOn {w : Cond} (h : isNest w = true) : w.onTables = true := by cases w <;> first | rfl | (exact absurd h Bool.false_ne_true)
theorem nestWarm {w : Cond} (h : isNest w = true) {s U : State} (hW : s.WarmedH U.vm) (hZ : va_Nw w s) : va_Nw w U := by
  cases w <;> first | exact va_Nw.warmM hW hZ | exact va_Nw.warmF hW hZ | exact absurd h Bool.false_ne_true
theorem MC.of {y : MethodName} {cc : ByteArray} {mL : Nat} {ret : Option FieldType} {fr lc lo n : Nat} {av : List Value} {M : MM} {rv : Option Value} {M' : MM} {ls0 : List (Nat × Value)} (hy : plainName y.cls = true) (hls : lv_args 0 av = ls0) (hlen : ∀ ad, (lg_sl (av.map (cv ad))).length ≤ mL)
    (K : ∀ (p : Program) (l : Launch) (e : Env) (s : State) (m : MethodId) (args : Array Value) (below : List Frame) (meth : Method) (c : Code) (D : va_G) (dA : Nat → ClassId) (ad : Nat → Nat) (A : Nat → Prop), CX p s m args meth c cc mL y.cls D dA ad lo n A → meth.sig.returnType = ret → AW p l e { frames := fr, cells := 0, slots := 0, locals := lc } s m args below meth c D dA ad lo n mL A 0 0 (MQ below (MQc D dA ad lo n rv M' A) args s 0 0 A) 0 ls0 [] M) : MC y cc mL ret fr lc lo n av M rv M' := by
  intro l D dA ad sz
  refine Met.ofW (cc := cc) (maxL := mL) (ret := ret) hy rfl ?_
  intro p e s m args below meth c s₁ B hml hv
  obtain ⟨rfl, hsz, hP, hK, hD0, hSF, hNW⟩ := hv
  have hts0 := atoms_spec (ws := Cond.code y cc mL ret :: tblG) B.pre
  have hts : ∀ w ∈ tblA, w.before (av.map (cv ad)).toArray s = true := fun w hw => by
    obtain ⟨h1, h2⟩ := List.mem_filter.mp hw
    rcases Bool.or_eq_true _ _ ▸ h2 with h3 | h3
    · exact hts0 w (List.mem_cons_of_mem _ (List.mem_filter.mpr ⟨h1, h3⟩))
    · exact va_Nw.use (nestOn h3) (hNW w hw h3)
  subst hsz
  have hD := hD0.self (sz := s.heap.size)
  generalize hAe : va_A (wl dA ad lo n M) s.heap.size = A at hD hSF ⊢
  have hA : ∀ q : Nat, s.heap.size ≤ q → A q := fun q h => by rw [← hAe]; exact Or.inr h
  have X : CX p s m (av.map (cv ad)).toArray meth c cc mL y.cls D dA ad lo n A := ⟨B.exec, B.bytes, hml, findClass_of_methodNamed B.named, hts, B.notSynchronized, hK, fun M1 => wl_D hD M1, hA, hSF⟩
  have hl := lv_entry (av.map (cv ad)) (n := mL) (hlen ad)
  rw [lg_entry_eq]
  generalize (lg_sl (av.map (cv ad)) ++ List.replicate (mL - (lg_sl (av.map (cv ad))).length) Slot.unset).toArray = la at hl ⊢
  rw [lv_args_cv, hls] at hl
  exact K p l e s m _ below meth c D dA ad A X B.returns s.heap [] la hP va_S.rf hl
theorem tblIn {y : MethodName} {cc : ByteArray} {mL : Nat} {ret : Option FieldType} (h : Cond.code y cc mL ret ∈ tblA) : GoodIn tblA (Cond.code y cc mL ret :: tblG) := fun w hw => by
  rcases List.mem_cons.mp hw with e | h2
  · subst e
    exact ⟨h, good_of_word rfl⟩
  · obtain ⟨h3, h4⟩ := List.mem_filter.mp h2
    exact ⟨List.mem_filter.mpr ⟨h3, by rw [h4]; rfl⟩, good_of_word h4⟩
/-- what the tables say of a method that is called -/
def YV (y : MethodName) (cc : ByteArray) (mL : Nat) (ret : Option FieldType) (na : Nat) : Prop := Cond.instanceMethod y ∈ tblA ∧ Cond.selects y.cls y y ∈ tblA ∧ Cond.initialized y.cls ∈ tblA ∧ Cond.code y cc mL ret ∈ tblA ∧ (y.cls ≠ "java/lang/invoke/MethodHandle" ∧ y.cls ≠ "java/lang/invoke/VarHandle" ∧ (parseMethodDescriptor y.desc).map (fun d => d.parameters.length) = some na)
def YS (y : MethodName) (cc : ByteArray) (mL : Nat) (ret : Option FieldType) (na : Nat) : Prop := Cond.static y ∈ tblA ∧ Cond.initialized y.cls ∈ tblA ∧ Cond.code y cc mL ret ∈ tblA ∧ (y.cls ≠ "java/lang/invoke/MethodHandle" ∧ y.cls ≠ "java/lang/invoke/VarHandle" ∧ (parseMethodDescriptor y.desc).map (fun d => d.parameters.length) = some na)
section AWC
variable {p : Program} {l : Launch} {e : Env} {R : Room} {s : State} {m : MethodId} {args : Array Value} {below : List Frame} {meth : Method} {c : Code} {D : va_G} {dA : Nat → ClassId} {ad : Nat → Nat} {lo n nL : Nat} {A : Nat → Prop} {kc ks : Nat} {Q : State → Prop} {cc : ByteArray} {own : String}
variable {pc pc' : Nat} {ls ls' : List (Nat × Value)} {rest st : List Value} {M M' : MM} {y : MethodName} {cy : ByteArray} {mL fr lc na ix : Nat} {ret : Option FieldType} {As : List Value} {rv : Option Value}
theorem MPc.blind {D : va_G} {dA : Nat → ClassId} {ad : Nat → Nat} {lo n sz : Nat} {M : MM} {av : List Value} : FrameBlind (va_Pc av (MPc D dA ad lo n sz M)) := fun a U g mk q => by
  obtain ⟨q0, q1, qP, qK, qD, qS, qN⟩ := q
  exact ⟨q0, q1, qP, va_K.moved (u := U) (U := U.calling g mk a) (Vm.Alike.refl U.vm) qK, qD, qS.step (u := U) (U := U.calling g mk a) (Vm.Alike.refl U.vm) (fun _ _ _ => rfl) (fun _ h => h), fun w hw hn => va_Nw.same (u := U) (U := U.calling g mk a) (nestOn hn) rfl (qN w hw hn)⟩
theorem CX.pre (X : CX p s m args meth c cc nL own D dA ad lo n A) {H : Heap} {locs : List Loc} (hP : va_P D vwCl (wl dA ad lo n M) H) (hS : va_S A s.heap H locs) (av : List Value) : ∀ U : State, U.heap = H → s.WarmedH U.vm → va_Pc av (MPc D dA ad lo n H.size M) av.toArray U := fun U hU hW => by
  refine ⟨rfl, by rw [hU], by rw [hU]; exact hP, va_K.moved hW.alike X.2.2.2.2.2.2.1, (X.2.2.2.2.2.2.2.1 M).weaken (fun _ _ _ _ => trivial), ?_, fun w hw hn => nestWarm hn hW (va_Nw.of (nestOn hn) (X.2.2.2.2.1 w hw))⟩
  rw [hU]
  refine X.2.2.2.2.2.2.2.2.2.step hW.alike (fun q h1 h2 => hS.2.1 q h1 h2) (fun q h => ?_)
  rcases h with ⟨k, E, h⟩ | h
  · exact (X.2.2.2.2.2.2.2.1 M).2 k (q, E) h
  · exact X.2.2.2.2.2.2.2.2.1 q (Nat.le_trans hS.1 h)
theorem AW.back (X : CX p s m args meth c cc nL own D dA ad lo n A) {H : Heap} {locs : List Loc} {la : Array Slot} {av : List Value} {a : Array Value} (hS : va_S A s.heap H locs) (h : lv_has la nL (cvl ad ls)) (hcv : rv.map (cv ad) = rv)
    (hr : va_Run p l e R s m args below meth c H locs kc ks 0 0 (F0 m pc la av) (rest.map (cv ad)) (MQc D dA ad lo n rv M' (va_A (wl dA ad lo n M) H.size) a) (va_A (wl dA ad lo n M) H.size)) (k : AW p l e R s m args below meth c D dA ad lo n nL A kc ks Q (pc + 3) ls (rv.toList ++ rest) M') : W p l e R s m args below meth c H locs kc ks Q (F0 m pc la av) := by
  have hF : ∀ q, va_A (wl dA ad lo n M) H.size q → A q := fun q z => by
    rcases z with ⟨k, E, z⟩ | z
    · exact (X.2.2.2.2.2.2.2.1 M).2 k (q, E) z
    · exact X.2.2.2.2.2.2.2.2.1 q (Nat.le_trans hS.1 z)
  intro T hT Xs
  obtain ⟨v, st₀, t, T', L, h0, X', hL, e1, e2, ⟨⟨hv, hP1⟩, hz, hk⟩, stp⟩ := hr T hT Xs
  cases hv
  rw [h0] at hz hk
  have hst : (rv.toList ++ rest.map (cv ad)) = (rv.toList ++ rest).map (cv ad) := by
    rw [List.map_append]
    congr 1
    cases rv with
    | none => rfl
    | some w => simp only [Option.map_some, Option.some.injEq] at hcv; simp [hcv]
  rw [hst] at stp
  obtain ⟨t2, a1, b1⟩ := k T'.heap (locs ++ L) la (by rw [e1]; exact hP1) ⟨Nat.le_trans hS.1 (by rw [e1]; exact hz), fun q h1 h2 => by rw [e1, hk q (Nat.lt_of_lt_of_le h1 hS.1) (fun z => h2 (hF q z))]; exact hS.2.1 q h1 h2, fun q hq => by
      rcases List.mem_append.mp hq with h | h
      · exact hS.2.2 q h
      · exact hF _ (hL q h)⟩ h T' rfl X'
  exact ⟨t2, stp t2 a1, b1⟩
theorem AW.callV {a w ci : Nat} {fs : List Value} {q : vw_C} (X : CX p s m args meth c cc nL own D dA ad lo n A) (hM : MC y cy mL ret fr lc lo n (.ref a :: As) M rv M') (Y : YV y cy mL ret na) (h1 : lo ≤ a) (h2 : a + (w + 1) ≤ lo + n) (he : cellF dA ad a (M a) = .inr (ci, fs)) (hc : vwCl[ci]? = some q) (hq : q.1 = y.cls) (hl : Cond.methodLink own ix y ∈ tblA) (hR : fr + 1 ≤ R.frames ∧ 8 + (mL + 11) + lc ≤ R.locals ∧ kc ≤ R.cells ∧ ks ≤ R.slots) (hna : As.length = na) (hcat : (rest.map fun v => v.category).sum ≤ 8) (hcv : rv.map (cv ad) = rv) (hst : st = As.reverse ++ .ref a :: rest) (hd : decode cc pc = .ok (.invokevirtual ix, 3)) (hn : pc + 3 = pc') (k : AW p l e R s m args below meth c D dA ad lo n nL A kc ks Q pc' ls (rv.toList ++ rest) M') : AW p l e R s m args below meth c D dA ad lo n nL A kc ks Q pc ls st M := by
  subst hn hst
  intro H locs la hP hS h
  have hwa := X.2.2.2.2.1
  have hG := tblIn Y.2.2.2.1
  refine AW.back X (M := M) (M' := M') (rv := rv) (rest := rest) (a := (Value.ref (ad a) :: As.map (cv ad)).toArray) hS h hcv ?_ k
  refine va_runV (C := y.cls) (ret := ret) (maxL := mL) (bytes := cy) (own := own) (index := ix) (As := As.map (cv ad)) (rest := rest.map (cv ad)) (n := na) ⟨X.1, X.2.1, X.2.2.1, X.2.2.2.1, hwa⟩ (hM l D dA ad H.size) ?_ ⟨MPc.blind, ?_, X.pre hP hS _⟩ rfl (by rw [List.length_map]; exact hna) h.1 (by simp [cv]) (lv_room (by rw [map_cat]; exact hcat)) hd ⟨hR.2.2.1, hR.2.2.2⟩
  · exact ⟨callB_of na hwa hG rfl rfl rfl (hwa _ Y.2.2.1) (hwa _ hl) Y.2.2.2.2 ⟨hR.1, hR.2.1⟩, hwa _ Y.1, hwa _ Y.2.1⟩
  · have := va_recv X.2.2.2.2.2.2.1 hP hc (wl_at h1 h2 he)
    rw [hq] at this
    exact this
theorem AW.callS (X : CX p s m args meth c cc nL own D dA ad lo n A) (hM : MC y cy mL ret fr lc lo n As M rv M') (Y : YS y cy mL ret na) (hl : Cond.methodLink own ix y ∈ tblA) (hR : fr + 1 ≤ R.frames ∧ 8 + (mL + 11) + lc ≤ R.locals ∧ kc ≤ R.cells ∧ ks ≤ R.slots) (hna : As.length = na) (hcat : (rest.map fun v => v.category).sum ≤ 8) (hcv : rv.map (cv ad) = rv) (hst : st = As.reverse ++ rest) (hd : decode cc pc = .ok (.invokestatic ix, 3)) (hn : pc + 3 = pc') (k : AW p l e R s m args below meth c D dA ad lo n nL A kc ks Q pc' ls (rv.toList ++ rest) M') : AW p l e R s m args below meth c D dA ad lo n nL A kc ks Q pc ls st M := by
  subst hn hst
  intro H locs la hP hS h
  have hwa := X.2.2.2.2.1
  have hG := tblIn Y.2.2.1
  refine AW.back X (M := M) (M' := M') (rv := rv) (rest := rest) (a := (As.map (cv ad)).toArray) hS h hcv ?_ k
  refine va_runS (ret := ret) (maxL := mL) (bytes := cy) (own := own) (index := ix) (As := As.map (cv ad)) (rest := rest.map (cv ad)) (n := na) ⟨X.1, X.2.1, X.2.2.1, X.2.2.2.1, hwa⟩ (hM l D dA ad H.size) ?_ ⟨MPc.blind, X.pre hP hS _⟩ rfl (by rw [List.length_map]; exact hna) h.1 (by simp) (lv_room (by rw [map_cat]; exact hcat)) hd ⟨hR.2.2.1, hR.2.2.2⟩
  exact ⟨callB_of na hwa hG rfl rfl rfl (hwa _ Y.2.1) (hwa _ hl) Y.2.2.2 ⟨hR.1, hR.2.1⟩, hwa _ Y.1⟩
theorem AW.callN {host : String} (X : CX p s m args meth c cc nL own D dA ad lo n A) (hM : MC y cy mL ret fr lc lo n As M rv M') (Y : YS y cy mL ret na) (hl : Cond.methodLinkNest own ix y host ∈ tblA) (hR : fr + 1 ≤ R.frames ∧ 8 + (mL + 11) + lc ≤ R.locals ∧ kc ≤ R.cells ∧ ks ≤ R.slots) (hna : As.length = na) (hcat : (rest.map fun v => v.category).sum ≤ 8) (hcv : rv.map (cv ad) = rv) (hst : st = As.reverse ++ rest) (hd : decode cc pc = .ok (.invokestatic ix, 3)) (hn : pc + 3 = pc') (k : AW p l e R s m args below meth c D dA ad lo n nL A kc ks Q pc' ls (rv.toList ++ rest) M') : AW p l e R s m args below meth c D dA ad lo n nL A kc ks Q pc ls st M := by
  subst hn hst
  intro H locs la hP hS h
  have hwa := X.2.2.2.2.1
  have hG := tblIn Y.2.2.1
  refine AW.back X (M := M) (M' := M') (rv := rv) (rest := rest) (a := (As.map (cv ad)).toArray) hS h hcv ?_ k
  refine va_runSN (ret := ret) (maxL := mL) (bytes := cy) (own := own) (index := ix) (As := As.map (cv ad)) (rest := rest.map (cv ad)) (n := na) ⟨X.1, X.2.1, X.2.2.1, X.2.2.2.1, hwa⟩ (hM l D dA ad H.size) ⟨va_cnB na hwa hG rfl rfl rfl (va_Nw.of rfl (hwa _ hl)) (hwa _ Y.2.1) Y.2.2.2 ⟨hR.1, hR.2.1⟩, hwa _ Y.1, trivial⟩ ⟨MPc.blind, X.pre hP hS _⟩ rfl (by rw [List.length_map]; exact hna) h.1 (by simp) (lv_room (by rw [map_cat]; exact hcat)) hd ⟨hR.2.2.1, hR.2.2.2⟩
theorem AW.iret {v : Int32} (X : CX p s m args meth c cc nL own D dA ad lo n A) (hr : meth.sig.returnType = some .int) (hd : decode cc pc = .ok (.ireturn, 1)) : AW p l e R s m args below meth c D dA ad lo n nL A 0 0 (MQ below (MQc D dA ad lo n (some (.int v)) M A) args s 0 0 A) pc ls [.int v] M := fun H locs la hP hS h =>
  W.iret X.1 X.2.1 hr (fun t ht hW => ⟨⟨rfl, by rw [ht]; exact hP⟩, hS.F ht⟩) hS.2.2 hd (hlocks := X.2.2.2.2.2.1)
theorem AW.zret {b : Bool} (X : CX p s m args meth c cc nL own D dA ad lo n A) (hr : meth.sig.returnType = some .boolean) (hd : decode cc pc = .ok (.ireturn, 1)) : AW p l e R s m args below meth c D dA ad lo n nL A 0 0 (MQ below (MQc D dA ad lo n (some (.int (bz b))) M A) args s 0 0 A) pc ls [.int (bz b)] M := fun H locs la hP hS h =>
  W.zret X.1 X.2.1 hr (by cases b <;> rfl) (fun t ht hW => ⟨⟨rfl, by rw [ht]; exact hP⟩, hS.F ht⟩) hS.2.2 hd (hlocks := X.2.2.2.2.2.1)
theorem AW.lret {v : Int64} (X : CX p s m args meth c cc nL own D dA ad lo n A) (hr : meth.sig.returnType = some .long) (hd : decode cc pc = .ok (.lreturn, 1)) : AW p l e R s m args below meth c D dA ad lo n nL A 0 0 (MQ below (MQc D dA ad lo n (some (.long v)) M A) args s 0 0 A) pc ls [.long v] M := fun H locs la hP hS h =>
  W.lret X.1 X.2.1 hr (fun t ht hW => ⟨⟨rfl, by rw [ht]; exact hP⟩, hS.F ht⟩) hS.2.2 hd (hlocks := X.2.2.2.2.2.1)
theorem AW.vret (X : CX p s m args meth c cc nL own D dA ad lo n A) (hr : meth.sig.returnType = none) (hd : decode cc pc = .ok (.return_, 1)) : AW p l e R s m args below meth c D dA ad lo n nL A 0 0 (MQ below (MQc D dA ad lo n none M A) args s 0 0 A) pc ls [] M := fun H locs la hP hS h =>
  W.vret X.1 X.2.1 hr (fun t ht hW => ⟨⟨rfl, by rw [ht]; exact hP⟩, hS.F ht⟩) hS.2.2 hd (hlocks := X.2.2.2.2.2.1)
end AWC
end
section
/-! SUPPORT of the functions f_..: guards, fuel, rules for the fields of each class -/
def FU : Nat := 5000
def gd {α : Type} (b : Bool) (k : Option α) : Option α := if b = true then k else none
theorem gd_some {α : Type} {b : Bool} {k : Option α} {r : α} (h : gd b k = some r) : b = true ∧ k = some r := by
  unfold gd at h
  by_cases hb : b = true
  · rw [if_pos hb] at h; exact ⟨hb, h⟩
  · rw [if_neg hb] at h; cases h
abbrev ix (i : Int32) : Nat := i.toNatClampNeg
def inb (i : Int32) (L : Nat) : Bool := !(decide (i < 0)) && decide (i.toNatClampNeg < L)
theorem inb_vp {i : Int32} {L : Nat} (h : inb i L = true) : vp_in i L := by
  simp only [inb, Bool.and_eq_true, Bool.not_eq_true', decide_eq_false_iff_not, decide_eq_true_eq] at h
  exact fun q => q.elim h.1 (fun q => absurd h.2 (Nat.not_lt.mpr q))
theorem inb_lt {i : Int32} {L : Nat} (h : inb i L = true) : i.toNatClampNeg < L := by
  simp only [inb, Bool.and_eq_true, decide_eq_true_eq] at h
  exact h.2
def nzl (x : Int64) : Bool := !(x == 0)
theorem nz_ne {x : Int32} (h : nz x = true) : ¬ x = 0 := by
  intro e; subst e; exact absurd h (by decide)
theorem nzl_ne {x : Int64} (h : nzl x = true) : ¬ x = 0 := by
  intro e; subst e; exact absurd h (by decide)
theorem nz_bz (b : Bool) : nz (bz b) = b := by cases b <;> decide
theorem itep {α : Type} {c : Prop} [Decidable c] {a b r : Option α} (q : c) (h : (if c then a else b) = r) : a = r := by rw [if_pos q] at h; exact h
theorem iten {α : Type} {c : Prop} [Decidable c] {a b r : Option α} (q : ¬ c) (h : (if c then a else b) = r) : b = r := by rw [if_neg q] at h; exact h
theorem none_some {α : Type} {P : Prop} {r : α} (h : (none : Option α) = some r) : P := by cases h
def acg (sp dp z : Int32) (L L2 : Nat) : Bool := !(decide (sp < 0)) && (!(decide (dp < 0)) && (!(decide (z < 0)) && (decide (sp.toNatClampNeg + z.toNatClampNeg ≤ L) && decide (dp.toNatClampNeg + z.toNatClampNeg ≤ L2))))
theorem acg_all {sp dp z : Int32} {L L2 : Nat} (h : acg sp dp z L L2 = true) : ¬ sp < 0 ∧ ¬ dp < 0 ∧ ¬ z < 0 ∧ sp.toNatClampNeg + z.toNatClampNeg ≤ L ∧ dp.toNatClampNeg + z.toNatClampNeg ≤ L2 := by
  simpa only [acg, Bool.and_eq_true, Bool.not_eq_true', decide_eq_false_iff_not, decide_eq_true_eq] using h
theorem acg_1 {sp dp z : Int32} {L L2 : Nat} (h : acg sp dp z L L2 = true) : ¬ sp < 0 := (acg_all h).1
theorem acg_2 {sp dp z : Int32} {L L2 : Nat} (h : acg sp dp z L L2 = true) : ¬ dp < 0 := (acg_all h).2.1
theorem acg_3 {sp dp z : Int32} {L L2 : Nat} (h : acg sp dp z L L2 = true) : ¬ z < 0 := (acg_all h).2.2.1
theorem acg_4 {sp dp z : Int32} {L L2 : Nat} (h : acg sp dp z L L2 = true) : sp.toNatClampNeg + z.toNatClampNeg ≤ L := (acg_all h).2.2.2.1
theorem acg_5 {sp dp z : Int32} {L L2 : Nat} (h : acg sp dp z L L2 = true) : dp.toNatClampNeg + z.toNatClampNeg ≤ L2 := (acg_all h).2.2.2.2
abbrev AR (p : Program) (l : Launch) (e : Env) (fr lc : Nat) (s : State) (m : MethodId) (args : Array Value) (below : List Frame) (meth : Method) (c : Code) (D : va_G) (dA : Nat → ClassId) (ad : Nat → Nat) (lo n nL : Nat) (A : Nat → Prop) (rv : Option Value) (M' : MM) (pc : Nat) (ls : List (Nat × Value)) (st : List Value) (M : MM) : Prop := AW p l e { frames := fr, cells := 0, slots := 0, locals := lc } s m args below meth c D dA ad lo n nL A 0 0 (MQ below (MQc D dA ad lo n rv M' A) args s 0 0 A) pc ls st M
theorem inX0 : ∀ w ∈ wsX00, w ∈ tblA := by
  have h : wsX00 = [151, 153, 155, 157, 159, 161, 163, 165, 167, 169, 171, 173, 175, 177, 179, 181, 183, 185].filterMap (fun i => lw_tbl[i]?) := by decide +kernel
  have h2 : wsX00.all (fun w => goodWord w || isNest w) = true := by decide +kernel
  intro w hw
  have h3 := List.all_eq_true.mp h2 w hw
  rw [h] at hw
  obtain ⟨i, -, hi⟩ := List.mem_filterMap.mp hw
  exact tA (List.mem_of_getElem? hi) h3
theorem inX1 : ∀ w ∈ wsX10, w ∈ tblA := by
  have h : wsX10 = [293, 295, 297].filterMap (fun i => lw_tbl[i]?) := by decide +kernel
  have h2 : wsX10.all (fun w => goodWord w || isNest w) = true := by decide +kernel
  intro w hw
  have h3 := List.all_eq_true.mp h2 w hw
  rw [h] at hw
  obtain ⟨i, -, hi⟩ := List.mem_filterMap.mp hw
  exact tA (List.mem_of_getElem? hi) h3
theorem inX2 : ∀ w ∈ wsX20, w ∈ tblA := by
  have h : wsX20 = [97, 99].filterMap (fun i => lw_tbl[i]?) := by decide +kernel
  have h2 : wsX20.all (fun w => goodWord w || isNest w) = true := by decide +kernel
  intro w hw
  have h3 := List.all_eq_true.mp h2 w hw
  rw [h] at hw
  obtain ⟨i, -, hi⟩ := List.mem_filterMap.mp hw
  exact tA (List.mem_of_getElem? hi) h3
theorem inX3 : ∀ w ∈ wsX30, w ∈ tblA := by
  have h : wsX30 = [113, 115, 117].filterMap (fun i => lw_tbl[i]?) := by decide +kernel
  have h2 : wsX30.all (fun w => goodWord w || isNest w) = true := by decide +kernel
  intro w hw
  have h3 := List.all_eq_true.mp h2 w hw
  rw [h] at hw
  obtain ⟨i, -, hi⟩ := List.mem_filterMap.mp hw
  exact tA (List.mem_of_getElem? hi) h3
theorem inX4 : ∀ w ∈ wsX40, w ∈ tblA := by
  have h : wsX40 = [245, 247, 249, 251, 253, 255, 257, 259, 261, 263, 265, 267, 269, 271, 273, 275, 277].filterMap (fun i => lw_tbl[i]?) := by decide +kernel
  have h2 : wsX40.all (fun w => goodWord w || isNest w) = true := by decide +kernel
  intro w hw
  have h3 := List.all_eq_true.mp h2 w hw
  rw [h] at hw
  obtain ⟨i, -, hi⟩ := List.mem_filterMap.mp hw
  exact tA (List.mem_of_getElem? hi) h3
theorem inX5 : ∀ w ∈ wsX50, w ∈ tblA := by
  have h : wsX50 = [317, 319, 321, 323, 325, 327, 329].filterMap (fun i => lw_tbl[i]?) := by decide +kernel
  have h2 : wsX50.all (fun w => goodWord w || isNest w) = true := by decide +kernel
  intro w hw
  have h3 := List.all_eq_true.mp h2 w hw
  rw [h] at hw
  obtain ⟨i, -, hi⟩ := List.mem_filterMap.mp hw
  exact tA (List.mem_of_getElem? hi) h3
theorem inX6 : ∀ w ∈ wsX60, w ∈ tblA := by
  have h : wsX60 = [339, 341, 343, 345, 347, 349].filterMap (fun i => lw_tbl[i]?) := by decide +kernel
  have h2 : wsX60.all (fun w => goodWord w || isNest w) = true := by decide +kernel
  intro w hw
  have h3 := List.all_eq_true.mp h2 w hw
  rw [h] at hw
  obtain ⟨i, -, hi⟩ := List.mem_filterMap.mp hw
  exact tA (List.mem_of_getElem? hi) h3
theorem inX7 : ∀ w ∈ wsX70, w ∈ tblA := by
  have h : wsX70 = [822, 824, 826, 828, 830, 832, 834, 836].filterMap (fun i => lw_tbl[i]?) := by decide +kernel
  have h2 : wsX70.all (fun w => goodWord w || isNest w) = true := by decide +kernel
  intro w hw
  have h3 := List.all_eq_true.mp h2 w hw
  rw [h] at hw
  obtain ⟨i, -, hi⟩ := List.mem_filterMap.mp hw
  exact tA (List.mem_of_getElem? hi) h3
section AWF
variable {p : Program} {l : Launch} {e : Env} {R : Room} {s : State} {m : MethodId} {args : Array Value} {below : List Frame} {meth : Method} {c : Code} {D : va_G} {dA : Nat → ClassId} {ad : Nat → Nat} {lo n nL : Nat} {A : Nat → Prop} {kc ks : Nat} {Q : State → Prop} {cc : ByteArray} {own : String}
variable {pc pc' : Nat} {ls ls' : List (Nat × Value)} {rest : List Value} {M : MM} {a ix0 : Nat}
theorem AW.gX0 {v : Value} (X : CX p s m args meth c cc nL own D dA ad lo n A) (t : tCh lo n a) (k0 : Nat) (hk : k0 < 18) (hT : (TX0 k0).1 = RX0) (hl : Cond.fieldLink own ix0 RX0 (TX0 k0).2.1 (TX0 k0).2.2.1 ∈ tblA) (hv : (fsC ad a (M a))[k0]? = some (cv ad v)) (hd : decode cc pc = .ok (.getfield ix0, 3)) (hn : pc + 3 = pc') (k : AW p l e R s m args below meth c D dA ad lo n nL A kc ks Q pc' ls (v :: rest) M) : AW p l e R s m args below meth c D dA ad lo n nL A kc ks Q pc ls (.ref a :: rest) M :=
  AW.getf (C := RX0) (T := TX0) (N := 18) (ci := 0) (w := 8) X k0 t.1 t.2.1 (cC t dA ad (M a)) rfl inX0 hk hT hl hv hd hn k
theorem AW.pX0 {x : Int32} (X : CX p s m args meth c cc nL own D dA ad lo n A) (t : tCh lo n a) (k0 : Nat) (hk : k0 < 18) (hT : (TX0 k0).1 = RX0) (hl : Cond.fieldLink own ix0 RX0 (TX0 k0).2.1 (TX0 k0).2.2.1 ∈ tblA) (hfin : (TX0 k0).2.2.2 = false) (hpd : parseFieldDescriptor (TX0 k0).2.2.1 = some .int) (hs : fsC ad a (upd (M a) k0 x) = (fsC ad a (M a)).set k0 (.int x)) (hlen : k0 + 1 ≤ 18) (hd : decode cc pc = .ok (.putfield ix0, 3)) (hn : pc + 3 = pc') (k : AW p l e R s m args below meth c D dA ad lo n nL A kc ks Q pc' ls rest (ms M a k0 x)) : AW p l e R s m args below meth c D dA ad lo n nL A kc ks Q pc ls (.int x :: .ref a :: rest) M :=
  AW.putf (C := RX0) (T := TX0) (N := 18) (ci := 0) (w := 8) (r := upd (M a) k0 x) X k0 t.1 t.2.1 (cC t dA ad (M a)) (by rw [← hs]; exact cC t dA ad _) rfl inX0 tyX0 tyX0_ok nmX0 hk hT hl hfin hpd rfl rfl hlen rfl hd hn k
theorem AW.zX0 {b : Bool} (X : CX p s m args meth c cc nL own D dA ad lo n A) (t : tCh lo n a) (k0 : Nat) (hk : k0 < 18) (hT : (TX0 k0).1 = RX0) (hl : Cond.fieldLink own ix0 RX0 (TX0 k0).2.1 (TX0 k0).2.2.1 ∈ tblA) (hfin : (TX0 k0).2.2.2 = false) (hpd : parseFieldDescriptor (TX0 k0).2.2.1 = some .boolean) (hs : fsC ad a (upd (M a) k0 (bz b)) = (fsC ad a (M a)).set k0 (.int (bz b))) (hlen : k0 + 1 ≤ 18) (hd : decode cc pc = .ok (.putfield ix0, 3)) (hn : pc + 3 = pc') (k : AW p l e R s m args below meth c D dA ad lo n nL A kc ks Q pc' ls rest (ms M a k0 (bz b))) : AW p l e R s m args below meth c D dA ad lo n nL A kc ks Q pc ls (.int (bz b) :: .ref a :: rest) M :=
  AW.putf (C := RX0) (T := TX0) (N := 18) (ci := 0) (w := 8) (r := upd (M a) k0 (bz b)) X k0 t.1 t.2.1 (cC t dA ad (M a)) (by rw [← hs]; exact cC t dA ad _) rfl inX0 tyX0 tyX0_ok nmX0 hk hT hl hfin hpd (by cases b <;> rfl) (by cases b <;> rfl) hlen rfl hd hn k
theorem AW.gX1 {v : Value} (X : CX p s m args meth c cc nL own D dA ad lo n A) (t : tHi lo n a) (k0 : Nat) (hk : k0 < 3) (hT : (TX1 k0).1 = RX1) (hl : Cond.fieldLink own ix0 RX1 (TX1 k0).2.1 (TX1 k0).2.2.1 ∈ tblA) (hv : (fsH ad a (M a))[k0]? = some (cv ad v)) (hd : decode cc pc = .ok (.getfield ix0, 3)) (hn : pc + 3 = pc') (k : AW p l e R s m args below meth c D dA ad lo n nL A kc ks Q pc' ls (v :: rest) M) : AW p l e R s m args below meth c D dA ad lo n nL A kc ks Q pc ls (.ref a :: rest) M :=
  AW.getf (C := RX1) (T := TX1) (N := 3) (ci := 1) (w := 1) X k0 t.1.1 t.1.2.1 (cH t dA ad (M a)) rfl inX1 hk hT hl hv hd hn k
theorem AW.pX1 {x : Int32} (X : CX p s m args meth c cc nL own D dA ad lo n A) (t : tHi lo n a) (k0 : Nat) (hk : k0 < 3) (hT : (TX1 k0).1 = RX1) (hl : Cond.fieldLink own ix0 RX1 (TX1 k0).2.1 (TX1 k0).2.2.1 ∈ tblA) (hfin : (TX1 k0).2.2.2 = false) (hpd : parseFieldDescriptor (TX1 k0).2.2.1 = some .int) (hs : fsH ad a (upd (M a) k0 x) = (fsH ad a (M a)).set k0 (.int x)) (hlen : k0 + 1 ≤ 3) (hd : decode cc pc = .ok (.putfield ix0, 3)) (hn : pc + 3 = pc') (k : AW p l e R s m args below meth c D dA ad lo n nL A kc ks Q pc' ls rest (ms M a k0 x)) : AW p l e R s m args below meth c D dA ad lo n nL A kc ks Q pc ls (.int x :: .ref a :: rest) M :=
  AW.putf (C := RX1) (T := TX1) (N := 3) (ci := 1) (w := 1) (r := upd (M a) k0 x) X k0 t.1.1 t.1.2.1 (cH t dA ad (M a)) (by rw [← hs]; exact cH t dA ad _) rfl inX1 tyX1 tyX1_ok nmX1 hk hT hl hfin hpd rfl rfl hlen rfl hd hn k
theorem AW.gX2 {v : Value} (X : CX p s m args meth c cc nL own D dA ad lo n A) (t : tLn lo n a) (k0 : Nat) (hk : k0 < 2) (hT : (TX2 k0).1 = RX2) (hl : Cond.fieldLink own ix0 RX2 (TX2 k0).2.1 (TX2 k0).2.2.1 ∈ tblA) (hv : (fsL ad a (M a))[k0]? = some (cv ad v)) (hd : decode cc pc = .ok (.getfield ix0, 3)) (hn : pc + 3 = pc') (k : AW p l e R s m args below meth c D dA ad lo n nL A kc ks Q pc' ls (v :: rest) M) : AW p l e R s m args below meth c D dA ad lo n nL A kc ks Q pc ls (.ref a :: rest) M :=
  AW.getf (C := RX2) (T := TX2) (N := 2) (ci := 2) (w := 1) X k0 t.1 t.2.1 (cL t dA ad (M a)) rfl inX2 hk hT hl hv hd hn k
theorem AW.pX2 {x : Int32} (X : CX p s m args meth c cc nL own D dA ad lo n A) (t : tLn lo n a) (k0 : Nat) (hk : k0 < 2) (hT : (TX2 k0).1 = RX2) (hl : Cond.fieldLink own ix0 RX2 (TX2 k0).2.1 (TX2 k0).2.2.1 ∈ tblA) (hfin : (TX2 k0).2.2.2 = false) (hpd : parseFieldDescriptor (TX2 k0).2.2.1 = some .int) (hs : fsL ad a (upd (M a) k0 x) = (fsL ad a (M a)).set k0 (.int x)) (hlen : k0 + 1 ≤ 2) (hd : decode cc pc = .ok (.putfield ix0, 3)) (hn : pc + 3 = pc') (k : AW p l e R s m args below meth c D dA ad lo n nL A kc ks Q pc' ls rest (ms M a k0 x)) : AW p l e R s m args below meth c D dA ad lo n nL A kc ks Q pc ls (.int x :: .ref a :: rest) M :=
  AW.putf (C := RX2) (T := TX2) (N := 2) (ci := 2) (w := 1) (r := upd (M a) k0 x) X k0 t.1 t.2.1 (cL t dA ad (M a)) (by rw [← hs]; exact cL t dA ad _) rfl inX2 tyX2 tyX2_ok nmX2 hk hT hl hfin hpd rfl rfl hlen rfl hd hn k
theorem AW.gX3 {v : Value} (X : CX p s m args meth c cc nL own D dA ad lo n A) (t : tPf lo n a) (k0 : Nat) (hk : k0 < 3) (hT : (TX3 k0).1 = RX3) (hl : Cond.fieldLink own ix0 RX3 (TX3 k0).2.1 (TX3 k0).2.2.1 ∈ tblA) (hv : (fsP ad a (M a))[k0]? = some (cv ad v)) (hd : decode cc pc = .ok (.getfield ix0, 3)) (hn : pc + 3 = pc') (k : AW p l e R s m args below meth c D dA ad lo n nL A kc ks Q pc' ls (v :: rest) M) : AW p l e R s m args below meth c D dA ad lo n nL A kc ks Q pc ls (.ref a :: rest) M :=
  AW.getf (C := RX3) (T := TX3) (N := 3) (ci := 3) (w := 2) X k0 t.1 t.2.1 (cP t dA ad (M a)) rfl inX3 hk hT hl hv hd hn k
theorem AW.pX3 {x : Int32} (X : CX p s m args meth c cc nL own D dA ad lo n A) (t : tPf lo n a) (k0 : Nat) (hk : k0 < 3) (hT : (TX3 k0).1 = RX3) (hl : Cond.fieldLink own ix0 RX3 (TX3 k0).2.1 (TX3 k0).2.2.1 ∈ tblA) (hfin : (TX3 k0).2.2.2 = false) (hpd : parseFieldDescriptor (TX3 k0).2.2.1 = some .int) (hs : fsP ad a (upd (M a) k0 x) = (fsP ad a (M a)).set k0 (.int x)) (hlen : k0 + 1 ≤ 3) (hd : decode cc pc = .ok (.putfield ix0, 3)) (hn : pc + 3 = pc') (k : AW p l e R s m args below meth c D dA ad lo n nL A kc ks Q pc' ls rest (ms M a k0 x)) : AW p l e R s m args below meth c D dA ad lo n nL A kc ks Q pc ls (.int x :: .ref a :: rest) M :=
  AW.putf (C := RX3) (T := TX3) (N := 3) (ci := 3) (w := 2) (r := upd (M a) k0 x) X k0 t.1 t.2.1 (cP t dA ad (M a)) (by rw [← hs]; exact cP t dA ad _) rfl inX3 tyX3 tyX3_ok nmX3 hk hT hl hfin hpd rfl rfl hlen rfl hd hn k
theorem AW.gX4 {v : Value} (X : CX p s m args meth c cc nL own D dA ad lo n A) (t : tSt lo n a) (k0 : Nat) (hk : k0 < 17) (hT : (TX4 k0).1 = RX4) (hl : Cond.fieldLink own ix0 RX4 (TX4 k0).2.1 (TX4 k0).2.2.1 ∈ tblA) (hv : (fsS ad a (M a))[k0]? = some (cv ad v)) (hd : decode cc pc = .ok (.getfield ix0, 3)) (hn : pc + 3 = pc') (k : AW p l e R s m args below meth c D dA ad lo n nL A kc ks Q pc' ls (v :: rest) M) : AW p l e R s m args below meth c D dA ad lo n nL A kc ks Q pc ls (.ref a :: rest) M :=
  AW.getf (C := RX4) (T := TX4) (N := 17) (ci := 4) (w := 64) X k0 t.1 t.2.1 (cS t dA ad (M a)) rfl inX4 hk hT hl hv hd hn k
theorem AW.pX4 {x : Int32} (X : CX p s m args meth c cc nL own D dA ad lo n A) (t : tSt lo n a) (k0 : Nat) (hk : k0 < 17) (hT : (TX4 k0).1 = RX4) (hl : Cond.fieldLink own ix0 RX4 (TX4 k0).2.1 (TX4 k0).2.2.1 ∈ tblA) (hfin : (TX4 k0).2.2.2 = false) (hpd : parseFieldDescriptor (TX4 k0).2.2.1 = some .int) (hs : fsS ad a (upd (M a) k0 x) = (fsS ad a (M a)).set k0 (.int x)) (hlen : k0 + 1 ≤ 17) (hd : decode cc pc = .ok (.putfield ix0, 3)) (hn : pc + 3 = pc') (k : AW p l e R s m args below meth c D dA ad lo n nL A kc ks Q pc' ls rest (ms M a k0 x)) : AW p l e R s m args below meth c D dA ad lo n nL A kc ks Q pc ls (.int x :: .ref a :: rest) M :=
  AW.putf (C := RX4) (T := TX4) (N := 17) (ci := 4) (w := 64) (r := upd (M a) k0 x) X k0 t.1 t.2.1 (cS t dA ad (M a)) (by rw [← hs]; exact cS t dA ad _) rfl inX4 tyX4 tyX4_ok nmX4 hk hT hl hfin hpd rfl rfl hlen rfl hd hn k
theorem AW.zX4 {b : Bool} (X : CX p s m args meth c cc nL own D dA ad lo n A) (t : tSt lo n a) (k0 : Nat) (hk : k0 < 17) (hT : (TX4 k0).1 = RX4) (hl : Cond.fieldLink own ix0 RX4 (TX4 k0).2.1 (TX4 k0).2.2.1 ∈ tblA) (hfin : (TX4 k0).2.2.2 = false) (hpd : parseFieldDescriptor (TX4 k0).2.2.1 = some .boolean) (hs : fsS ad a (upd (M a) k0 (bz b)) = (fsS ad a (M a)).set k0 (.int (bz b))) (hlen : k0 + 1 ≤ 17) (hd : decode cc pc = .ok (.putfield ix0, 3)) (hn : pc + 3 = pc') (k : AW p l e R s m args below meth c D dA ad lo n nL A kc ks Q pc' ls rest (ms M a k0 (bz b))) : AW p l e R s m args below meth c D dA ad lo n nL A kc ks Q pc ls (.int (bz b) :: .ref a :: rest) M :=
  AW.putf (C := RX4) (T := TX4) (N := 17) (ci := 4) (w := 64) (r := upd (M a) k0 (bz b)) X k0 t.1 t.2.1 (cS t dA ad (M a)) (by rw [← hs]; exact cS t dA ad _) rfl inX4 tyX4 tyX4_ok nmX4 hk hT hl hfin hpd (by cases b <;> rfl) (by cases b <;> rfl) hlen rfl hd hn k
theorem AW.gX5 {v : Value} (X : CX p s m args meth c cc nL own D dA ad lo n A) (t : tTx lo n a) (k0 : Nat) (hk : k0 < 7) (hT : (TX5 k0).1 = RX5) (hl : Cond.fieldLink own ix0 RX5 (TX5 k0).2.1 (TX5 k0).2.2.1 ∈ tblA) (hv : (fsT ad a (M a))[k0]? = some (cv ad v)) (hd : decode cc pc = .ok (.getfield ix0, 3)) (hn : pc + 3 = pc') (k : AW p l e R s m args below meth c D dA ad lo n nL A kc ks Q pc' ls (v :: rest) M) : AW p l e R s m args below meth c D dA ad lo n nL A kc ks Q pc ls (.ref a :: rest) M :=
  AW.getf (C := RX5) (T := TX5) (N := 7) (ci := 5) (w := 1) X k0 t.1 t.2.1 (cT t dA ad (M a)) rfl inX5 hk hT hl hv hd hn k
theorem AW.pX5 {x : Int32} (X : CX p s m args meth c cc nL own D dA ad lo n A) (t : tTx lo n a) (k0 : Nat) (hk : k0 < 7) (hT : (TX5 k0).1 = RX5) (hl : Cond.fieldLink own ix0 RX5 (TX5 k0).2.1 (TX5 k0).2.2.1 ∈ tblA) (hfin : (TX5 k0).2.2.2 = false) (hpd : parseFieldDescriptor (TX5 k0).2.2.1 = some .int) (hs : fsT ad a (upd (M a) k0 x) = (fsT ad a (M a)).set k0 (.int x)) (hlen : k0 + 1 ≤ 7) (hd : decode cc pc = .ok (.putfield ix0, 3)) (hn : pc + 3 = pc') (k : AW p l e R s m args below meth c D dA ad lo n nL A kc ks Q pc' ls rest (ms M a k0 x)) : AW p l e R s m args below meth c D dA ad lo n nL A kc ks Q pc ls (.int x :: .ref a :: rest) M :=
  AW.putf (C := RX5) (T := TX5) (N := 7) (ci := 5) (w := 1) (r := upd (M a) k0 x) X k0 t.1 t.2.1 (cT t dA ad (M a)) (by rw [← hs]; exact cT t dA ad _) rfl inX5 tyX5 tyX5_ok nmX5 hk hT hl hfin hpd rfl rfl hlen rfl hd hn k
theorem AW.gX6 {v : Value} (X : CX p s m args meth c cc nL own D dA ad lo n A) (t : tSS lo n a) (k0 : Nat) (hk : k0 < 6) (hT : (TX6 k0).1 = RX6) (hl : Cond.fieldLink own ix0 RX6 (TX6 k0).2.1 (TX6 k0).2.2.1 ∈ tblA) (hv : (fsX ad)[k0]? = some (cv ad v)) (hd : decode cc pc = .ok (.getfield ix0, 3)) (hn : pc + 3 = pc') (k : AW p l e R s m args below meth c D dA ad lo n nL A kc ks Q pc' ls (v :: rest) M) : AW p l e R s m args below meth c D dA ad lo n nL A kc ks Q pc ls (.ref a :: rest) M :=
  AW.getf (C := RX6) (T := TX6) (N := 6) (ci := 6) (w := 6) X k0 t.1.1 t.1.2.1 (cX t dA ad (M a)) rfl inX6 hk hT hl hv hd hn k
theorem AW.gX7 {v : Value} (X : CX p s m args meth c cc nL own D dA ad lo n A) (t : tMo lo n a) (k0 : Nat) (hk : k0 < 8) (hT : (TX7 k0).1 = RX7) (hl : Cond.fieldLink own ix0 RX7 (TX7 k0).2.1 (TX7 k0).2.2.1 ∈ tblA) (hv : (fsM ad a (M a))[k0]? = some (cv ad v)) (hd : decode cc pc = .ok (.getfield ix0, 3)) (hn : pc + 3 = pc') (k : AW p l e R s m args below meth c D dA ad lo n nL A kc ks Q pc' ls (v :: rest) M) : AW p l e R s m args below meth c D dA ad lo n nL A kc ks Q pc ls (.ref a :: rest) M :=
  AW.getf (C := RX7) (T := TX7) (N := 8) (ci := 7) (w := 4) X k0 t.1 t.2.1 (cM t dA ad (M a)) rfl inX7 hk hT hl hv hd hn k
theorem AW.pX7 {x : Int32} (X : CX p s m args meth c cc nL own D dA ad lo n A) (t : tMo lo n a) (k0 : Nat) (hk : k0 < 8) (hT : (TX7 k0).1 = RX7) (hl : Cond.fieldLink own ix0 RX7 (TX7 k0).2.1 (TX7 k0).2.2.1 ∈ tblA) (hfin : (TX7 k0).2.2.2 = false) (hpd : parseFieldDescriptor (TX7 k0).2.2.1 = some .int) (hs : fsM ad a (upd (M a) k0 x) = (fsM ad a (M a)).set k0 (.int x)) (hlen : k0 + 1 ≤ 8) (hd : decode cc pc = .ok (.putfield ix0, 3)) (hn : pc + 3 = pc') (k : AW p l e R s m args below meth c D dA ad lo n nL A kc ks Q pc' ls rest (ms M a k0 x)) : AW p l e R s m args below meth c D dA ad lo n nL A kc ks Q pc ls (.int x :: .ref a :: rest) M :=
  AW.putf (C := RX7) (T := TX7) (N := 8) (ci := 7) (w := 4) (r := upd (M a) k0 x) X k0 t.1 t.2.1 (cM t dA ad (M a)) (by rw [← hs]; exact cM t dA ad _) rfl inX7 tyX7 tyX7_ok nmX7 hk hT hl hfin hpd rfl rfl hlen rfl hd hn k
def SCX (s : State) (A : Nat → Prop) (ad : Nat → Nat) (L : Nat) (xs : Nat → Int32) : Prop := va_X (ad 1003) L xs s s.heap ∧ ad 1003 < s.heap.size ∧ ¬ A (ad 1003)
theorem AW.sld {xs : Nat → Int32} {L : Nat} {i : Int32} (X : CX p s m args meth c cc nL own D dA ad lo n A) (hC : SCX s A ad L xs) (hi : vp_in i L) (hd : decode cc pc = .ok (.iaload, 1)) (hn : pc + 1 = pc') (k : AW p l e R s m args below meth c D dA ad lo n nL A kc ks Q pc' ls (.int (xs i.toNatClampNeg) :: rest) M) : AW p l e R s m args below meth c D dA ad lo n nL A kc ks Q pc ls (.int i :: .ref 1003 :: rest) M := by
  subst hn
  intro H locs la hP hS h
  exact va_sld X.1 X.2.1 hC.1 hC.2.1 hC.2.2 hS hi hd (k H locs la hP hS h)
theorem AW.slen {xs : Nat → Int32} {L : Nat} (X : CX p s m args meth c cc nL own D dA ad lo n A) (hC : SCX s A ad L xs) (hd : decode cc pc = .ok (.arraylength, 1)) (hn : pc + 1 = pc') (k : AW p l e R s m args below meth c D dA ad lo n nL A kc ks Q pc' ls (.int (nI L) :: rest) M) : AW p l e R s m args below meth c D dA ad lo n nL A kc ks Q pc ls (.ref 1003 :: rest) M := by
  subst hn
  intro H locs la hP hS h
  exact va_slen X.1 X.2.1 hC.1 hC.2.1 hC.2.2 hS hd (k H locs la hP hS h)
theorem false_true {P : Prop} (h : some false = some true) : P := by cases h
end AWF
end
section
theorem yv_J7_fill_53178 : YS yJ7_fill_53178 cJ7_fill_53178 4 none 2 := ⟨tA (List.mem_of_getElem? (i := 208) (by decide +kernel)) rfl, tA (List.mem_of_getElem? (i := 67) (by decide +kernel)) rfl, tA (List.mem_of_getElem? (i := 209) (by decide +kernel)) rfl, ⟨by decide, by decide, by decide +kernel⟩⟩
theorem yv_X0_forgetRun : YV yX0_forgetRun cX0_forgetRun 1 none 0 := ⟨tA (List.mem_of_getElem? (i := 204) (by decide +kernel)) rfl, tA (List.mem_of_getElem? (i := 205) (by decide +kernel)) rfl, tA (List.mem_of_getElem? (i := 64) (by decide +kernel)) rfl, tA (List.mem_of_getElem? (i := 206) (by decide +kernel)) rfl, ⟨by decide, by decide, by decide +kernel⟩⟩
theorem yv_X0_forgetGains : YV yX0_forgetGains cX0_forgetGains 1 none 0 := ⟨tA (List.mem_of_getElem? (i := 216) (by decide +kernel)) rfl, tA (List.mem_of_getElem? (i := 217) (by decide +kernel)) rfl, tA (List.mem_of_getElem? (i := 64) (by decide +kernel)) rfl, tA (List.mem_of_getElem? (i := 218) (by decide +kernel)) rfl, ⟨by decide, by decide, by decide +kernel⟩⟩
theorem yv_X0_become : YV yX0_become cX0_become 4 none 3 := ⟨tA (List.mem_of_getElem? (i := 448) (by decide +kernel)) rfl, tA (List.mem_of_getElem? (i := 449) (by decide +kernel)) rfl, tA (List.mem_of_getElem? (i := 64) (by decide +kernel)) rfl, tA (List.mem_of_getElem? (i := 450) (by decide +kernel)) rfl, ⟨by decide, by decide, by decide +kernel⟩⟩
theorem yv_X6_isWithin : YS yX6_isWithin cX6_isWithin 3 (some .boolean) 3 := ⟨tA (List.mem_of_getElem? (i := 384) (by decide +kernel)) rfl, tA (List.mem_of_getElem? (i := 60) (by decide +kernel)) rfl, tA (List.mem_of_getElem? (i := 385) (by decide +kernel)) rfl, ⟨by decide, by decide, by decide +kernel⟩⟩
theorem yv_X6_isFrequency : YS yX6_isFrequency cX6_isFrequency 1 (some .boolean) 1 := ⟨tA (List.mem_of_getElem? (i := 426) (by decide +kernel)) rfl, tA (List.mem_of_getElem? (i := 60) (by decide +kernel)) rfl, tA (List.mem_of_getElem? (i := 427) (by decide +kernel)) rfl, ⟨by decide, by decide, by decide +kernel⟩⟩
theorem yv_X0_gainAt : YV yX0_gainAt cX0_gainAt 11 (some .int) 1 := ⟨tA (List.mem_of_getElem? (i := 469) (by decide +kernel)) rfl, tA (List.mem_of_getElem? (i := 470) (by decide +kernel)) rfl, tA (List.mem_of_getElem? (i := 64) (by decide +kernel)) rfl, tA (List.mem_of_getElem? (i := 471) (by decide +kernel)) rfl, ⟨by decide, by decide, by decide +kernel⟩⟩
theorem yv_X0_putMode : YV yX0_putMode cX0_putMode 5 (some .int) 4 := ⟨tA (List.mem_of_getElem? (i := 462) (by decide +kernel)) rfl, tA (List.mem_of_getElem? (i := 463) (by decide +kernel)) rfl, tA (List.mem_of_getElem? (i := 64) (by decide +kernel)) rfl, tA (List.mem_of_getElem? (i := 464) (by decide +kernel)) rfl, ⟨by decide, by decide, by decide +kernel⟩⟩
theorem yv_X0_putNotch : YV yX0_putNotch cX0_putNotch 4 (some .int) 3 := ⟨tA (List.mem_of_getElem? (i := 477) (by decide +kernel)) rfl, tA (List.mem_of_getElem? (i := 478) (by decide +kernel)) rfl, tA (List.mem_of_getElem? (i := 64) (by decide +kernel)) rfl, tA (List.mem_of_getElem? (i := 479) (by decide +kernel)) rfl, ⟨by decide, by decide, by decide +kernel⟩⟩
theorem yv_X0_limitAt : YV yX0_limitAt cX0_limitAt 5 (some .int) 1 := ⟨tA (List.mem_of_getElem? (i := 555) (by decide +kernel)) rfl, tA (List.mem_of_getElem? (i := 556) (by decide +kernel)) rfl, tA (List.mem_of_getElem? (i := 64) (by decide +kernel)) rfl, tA (List.mem_of_getElem? (i := 557) (by decide +kernel)) rfl, ⟨by decide, by decide, by decide +kernel⟩⟩
theorem yv_X6_measuredGain : YS yX6_measuredGain cX6_measuredGain 2 (some .int) 2 := ⟨tA (List.mem_of_getElem? (i := 531) (by decide +kernel)) rfl, tA (List.mem_of_getElem? (i := 60) (by decide +kernel)) rfl, tA (List.mem_of_getElem? (i := 532) (by decide +kernel)) rfl, ⟨by decide, by decide, by decide +kernel⟩⟩
theorem yv_X6_averagedGain : YS yX6_averagedGain cX6_averagedGain 3 (some .int) 3 := ⟨tA (List.mem_of_getElem? (i := 535) (by decide +kernel)) rfl, tA (List.mem_of_getElem? (i := 60) (by decide +kernel)) rfl, tA (List.mem_of_getElem? (i := 536) (by decide +kernel)) rfl, ⟨by decide, by decide, by decide +kernel⟩⟩
theorem yv_X0_measure : YV yX0_measure cX0_measure 5 none 4 := ⟨tA (List.mem_of_getElem? (i := 526) (by decide +kernel)) rfl, tA (List.mem_of_getElem? (i := 527) (by decide +kernel)) rfl, tA (List.mem_of_getElem? (i := 64) (by decide +kernel)) rfl, tA (List.mem_of_getElem? (i := 528) (by decide +kernel)) rfl, ⟨by decide, by decide, by decide +kernel⟩⟩
theorem yv_X0_countLoop : YV yX0_countLoop cX0_countLoop 4 none 1 := ⟨tA (List.mem_of_getElem? (i := 551) (by decide +kernel)) rfl, tA (List.mem_of_getElem? (i := 552) (by decide +kernel)) rfl, tA (List.mem_of_getElem? (i := 64) (by decide +kernel)) rfl, tA (List.mem_of_getElem? (i := 553) (by decide +kernel)) rfl, ⟨by decide, by decide, by decide +kernel⟩⟩
theorem yv_X0_notchedDrive : YV yX0_notchedDrive cX0_notchedDrive 5 (some .int) 2 := ⟨tA (List.mem_of_getElem? (i := 600) (by decide +kernel)) rfl, tA (List.mem_of_getElem? (i := 601) (by decide +kernel)) rfl, tA (List.mem_of_getElem? (i := 64) (by decide +kernel)) rfl, tA (List.mem_of_getElem? (i := 602) (by decide +kernel)) rfl, ⟨by decide, by decide, by decide +kernel⟩⟩
theorem yv_X0_propertyOf : YV yX0_propertyOf cX0_propertyOf 2 (some .int) 1 := ⟨tA (List.mem_of_getElem? (i := 729) (by decide +kernel)) rfl, tA (List.mem_of_getElem? (i := 730) (by decide +kernel)) rfl, tA (List.mem_of_getElem? (i := 64) (by decide +kernel)) rfl, tA (List.mem_of_getElem? (i := 731) (by decide +kernel)) rfl, ⟨by decide, by decide, by decide +kernel⟩⟩
theorem yv_X0_gainOfLine : YV yX0_gainOfLine cX0_gainOfLine 3 (some .int) 2 := ⟨tA (List.mem_of_getElem? (i := 766) (by decide +kernel)) rfl, tA (List.mem_of_getElem? (i := 22) (by decide +kernel)) rfl, tA (List.mem_of_getElem? (i := 64) (by decide +kernel)) rfl, tA (List.mem_of_getElem? (i := 767) (by decide +kernel)) rfl, ⟨by decide, by decide, by decide +kernel⟩⟩
theorem yv_X0_isResonance : YV yX0_isResonance cX0_isResonance 4 (some .boolean) 2 := ⟨tA (List.mem_of_getElem? (i := 762) (by decide +kernel)) rfl, tA (List.mem_of_getElem? (i := 21) (by decide +kernel)) rfl, tA (List.mem_of_getElem? (i := 64) (by decide +kernel)) rfl, tA (List.mem_of_getElem? (i := 763) (by decide +kernel)) rfl, ⟨by decide, by decide, by decide +kernel⟩⟩
theorem yv_X0_resonancesAhead : YV yX0_resonancesAhead cX0_resonancesAhead 6 (some .int) 2 := ⟨tA (List.mem_of_getElem? (i := 770) (by decide +kernel)) rfl, tA (List.mem_of_getElem? (i := 23) (by decide +kernel)) rfl, tA (List.mem_of_getElem? (i := 64) (by decide +kernel)) rfl, tA (List.mem_of_getElem? (i := 771) (by decide +kernel)) rfl, ⟨by decide, by decide, by decide +kernel⟩⟩
theorem yv_X0_resonanceAt : YV yX0_resonanceAt cX0_resonanceAt 4 (some .int) 2 := ⟨tA (List.mem_of_getElem? (i := 757) (by decide +kernel)) rfl, tA (List.mem_of_getElem? (i := 758) (by decide +kernel)) rfl, tA (List.mem_of_getElem? (i := 64) (by decide +kernel)) rfl, tA (List.mem_of_getElem? (i := 759) (by decide +kernel)) rfl, ⟨by decide, by decide, by decide +kernel⟩⟩
theorem yv_X6_copyRow : YS yX6_copyRow cX6_copyRow 2 none 2 := ⟨tA (List.mem_of_getElem? (i := 191) (by decide +kernel)) rfl, tA (List.mem_of_getElem? (i := 60) (by decide +kernel)) rfl, tA (List.mem_of_getElem? (i := 192) (by decide +kernel)) rfl, ⟨by decide, by decide, by decide +kernel⟩⟩
theorem yv_X0_copyFrom : YV yX0_copyFrom cX0_copyFrom 2 none 1 := ⟨tA (List.mem_of_getElem? (i := 375) (by decide +kernel)) rfl, tA (List.mem_of_getElem? (i := 376) (by decide +kernel)) rfl, tA (List.mem_of_getElem? (i := 64) (by decide +kernel)) rfl, tA (List.mem_of_getElem? (i := 377) (by decide +kernel)) rfl, ⟨by decide, by decide, by decide +kernel⟩⟩
theorem yv_X2_copyFrom : YV yX2_copyFrom cX2_copyFrom 2 none 1 := ⟨tA (List.mem_of_getElem? (i := 365) (by decide +kernel)) rfl, tA (List.mem_of_getElem? (i := 366) (by decide +kernel)) rfl, tA (List.mem_of_getElem? (i := 62) (by decide +kernel)) rfl, tA (List.mem_of_getElem? (i := 367) (by decide +kernel)) rfl, ⟨by decide, by decide, by decide +kernel⟩⟩
theorem yv_X3_copyFrom : YV yX3_copyFrom cX3_copyFrom 2 none 1 := ⟨tA (List.mem_of_getElem? (i := 370) (by decide +kernel)) rfl, tA (List.mem_of_getElem? (i := 371) (by decide +kernel)) rfl, tA (List.mem_of_getElem? (i := 63) (by decide +kernel)) rfl, tA (List.mem_of_getElem? (i := 372) (by decide +kernel)) rfl, ⟨by decide, by decide, by decide +kernel⟩⟩
theorem yv_X4_copyFrom : YV yX4_copyFrom cX4_copyFrom 3 none 1 := ⟨tA (List.mem_of_getElem? (i := 361) (by decide +kernel)) rfl, tA (List.mem_of_getElem? (i := 362) (by decide +kernel)) rfl, tA (List.mem_of_getElem? (i := 61) (by decide +kernel)) rfl, tA (List.mem_of_getElem? (i := 363) (by decide +kernel)) rfl, ⟨by decide, by decide, by decide +kernel⟩⟩
theorem yv_X1_note : YV yX1_note cX1_note 2 none 1 := ⟨tA (List.mem_of_getElem? (i := 357) (by decide +kernel)) rfl, tA (List.mem_of_getElem? (i := 358) (by decide +kernel)) rfl, tA (List.mem_of_getElem? (i := 68) (by decide +kernel)) rfl, tA (List.mem_of_getElem? (i := 359) (by decide +kernel)) rfl, ⟨by decide, by decide, by decide +kernel⟩⟩
theorem yv_X1_keepNoted : YV yX1_keepNoted cX1_keepNoted 1 none 0 := ⟨tA (List.mem_of_getElem? (i := 413) (by decide +kernel)) rfl, tA (List.mem_of_getElem? (i := 414) (by decide +kernel)) rfl, tA (List.mem_of_getElem? (i := 68) (by decide +kernel)) rfl, tA (List.mem_of_getElem? (i := 415) (by decide +kernel)) rfl, ⟨by decide, by decide, by decide +kernel⟩⟩
theorem yv_X1_takeBack : YV yX1_takeBack cX1_takeBack 2 (some .int) 1 := ⟨tA (List.mem_of_getElem? (i := 684) (by decide +kernel)) rfl, tA (List.mem_of_getElem? (i := 685) (by decide +kernel)) rfl, tA (List.mem_of_getElem? (i := 68) (by decide +kernel)) rfl, tA (List.mem_of_getElem? (i := 686) (by decide +kernel)) rfl, ⟨by decide, by decide, by decide +kernel⟩⟩
theorem yv_X2_above : YS yX2_above cX2_above 2 (some .int) 2 := ⟨tA (List.mem_of_getElem? (i := 398) (by decide +kernel)) rfl, tA (List.mem_of_getElem? (i := 62) (by decide +kernel)) rfl, tA (List.mem_of_getElem? (i := 399) (by decide +kernel)) rfl, ⟨by decide, by decide, by decide +kernel⟩⟩
theorem yv_X2_countOf : YS yX2_countOf cX2_countOf 5 (some .int) 3 := ⟨tA (List.mem_of_getElem? (i := 395) (by decide +kernel)) rfl, tA (List.mem_of_getElem? (i := 62) (by decide +kernel)) rfl, tA (List.mem_of_getElem? (i := 396) (by decide +kernel)) rfl, ⟨by decide, by decide, by decide +kernel⟩⟩
theorem yv_X2_lay : YV yX2_lay cX2_lay 6 none 3 := ⟨tA (List.mem_of_getElem? (i := 404) (by decide +kernel)) rfl, tA (List.mem_of_getElem? (i := 405) (by decide +kernel)) rfl, tA (List.mem_of_getElem? (i := 62) (by decide +kernel)) rfl, tA (List.mem_of_getElem? (i := 406) (by decide +kernel)) rfl, ⟨by decide, by decide, by decide +kernel⟩⟩
theorem yv_X3_placeOf : YV yX3_placeOf cX3_placeOf 3 (some .int) 1 := ⟨tA (List.mem_of_getElem? (i := 435) (by decide +kernel)) rfl, tA (List.mem_of_getElem? (i := 436) (by decide +kernel)) rfl, tA (List.mem_of_getElem? (i := 63) (by decide +kernel)) rfl, tA (List.mem_of_getElem? (i := 437) (by decide +kernel)) rfl, ⟨by decide, by decide, by decide +kernel⟩⟩
theorem yv_X3_put : YV yX3_put cX3_put 5 (some .int) 2 := ⟨tA (List.mem_of_getElem? (i := 431) (by decide +kernel)) rfl, tA (List.mem_of_getElem? (i := 432) (by decide +kernel)) rfl, tA (List.mem_of_getElem? (i := 63) (by decide +kernel)) rfl, tA (List.mem_of_getElem? (i := 433) (by decide +kernel)) rfl, ⟨by decide, by decide, by decide +kernel⟩⟩
theorem yv_X3_between : YV yX3_between cX3_between 7 (some .int) 3 := ⟨tA (List.mem_of_getElem? (i := 585) (by decide +kernel)) rfl, tA (List.mem_of_getElem? (i := 12) (by decide +kernel)) rfl, tA (List.mem_of_getElem? (i := 63) (by decide +kernel)) rfl, tA (List.mem_of_getElem? (i := 586) (by decide +kernel)) rfl, ⟨by decide, by decide, by decide +kernel⟩⟩
theorem yv_X3_targetAt : YV yX3_targetAt cX3_targetAt 3 (some .int) 1 := ⟨tA (List.mem_of_getElem? (i := 580) (by decide +kernel)) rfl, tA (List.mem_of_getElem? (i := 581) (by decide +kernel)) rfl, tA (List.mem_of_getElem? (i := 63) (by decide +kernel)) rfl, tA (List.mem_of_getElem? (i := 582) (by decide +kernel)) rfl, ⟨by decide, by decide, by decide +kernel⟩⟩
theorem yv_X4_hasLine : YV yX4_hasLine cX4_hasLine 2 (some .boolean) 1 := ⟨tA (List.mem_of_getElem? (i := 572) (by decide +kernel)) rfl, tA (List.mem_of_getElem? (i := 573) (by decide +kernel)) rfl, tA (List.mem_of_getElem? (i := 61) (by decide +kernel)) rfl, tA (List.mem_of_getElem? (i := 574) (by decide +kernel)) rfl, ⟨by decide, by decide, by decide +kernel⟩⟩
theorem yv_X4_hasChannel : YV yX4_hasChannel cX4_hasChannel 2 (some .boolean) 1 := ⟨tA (List.mem_of_getElem? (i := 458) (by decide +kernel)) rfl, tA (List.mem_of_getElem? (i := 459) (by decide +kernel)) rfl, tA (List.mem_of_getElem? (i := 61) (by decide +kernel)) rfl, tA (List.mem_of_getElem? (i := 460) (by decide +kernel)) rfl, ⟨by decide, by decide, by decide +kernel⟩⟩
theorem yv_X4_measures : YV yX4_measures cX4_measures 1 (some .boolean) 0 := ⟨tA (List.mem_of_getElem? (i := 391) (by decide +kernel)) rfl, tA (List.mem_of_getElem? (i := 392) (by decide +kernel)) rfl, tA (List.mem_of_getElem? (i := 61) (by decide +kernel)) rfl, tA (List.mem_of_getElem? (i := 393) (by decide +kernel)) rfl, ⟨by decide, by decide, by decide +kernel⟩⟩
theorem yv_X4_rests : YV yX4_rests cX4_rests 1 (some .boolean) 0 := ⟨tA (List.mem_of_getElem? (i := 387) (by decide +kernel)) rfl, tA (List.mem_of_getElem? (i := 388) (by decide +kernel)) rfl, tA (List.mem_of_getElem? (i := 61) (by decide +kernel)) rfl, tA (List.mem_of_getElem? (i := 389) (by decide +kernel)) rfl, ⟨by decide, by decide, by decide +kernel⟩⟩
theorem yv_X4_forgetRun : YV yX4_forgetRun cX4_forgetRun 2 none 0 := ⟨tA (List.mem_of_getElem? (i := 201) (by decide +kernel)) rfl, tA (List.mem_of_getElem? (i := 0) (by decide +kernel)) rfl, tA (List.mem_of_getElem? (i := 61) (by decide +kernel)) rfl, tA (List.mem_of_getElem? (i := 202) (by decide +kernel)) rfl, ⟨by decide, by decide, by decide +kernel⟩⟩
theorem yv_X4_forgetGains : YV yX4_forgetGains cX4_forgetGains 2 none 0 := ⟨tA (List.mem_of_getElem? (i := 213) (by decide +kernel)) rfl, tA (List.mem_of_getElem? (i := 1) (by decide +kernel)) rfl, tA (List.mem_of_getElem? (i := 61) (by decide +kernel)) rfl, tA (List.mem_of_getElem? (i := 214) (by decide +kernel)) rfl, ⟨by decide, by decide, by decide +kernel⟩⟩
theorem yv_X4_layLines : YV yX4_layLines cX4_layLines 5 (some .int) 3 := ⟨tA (List.mem_of_getElem? (i := 380) (by decide +kernel)) rfl, tA (List.mem_of_getElem? (i := 381) (by decide +kernel)) rfl, tA (List.mem_of_getElem? (i := 61) (by decide +kernel)) rfl, tA (List.mem_of_getElem? (i := 382) (by decide +kernel)) rfl, ⟨by decide, by decide, by decide +kernel⟩⟩
theorem yv_X4_putPoint : YV yX4_putPoint cX4_putPoint 3 (some .int) 2 := ⟨tA (List.mem_of_getElem? (i := 422) (by decide +kernel)) rfl, tA (List.mem_of_getElem? (i := 423) (by decide +kernel)) rfl, tA (List.mem_of_getElem? (i := 61) (by decide +kernel)) rfl, tA (List.mem_of_getElem? (i := 424) (by decide +kernel)) rfl, ⟨by decide, by decide, by decide +kernel⟩⟩
theorem yv_X4_joinChannel : YV yX4_joinChannel cX4_joinChannel 4 (some .int) 3 := ⟨tA (List.mem_of_getElem? (i := 443) (by decide +kernel)) rfl, tA (List.mem_of_getElem? (i := 444) (by decide +kernel)) rfl, tA (List.mem_of_getElem? (i := 61) (by decide +kernel)) rfl, tA (List.mem_of_getElem? (i := 445) (by decide +kernel)) rfl, ⟨by decide, by decide, by decide +kernel⟩⟩
theorem yv_X4_changeSetting : YV yX4_changeSetting cX4_changeSetting 4 (some .int) 2 := ⟨tA (List.mem_of_getElem? (i := 486) (by decide +kernel)) rfl, tA (List.mem_of_getElem? (i := 487) (by decide +kernel)) rfl, tA (List.mem_of_getElem? (i := 61) (by decide +kernel)) rfl, tA (List.mem_of_getElem? (i := 488) (by decide +kernel)) rfl, ⟨by decide, by decide, by decide +kernel⟩⟩
theorem yv_X4_reasonToRefuse : YV yX4_reasonToRefuse cX4_reasonToRefuse 2 (some .int) 0 := ⟨tA (List.mem_of_getElem? (i := 503) (by decide +kernel)) rfl, tA (List.mem_of_getElem? (i := 3) (by decide +kernel)) rfl, tA (List.mem_of_getElem? (i := 61) (by decide +kernel)) rfl, tA (List.mem_of_getElem? (i := 504) (by decide +kernel)) rfl, ⟨by decide, by decide, by decide +kernel⟩⟩
theorem yv_X4_begin : YV yX4_begin cX4_begin 2 (some .int) 1 := ⟨tA (List.mem_of_getElem? (i := 498) (by decide +kernel)) rfl, tA (List.mem_of_getElem? (i := 499) (by decide +kernel)) rfl, tA (List.mem_of_getElem? (i := 61) (by decide +kernel)) rfl, tA (List.mem_of_getElem? (i := 500) (by decide +kernel)) rfl, ⟨by decide, by decide, by decide +kernel⟩⟩
theorem yv_X4_holdOrGoOn : YV yX4_holdOrGoOn cX4_holdOrGoOn 2 (some .int) 1 := ⟨tA (List.mem_of_getElem? (i := 609) (by decide +kernel)) rfl, tA (List.mem_of_getElem? (i := 610) (by decide +kernel)) rfl, tA (List.mem_of_getElem? (i := 61) (by decide +kernel)) rfl, tA (List.mem_of_getElem? (i := 611) (by decide +kernel)) rfl, ⟨by decide, by decide, by decide +kernel⟩⟩
theorem yv_X4_beginAbort : YV yX4_beginAbort cX4_beginAbort 2 none 1 := ⟨tA (List.mem_of_getElem? (i := 561) (by decide +kernel)) rfl, tA (List.mem_of_getElem? (i := 8) (by decide +kernel)) rfl, tA (List.mem_of_getElem? (i := 61) (by decide +kernel)) rfl, tA (List.mem_of_getElem? (i := 562) (by decide +kernel)) rfl, ⟨by decide, by decide, by decide +kernel⟩⟩
theorem yv_X4_abortByHand : YV yX4_abortByHand cX4_abortByHand 1 (some .int) 0 := ⟨tA (List.mem_of_getElem? (i := 617) (by decide +kernel)) rfl, tA (List.mem_of_getElem? (i := 618) (by decide +kernel)) rfl, tA (List.mem_of_getElem? (i := 61) (by decide +kernel)) rfl, tA (List.mem_of_getElem? (i := 619) (by decide +kernel)) rfl, ⟨by decide, by decide, by decide +kernel⟩⟩
theorem yv_X4_rampDown : YV yX4_rampDown cX4_rampDown 1 none 0 := ⟨tA (List.mem_of_getElem? (i := 519) (by decide +kernel)) rfl, tA (List.mem_of_getElem? (i := 4) (by decide +kernel)) rfl, tA (List.mem_of_getElem? (i := 61) (by decide +kernel)) rfl, tA (List.mem_of_getElem? (i := 520) (by decide +kernel)) rfl, ⟨by decide, by decide, by decide +kernel⟩⟩
theorem yv_X4_controlLevel : YV yX4_controlLevel cX4_controlLevel 7 (some .int) 0 := ⟨tA (List.mem_of_getElem? (i := 539) (by decide +kernel)) rfl, tA (List.mem_of_getElem? (i := 6) (by decide +kernel)) rfl, tA (List.mem_of_getElem? (i := 61) (by decide +kernel)) rfl, tA (List.mem_of_getElem? (i := 540) (by decide +kernel)) rfl, ⟨by decide, by decide, by decide +kernel⟩⟩
theorem yv_X4_measureLevels : YV yX4_measureLevels cX4_measureLevels 5 (some .int) 1 := ⟨tA (List.mem_of_getElem? (i := 523) (by decide +kernel)) rfl, tA (List.mem_of_getElem? (i := 5) (by decide +kernel)) rfl, tA (List.mem_of_getElem? (i := 61) (by decide +kernel)) rfl, tA (List.mem_of_getElem? (i := 524) (by decide +kernel)) rfl, ⟨by decide, by decide, by decide +kernel⟩⟩
theorem yv_X4_countLoop : YV yX4_countLoop cX4_countLoop 5 (some .int) 1 := ⟨tA (List.mem_of_getElem? (i := 548) (by decide +kernel)) rfl, tA (List.mem_of_getElem? (i := 7) (by decide +kernel)) rfl, tA (List.mem_of_getElem? (i := 61) (by decide +kernel)) rfl, tA (List.mem_of_getElem? (i := 549) (by decide +kernel)) rfl, ⟨by decide, by decide, by decide +kernel⟩⟩
theorem yv_X4_lineAhead : YV yX4_lineAhead cX4_lineAhead 1 (some .int) 0 := ⟨tA (List.mem_of_getElem? (i := 569) (by decide +kernel)) rfl, tA (List.mem_of_getElem? (i := 10) (by decide +kernel)) rfl, tA (List.mem_of_getElem? (i := 61) (by decide +kernel)) rfl, tA (List.mem_of_getElem? (i := 570) (by decide +kernel)) rfl, ⟨by decide, by decide, by decide +kernel⟩⟩
theorem yv_X4_nextLine : YV yX4_nextLine cX4_nextLine 3 (some .int) 0 := ⟨tA (List.mem_of_getElem? (i := 565) (by decide +kernel)) rfl, tA (List.mem_of_getElem? (i := 9) (by decide +kernel)) rfl, tA (List.mem_of_getElem? (i := 61) (by decide +kernel)) rfl, tA (List.mem_of_getElem? (i := 566) (by decide +kernel)) rfl, ⟨by decide, by decide, by decide +kernel⟩⟩
theorem yv_X4_wantedDrive : YV yX4_wantedDrive cX4_wantedDrive 5 (some .long) 3 := ⟨tA (List.mem_of_getElem? (i := 589) (by decide +kernel)) rfl, tA (List.mem_of_getElem? (i := 13) (by decide +kernel)) rfl, tA (List.mem_of_getElem? (i := 61) (by decide +kernel)) rfl, tA (List.mem_of_getElem? (i := 590) (by decide +kernel)) rfl, ⟨by decide, by decide, by decide +kernel⟩⟩
theorem yv_X4_goTo : YV yX4_goTo cX4_goTo 9 none 2 := ⟨tA (List.mem_of_getElem? (i := 577) (by decide +kernel)) rfl, tA (List.mem_of_getElem? (i := 11) (by decide +kernel)) rfl, tA (List.mem_of_getElem? (i := 61) (by decide +kernel)) rfl, tA (List.mem_of_getElem? (i := 578) (by decide +kernel)) rfl, ⟨by decide, by decide, by decide +kernel⟩⟩
theorem yv_X4_doLoop : YV yX4_doLoop cX4_doLoop 5 none 0 := ⟨tA (List.mem_of_getElem? (i := 514) (by decide +kernel)) rfl, tA (List.mem_of_getElem? (i := 515) (by decide +kernel)) rfl, tA (List.mem_of_getElem? (i := 61) (by decide +kernel)) rfl, tA (List.mem_of_getElem? (i := 516) (by decide +kernel)) rfl, ⟨by decide, by decide, by decide +kernel⟩⟩
theorem yv_X4_doLoops : YV yX4_doLoops cX4_doLoops 3 (some .int) 1 := ⟨tA (List.mem_of_getElem? (i := 510) (by decide +kernel)) rfl, tA (List.mem_of_getElem? (i := 511) (by decide +kernel)) rfl, tA (List.mem_of_getElem? (i := 61) (by decide +kernel)) rfl, tA (List.mem_of_getElem? (i := 512) (by decide +kernel)) rfl, ⟨by decide, by decide, by decide +kernel⟩⟩
theorem yv_X4_totalOf : YV yX4_totalOf cX4_totalOf 2 (some .int) 1 := ⟨tA (List.mem_of_getElem? (i := 777) (by decide +kernel)) rfl, tA (List.mem_of_getElem? (i := 778) (by decide +kernel)) rfl, tA (List.mem_of_getElem? (i := 61) (by decide +kernel)) rfl, tA (List.mem_of_getElem? (i := 779) (by decide +kernel)) rfl, ⟨by decide, by decide, by decide +kernel⟩⟩
theorem yv_X5_add : YV yX5_add cX5_add 2 (some .int) 1 := ⟨tA (List.mem_of_getElem? (i := 625) (by decide +kernel)) rfl, tA (List.mem_of_getElem? (i := 626) (by decide +kernel)) rfl, tA (List.mem_of_getElem? (i := 69) (by decide +kernel)) rfl, tA (List.mem_of_getElem? (i := 627) (by decide +kernel)) rfl, ⟨by decide, by decide, by decide +kernel⟩⟩
theorem yv_X5_rewind : YV yX5_rewind cX5_rewind 1 none 0 := ⟨tA (List.mem_of_getElem? (i := 642) (by decide +kernel)) rfl, tA (List.mem_of_getElem? (i := 643) (by decide +kernel)) rfl, tA (List.mem_of_getElem? (i := 69) (by decide +kernel)) rfl, tA (List.mem_of_getElem? (i := 644) (by decide +kernel)) rfl, ⟨by decide, by decide, by decide +kernel⟩⟩
theorem yv_X5_here : YV yX5_here cX5_here 1 (some .int) 0 := ⟨tA (List.mem_of_getElem? (i := 651) (by decide +kernel)) rfl, tA (List.mem_of_getElem? (i := 14) (by decide +kernel)) rfl, tA (List.mem_of_getElem? (i := 69) (by decide +kernel)) rfl, tA (List.mem_of_getElem? (i := 652) (by decide +kernel)) rfl, ⟨by decide, by decide, by decide +kernel⟩⟩
theorem yv_X5_readNumber : YV yX5_readNumber cX5_readNumber 5 (some .boolean) 2 := ⟨tA (List.mem_of_getElem? (i := 659) (by decide +kernel)) rfl, tA (List.mem_of_getElem? (i := 16) (by decide +kernel)) rfl, tA (List.mem_of_getElem? (i := 69) (by decide +kernel)) rfl, tA (List.mem_of_getElem? (i := 660) (by decide +kernel)) rfl, ⟨by decide, by decide, by decide +kernel⟩⟩
theorem yv_X5_readFirst : YV yX5_readFirst cX5_readFirst 4 (some .boolean) 2 := ⟨tA (List.mem_of_getElem? (i := 655) (by decide +kernel)) rfl, tA (List.mem_of_getElem? (i := 15) (by decide +kernel)) rfl, tA (List.mem_of_getElem? (i := 69) (by decide +kernel)) rfl, tA (List.mem_of_getElem? (i := 656) (by decide +kernel)) rfl, ⟨by decide, by decide, by decide +kernel⟩⟩
theorem yv_X5_readSign : YV yX5_readSign cX5_readSign 2 (some .boolean) 1 := ⟨tA (List.mem_of_getElem? (i := 663) (by decide +kernel)) rfl, tA (List.mem_of_getElem? (i := 17) (by decide +kernel)) rfl, tA (List.mem_of_getElem? (i := 69) (by decide +kernel)) rfl, tA (List.mem_of_getElem? (i := 664) (by decide +kernel)) rfl, ⟨by decide, by decide, by decide +kernel⟩⟩
theorem yv_X5_readSecond : YV yX5_readSecond cX5_readSecond 4 (some .boolean) 2 := ⟨tA (List.mem_of_getElem? (i := 667) (by decide +kernel)) rfl, tA (List.mem_of_getElem? (i := 18) (by decide +kernel)) rfl, tA (List.mem_of_getElem? (i := 69) (by decide +kernel)) rfl, tA (List.mem_of_getElem? (i := 668) (by decide +kernel)) rfl, ⟨by decide, by decide, by decide +kernel⟩⟩
theorem yv_X5_readAct : YV yX5_readAct cX5_readAct 1 (some .boolean) 0 := ⟨tA (List.mem_of_getElem? (i := 646) (by decide +kernel)) rfl, tA (List.mem_of_getElem? (i := 647) (by decide +kernel)) rfl, tA (List.mem_of_getElem? (i := 69) (by decide +kernel)) rfl, tA (List.mem_of_getElem? (i := 648) (by decide +kernel)) rfl, ⟨by decide, by decide, by decide +kernel⟩⟩
theorem yv_X5_findFault : YV yX5_findFault cX5_findFault 2 (some .int) 0 := ⟨tA (List.mem_of_getElem? (i := 638) (by decide +kernel)) rfl, tA (List.mem_of_getElem? (i := 639) (by decide +kernel)) rfl, tA (List.mem_of_getElem? (i := 69) (by decide +kernel)) rfl, tA (List.mem_of_getElem? (i := 640) (by decide +kernel)) rfl, ⟨by decide, by decide, by decide +kernel⟩⟩
theorem yv_X6_recorded : YV yX6_recorded cX6_recorded 2 (some .int) 1 := ⟨tA (List.mem_of_getElem? (i := 410) (by decide +kernel)) rfl, tA (List.mem_of_getElem? (i := 2) (by decide +kernel)) rfl, tA (List.mem_of_getElem? (i := 60) (by decide +kernel)) rfl, tA (List.mem_of_getElem? (i := 411) (by decide +kernel)) rfl, ⟨by decide, by decide, by decide +kernel⟩⟩
theorem yv_X6_setLines : YV yX6_setLines cX6_setLines 4 (some .int) 3 := ⟨tA (List.mem_of_getElem? (i := 353) (by decide +kernel)) rfl, tA (List.mem_of_getElem? (i := 354) (by decide +kernel)) rfl, tA (List.mem_of_getElem? (i := 60) (by decide +kernel)) rfl, tA (List.mem_of_getElem? (i := 355) (by decide +kernel)) rfl, ⟨by decide, by decide, by decide +kernel⟩⟩
theorem yv_X6_setPoint : YV yX6_setPoint cX6_setPoint 3 (some .int) 2 := ⟨tA (List.mem_of_getElem? (i := 418) (by decide +kernel)) rfl, tA (List.mem_of_getElem? (i := 419) (by decide +kernel)) rfl, tA (List.mem_of_getElem? (i := 60) (by decide +kernel)) rfl, tA (List.mem_of_getElem? (i := 420) (by decide +kernel)) rfl, ⟨by decide, by decide, by decide +kernel⟩⟩
theorem yv_X6_addChannel : YV yX6_addChannel cX6_addChannel 4 (some .int) 3 := ⟨tA (List.mem_of_getElem? (i := 439) (by decide +kernel)) rfl, tA (List.mem_of_getElem? (i := 440) (by decide +kernel)) rfl, tA (List.mem_of_getElem? (i := 60) (by decide +kernel)) rfl, tA (List.mem_of_getElem? (i := 441) (by decide +kernel)) rfl, ⟨by decide, by decide, by decide +kernel⟩⟩
theorem yv_X6_setMode : YV yX6_setMode cX6_setMode 6 (some .int) 5 := ⟨tA (List.mem_of_getElem? (i := 454) (by decide +kernel)) rfl, tA (List.mem_of_getElem? (i := 455) (by decide +kernel)) rfl, tA (List.mem_of_getElem? (i := 60) (by decide +kernel)) rfl, tA (List.mem_of_getElem? (i := 456) (by decide +kernel)) rfl, ⟨by decide, by decide, by decide +kernel⟩⟩
theorem yv_X6_addNotch : YV yX6_addNotch cX6_addNotch 5 (some .int) 4 := ⟨tA (List.mem_of_getElem? (i := 473) (by decide +kernel)) rfl, tA (List.mem_of_getElem? (i := 474) (by decide +kernel)) rfl, tA (List.mem_of_getElem? (i := 60) (by decide +kernel)) rfl, tA (List.mem_of_getElem? (i := 475) (by decide +kernel)) rfl, ⟨by decide, by decide, by decide +kernel⟩⟩
theorem yv_X6_set : YV yX6_set cX6_set 3 (some .int) 2 := ⟨tA (List.mem_of_getElem? (i := 482) (by decide +kernel)) rfl, tA (List.mem_of_getElem? (i := 483) (by decide +kernel)) rfl, tA (List.mem_of_getElem? (i := 60) (by decide +kernel)) rfl, tA (List.mem_of_getElem? (i := 484) (by decide +kernel)) rfl, ⟨by decide, by decide, by decide +kernel⟩⟩
theorem yv_X6_start : YV yX6_start cX6_start 2 (some .int) 1 := ⟨tA (List.mem_of_getElem? (i := 494) (by decide +kernel)) rfl, tA (List.mem_of_getElem? (i := 495) (by decide +kernel)) rfl, tA (List.mem_of_getElem? (i := 60) (by decide +kernel)) rfl, tA (List.mem_of_getElem? (i := 496) (by decide +kernel)) rfl, ⟨by decide, by decide, by decide +kernel⟩⟩
theorem yv_X6_step : YV yX6_step cX6_step 2 (some .int) 1 := ⟨tA (List.mem_of_getElem? (i := 506) (by decide +kernel)) rfl, tA (List.mem_of_getElem? (i := 507) (by decide +kernel)) rfl, tA (List.mem_of_getElem? (i := 60) (by decide +kernel)) rfl, tA (List.mem_of_getElem? (i := 508) (by decide +kernel)) rfl, ⟨by decide, by decide, by decide +kernel⟩⟩
theorem yv_X6_hold : YV yX6_hold cX6_hold 2 (some .int) 1 := ⟨tA (List.mem_of_getElem? (i := 605) (by decide +kernel)) rfl, tA (List.mem_of_getElem? (i := 606) (by decide +kernel)) rfl, tA (List.mem_of_getElem? (i := 60) (by decide +kernel)) rfl, tA (List.mem_of_getElem? (i := 607) (by decide +kernel)) rfl, ⟨by decide, by decide, by decide +kernel⟩⟩
theorem yv_X6_abort : YV yX6_abort cX6_abort 1 (some .int) 0 := ⟨tA (List.mem_of_getElem? (i := 613) (by decide +kernel)) rfl, tA (List.mem_of_getElem? (i := 614) (by decide +kernel)) rfl, tA (List.mem_of_getElem? (i := 60) (by decide +kernel)) rfl, tA (List.mem_of_getElem? (i := 615) (by decide +kernel)) rfl, ⟨by decide, by decide, by decide +kernel⟩⟩
theorem yv_X6_append : YV yX6_append cX6_append 2 (some .int) 1 := ⟨tA (List.mem_of_getElem? (i := 621) (by decide +kernel)) rfl, tA (List.mem_of_getElem? (i := 622) (by decide +kernel)) rfl, tA (List.mem_of_getElem? (i := 60) (by decide +kernel)) rfl, tA (List.mem_of_getElem? (i := 623) (by decide +kernel)) rfl, ⟨by decide, by decide, by decide +kernel⟩⟩
theorem yv_X6_clearText : YV yX6_clearText cX6_clearText 2 (some .int) 0 := ⟨tA (List.mem_of_getElem? (i := 630) (by decide +kernel)) rfl, tA (List.mem_of_getElem? (i := 631) (by decide +kernel)) rfl, tA (List.mem_of_getElem? (i := 60) (by decide +kernel)) rfl, tA (List.mem_of_getElem? (i := 632) (by decide +kernel)) rfl, ⟨by decide, by decide, by decide +kernel⟩⟩
theorem yv_X6_faultPosition : YV yX6_faultPosition cX6_faultPosition 1 (some .int) 0 := ⟨tA (List.mem_of_getElem? (i := 634) (by decide +kernel)) rfl, tA (List.mem_of_getElem? (i := 635) (by decide +kernel)) rfl, tA (List.mem_of_getElem? (i := 60) (by decide +kernel)) rfl, tA (List.mem_of_getElem? (i := 636) (by decide +kernel)) rfl, ⟨by decide, by decide, by decide +kernel⟩⟩
theorem yv_X6_carryOutAct : YV yX6_carryOutAct cX6_carryOutAct 1 (some .int) 0 := ⟨tA (List.mem_of_getElem? (i := 677) (by decide +kernel)) rfl, tA (List.mem_of_getElem? (i := 19) (by decide +kernel)) rfl, tA (List.mem_of_getElem? (i := 60) (by decide +kernel)) rfl, tA (List.mem_of_getElem? (i := 678) (by decide +kernel)) rfl, ⟨by decide, by decide, by decide +kernel⟩⟩
theorem yv_X6_run : YV yX6_run cX6_run 2 (some .int) 0 := ⟨tA (List.mem_of_getElem? (i := 670) (by decide +kernel)) rfl, tA (List.mem_of_getElem? (i := 671) (by decide +kernel)) rfl, tA (List.mem_of_getElem? (i := 60) (by decide +kernel)) rfl, tA (List.mem_of_getElem? (i := 672) (by decide +kernel)) rfl, ⟨by decide, by decide, by decide +kernel⟩⟩
theorem yv_X6_undo : YV yX6_undo cX6_undo 1 (some .int) 0 := ⟨tA (List.mem_of_getElem? (i := 680) (by decide +kernel)) rfl, tA (List.mem_of_getElem? (i := 681) (by decide +kernel)) rfl, tA (List.mem_of_getElem? (i := 60) (by decide +kernel)) rfl, tA (List.mem_of_getElem? (i := 682) (by decide +kernel)) rfl, ⟨by decide, by decide, by decide +kernel⟩⟩
theorem yv_X6_isSlot : YS yX6_isSlot cX6_isSlot 1 (some .boolean) 1 := ⟨tA (List.mem_of_getElem? (i := 692) (by decide +kernel)) rfl, tA (List.mem_of_getElem? (i := 60) (by decide +kernel)) rfl, tA (List.mem_of_getElem? (i := 693) (by decide +kernel)) rfl, ⟨by decide, by decide, by decide +kernel⟩⟩
theorem yv_X6_save : YV yX6_save cX6_save 2 (some .int) 1 := ⟨tA (List.mem_of_getElem? (i := 688) (by decide +kernel)) rfl, tA (List.mem_of_getElem? (i := 689) (by decide +kernel)) rfl, tA (List.mem_of_getElem? (i := 60) (by decide +kernel)) rfl, tA (List.mem_of_getElem? (i := 690) (by decide +kernel)) rfl, ⟨by decide, by decide, by decide +kernel⟩⟩
theorem yv_X6_restore : YV yX6_restore cX6_restore 2 (some .int) 1 := ⟨tA (List.mem_of_getElem? (i := 696) (by decide +kernel)) rfl, tA (List.mem_of_getElem? (i := 697) (by decide +kernel)) rfl, tA (List.mem_of_getElem? (i := 60) (by decide +kernel)) rfl, tA (List.mem_of_getElem? (i := 698) (by decide +kernel)) rfl, ⟨by decide, by decide, by decide +kernel⟩⟩
theorem yv_X6_lookAtLine : YV yX6_lookAtLine cX6_lookAtLine 3 (some .int) 2 := ⟨tA (List.mem_of_getElem? (i := 705) (by decide +kernel)) rfl, tA (List.mem_of_getElem? (i := 20) (by decide +kernel)) rfl, tA (List.mem_of_getElem? (i := 60) (by decide +kernel)) rfl, tA (List.mem_of_getElem? (i := 706) (by decide +kernel)) rfl, ⟨by decide, by decide, by decide +kernel⟩⟩
theorem yv_X6_frequency : YV yX6_frequency cX6_frequency 2 (some .int) 1 := ⟨tA (List.mem_of_getElem? (i := 700) (by decide +kernel)) rfl, tA (List.mem_of_getElem? (i := 701) (by decide +kernel)) rfl, tA (List.mem_of_getElem? (i := 60) (by decide +kernel)) rfl, tA (List.mem_of_getElem? (i := 702) (by decide +kernel)) rfl, ⟨by decide, by decide, by decide +kernel⟩⟩
theorem yv_X6_target : YV yX6_target cX6_target 2 (some .int) 1 := ⟨tA (List.mem_of_getElem? (i := 709) (by decide +kernel)) rfl, tA (List.mem_of_getElem? (i := 710) (by decide +kernel)) rfl, tA (List.mem_of_getElem? (i := 60) (by decide +kernel)) rfl, tA (List.mem_of_getElem? (i := 711) (by decide +kernel)) rfl, ⟨by decide, by decide, by decide +kernel⟩⟩
theorem yv_X6_gain : YV yX6_gain cX6_gain 3 (some .int) 2 := ⟨tA (List.mem_of_getElem? (i := 715) (by decide +kernel)) rfl, tA (List.mem_of_getElem? (i := 716) (by decide +kernel)) rfl, tA (List.mem_of_getElem? (i := 60) (by decide +kernel)) rfl, tA (List.mem_of_getElem? (i := 717) (by decide +kernel)) rfl, ⟨by decide, by decide, by decide +kernel⟩⟩
theorem yv_X6_limit : YV yX6_limit cX6_limit 3 (some .int) 2 := ⟨tA (List.mem_of_getElem? (i := 720) (by decide +kernel)) rfl, tA (List.mem_of_getElem? (i := 721) (by decide +kernel)) rfl, tA (List.mem_of_getElem? (i := 60) (by decide +kernel)) rfl, tA (List.mem_of_getElem? (i := 722) (by decide +kernel)) rfl, ⟨by decide, by decide, by decide +kernel⟩⟩
theorem yv_X6_channel : YV yX6_channel cX6_channel 3 (some .int) 2 := ⟨tA (List.mem_of_getElem? (i := 725) (by decide +kernel)) rfl, tA (List.mem_of_getElem? (i := 726) (by decide +kernel)) rfl, tA (List.mem_of_getElem? (i := 60) (by decide +kernel)) rfl, tA (List.mem_of_getElem? (i := 727) (by decide +kernel)) rfl, ⟨by decide, by decide, by decide +kernel⟩⟩
theorem yv_X6_level : YV yX6_level cX6_level 3 (some .int) 2 := ⟨tA (List.mem_of_getElem? (i := 733) (by decide +kernel)) rfl, tA (List.mem_of_getElem? (i := 734) (by decide +kernel)) rfl, tA (List.mem_of_getElem? (i := 60) (by decide +kernel)) rfl, tA (List.mem_of_getElem? (i := 735) (by decide +kernel)) rfl, ⟨by decide, by decide, by decide +kernel⟩⟩
theorem yv_X6_averaged : YV yX6_averaged cX6_averaged 3 (some .int) 2 := ⟨tA (List.mem_of_getElem? (i := 737) (by decide +kernel)) rfl, tA (List.mem_of_getElem? (i := 738) (by decide +kernel)) rfl, tA (List.mem_of_getElem? (i := 60) (by decide +kernel)) rfl, tA (List.mem_of_getElem? (i := 739) (by decide +kernel)) rfl, ⟨by decide, by decide, by decide +kernel⟩⟩
theorem yv_X6_controlGain : YV yX6_controlGain cX6_controlGain 2 (some .int) 1 := ⟨tA (List.mem_of_getElem? (i := 741) (by decide +kernel)) rfl, tA (List.mem_of_getElem? (i := 742) (by decide +kernel)) rfl, tA (List.mem_of_getElem? (i := 60) (by decide +kernel)) rfl, tA (List.mem_of_getElem? (i := 743) (by decide +kernel)) rfl, ⟨by decide, by decide, by decide +kernel⟩⟩
theorem yv_X6_driveAt : YV yX6_driveAt cX6_driveAt 2 (some .int) 1 := ⟨tA (List.mem_of_getElem? (i := 745) (by decide +kernel)) rfl, tA (List.mem_of_getElem? (i := 746) (by decide +kernel)) rfl, tA (List.mem_of_getElem? (i := 60) (by decide +kernel)) rfl, tA (List.mem_of_getElem? (i := 747) (by decide +kernel)) rfl, ⟨by decide, by decide, by decide +kernel⟩⟩
theorem yv_X6_notchedBy : YV yX6_notchedBy cX6_notchedBy 2 (some .int) 1 := ⟨tA (List.mem_of_getElem? (i := 749) (by decide +kernel)) rfl, tA (List.mem_of_getElem? (i := 750) (by decide +kernel)) rfl, tA (List.mem_of_getElem? (i := 60) (by decide +kernel)) rfl, tA (List.mem_of_getElem? (i := 751) (by decide +kernel)) rfl, ⟨by decide, by decide, by decide +kernel⟩⟩
theorem yv_X6_resonance : YV yX6_resonance cX6_resonance 3 (some .int) 2 := ⟨tA (List.mem_of_getElem? (i := 753) (by decide +kernel)) rfl, tA (List.mem_of_getElem? (i := 754) (by decide +kernel)) rfl, tA (List.mem_of_getElem? (i := 60) (by decide +kernel)) rfl, tA (List.mem_of_getElem? (i := 755) (by decide +kernel)) rfl, ⟨by decide, by decide, by decide +kernel⟩⟩
theorem yv_X6_total : YV yX6_total cX6_total 2 (some .int) 1 := ⟨tA (List.mem_of_getElem? (i := 773) (by decide +kernel)) rfl, tA (List.mem_of_getElem? (i := 774) (by decide +kernel)) rfl, tA (List.mem_of_getElem? (i := 60) (by decide +kernel)) rfl, tA (List.mem_of_getElem? (i := 775) (by decide +kernel)) rfl, ⟨by decide, by decide, by decide +kernel⟩⟩
theorem yv_X6_loopsLeft : YV yX6_loopsLeft cX6_loopsLeft 2 (some .int) 0 := ⟨tA (List.mem_of_getElem? (i := 781) (by decide +kernel)) rfl, tA (List.mem_of_getElem? (i := 782) (by decide +kernel)) rfl, tA (List.mem_of_getElem? (i := 60) (by decide +kernel)) rfl, tA (List.mem_of_getElem? (i := 783) (by decide +kernel)) rfl, ⟨by decide, by decide, by decide +kernel⟩⟩
theorem yv_X6_wouldAbort : YV yX6_wouldAbort cX6_wouldAbort 3 (some .int) 1 := ⟨tA (List.mem_of_getElem? (i := 787) (by decide +kernel)) rfl, tA (List.mem_of_getElem? (i := 788) (by decide +kernel)) rfl, tA (List.mem_of_getElem? (i := 60) (by decide +kernel)) rfl, tA (List.mem_of_getElem? (i := 789) (by decide +kernel)) rfl, ⟨by decide, by decide, by decide +kernel⟩⟩
theorem yv_X6_highest : YV yX6_highest cX6_highest 5 (some .int) 2 := ⟨tA (List.mem_of_getElem? (i := 792) (by decide +kernel)) rfl, tA (List.mem_of_getElem? (i := 793) (by decide +kernel)) rfl, tA (List.mem_of_getElem? (i := 60) (by decide +kernel)) rfl, tA (List.mem_of_getElem? (i := 794) (by decide +kernel)) rfl, ⟨by decide, by decide, by decide +kernel⟩⟩
theorem yv_X7_in : YS yX7_in cX7_in 3 (some .boolean) 3 := ⟨tA (List.mem_of_getElem? (i := 844) (by decide +kernel)) rfl, tA (List.mem_of_getElem? (i := 70) (by decide +kernel)) rfl, tA (List.mem_of_getElem? (i := 845) (by decide +kernel)) rfl, ⟨by decide, by decide, by decide +kernel⟩⟩
theorem yv_X7_copies : YV yX7_copies cX7_copies 4 none 2 := ⟨tA (List.mem_of_getElem? (i := 859) (by decide +kernel)) rfl, tA (List.mem_of_getElem? (i := 29) (by decide +kernel)) rfl, tA (List.mem_of_getElem? (i := 70) (by decide +kernel)) rfl, tA (List.mem_of_getElem? (i := 860) (by decide +kernel)) rfl, ⟨by decide, by decide, by decide +kernel⟩⟩
theorem yv_X7_records : YV yX7_records cX7_records 2 none 0 := ⟨tA (List.mem_of_getElem? (i := 855) (by decide +kernel)) rfl, tA (List.mem_of_getElem? (i := 28) (by decide +kernel)) rfl, tA (List.mem_of_getElem? (i := 70) (by decide +kernel)) rfl, tA (List.mem_of_getElem? (i := 856) (by decide +kernel)) rfl, ⟨by decide, by decide, by decide +kernel⟩⟩
theorem yv_X7_setChannel : YV yX7_setChannel cX7_setChannel 4 none 3 := ⟨tA (List.mem_of_getElem? (i := 808) (by decide +kernel)) rfl, tA (List.mem_of_getElem? (i := 25) (by decide +kernel)) rfl, tA (List.mem_of_getElem? (i := 70) (by decide +kernel)) rfl, tA (List.mem_of_getElem? (i := 809) (by decide +kernel)) rfl, ⟨by decide, by decide, by decide +kernel⟩⟩
theorem yv_X7_forgets : YV yX7_forgets cX7_forgets 3 none 0 := ⟨tA (List.mem_of_getElem? (i := 804) (by decide +kernel)) rfl, tA (List.mem_of_getElem? (i := 24) (by decide +kernel)) rfl, tA (List.mem_of_getElem? (i := 70) (by decide +kernel)) rfl, tA (List.mem_of_getElem? (i := 805) (by decide +kernel)) rfl, ⟨by decide, by decide, by decide +kernel⟩⟩
theorem yv_X7_forgetsGains : YV yX7_forgetsGains cX7_forgetsGains 2 none 0 := ⟨tA (List.mem_of_getElem? (i := 812) (by decide +kernel)) rfl, tA (List.mem_of_getElem? (i := 26) (by decide +kernel)) rfl, tA (List.mem_of_getElem? (i := 70) (by decide +kernel)) rfl, tA (List.mem_of_getElem? (i := 813) (by decide +kernel)) rfl, ⟨by decide, by decide, by decide +kernel⟩⟩
theorem yv_X7_ofChannel : YV yX7_ofChannel cX7_ofChannel 3 (some .int) 2 := ⟨tA (List.mem_of_getElem? (i := 885) (by decide +kernel)) rfl, tA (List.mem_of_getElem? (i := 32) (by decide +kernel)) rfl, tA (List.mem_of_getElem? (i := 70) (by decide +kernel)) rfl, tA (List.mem_of_getElem? (i := 886) (by decide +kernel)) rfl, ⟨by decide, by decide, by decide +kernel⟩⟩
theorem yv_X7_isLine : YV yX7_isLine cX7_isLine 2 (some .boolean) 1 := ⟨tA (List.mem_of_getElem? (i := 959) (by decide +kernel)) rfl, tA (List.mem_of_getElem? (i := 44) (by decide +kernel)) rfl, tA (List.mem_of_getElem? (i := 70) (by decide +kernel)) rfl, tA (List.mem_of_getElem? (i := 960) (by decide +kernel)) rfl, ⟨by decide, by decide, by decide +kernel⟩⟩
theorem yv_X7_isChannel : YV yX7_isChannel cX7_isChannel 2 (some .boolean) 1 := ⟨tA (List.mem_of_getElem? (i := 877) (by decide +kernel)) rfl, tA (List.mem_of_getElem? (i := 30) (by decide +kernel)) rfl, tA (List.mem_of_getElem? (i := 70) (by decide +kernel)) rfl, tA (List.mem_of_getElem? (i := 878) (by decide +kernel)) rfl, ⟨by decide, by decide, by decide +kernel⟩⟩
theorem yv_X7_rests : YV yX7_rests cX7_rests 1 (some .boolean) 0 := ⟨tA (List.mem_of_getElem? (i := 848) (by decide +kernel)) rfl, tA (List.mem_of_getElem? (i := 27) (by decide +kernel)) rfl, tA (List.mem_of_getElem? (i := 70) (by decide +kernel)) rfl, tA (List.mem_of_getElem? (i := 849) (by decide +kernel)) rfl, ⟨by decide, by decide, by decide +kernel⟩⟩
theorem yv_X7_setting : YV yX7_setting cX7_setting 2 (some .int) 1 := ⟨tA (List.mem_of_getElem? (i := 907) (by decide +kernel)) rfl, tA (List.mem_of_getElem? (i := 34) (by decide +kernel)) rfl, tA (List.mem_of_getElem? (i := 70) (by decide +kernel)) rfl, tA (List.mem_of_getElem? (i := 908) (by decide +kernel)) rfl, ⟨by decide, by decide, by decide +kernel⟩⟩
theorem yv_X7_next : YS yX7_next cX7_next 3 (some .int) 2 := ⟨tA (List.mem_of_getElem? (i := 851) (by decide +kernel)) rfl, tA (List.mem_of_getElem? (i := 70) (by decide +kernel)) rfl, tA (List.mem_of_getElem? (i := 852) (by decide +kernel)) rfl, ⟨by decide, by decide, by decide +kernel⟩⟩
theorem yv_X7_setLines : YV yX7_setLines cX7_setLines 7 (some .int) 3 := ⟨tA (List.mem_of_getElem? (i := 840) (by decide +kernel)) rfl, tA (List.mem_of_getElem? (i := 841) (by decide +kernel)) rfl, tA (List.mem_of_getElem? (i := 70) (by decide +kernel)) rfl, tA (List.mem_of_getElem? (i := 842) (by decide +kernel)) rfl, ⟨by decide, by decide, by decide +kernel⟩⟩
theorem yv_X7_setPoint : YV yX7_setPoint cX7_setPoint 4 (some .int) 2 := ⟨tA (List.mem_of_getElem? (i := 862) (by decide +kernel)) rfl, tA (List.mem_of_getElem? (i := 863) (by decide +kernel)) rfl, tA (List.mem_of_getElem? (i := 70) (by decide +kernel)) rfl, tA (List.mem_of_getElem? (i := 864) (by decide +kernel)) rfl, ⟨by decide, by decide, by decide +kernel⟩⟩
theorem yv_X7_addChannel : YV yX7_addChannel cX7_addChannel 6 (some .int) 3 := ⟨tA (List.mem_of_getElem? (i := 867) (by decide +kernel)) rfl, tA (List.mem_of_getElem? (i := 868) (by decide +kernel)) rfl, tA (List.mem_of_getElem? (i := 70) (by decide +kernel)) rfl, tA (List.mem_of_getElem? (i := 869) (by decide +kernel)) rfl, ⟨by decide, by decide, by decide +kernel⟩⟩
theorem yv_X7_gainOf : YV yX7_gainOf cX7_gainOf 11 (some .int) 2 := ⟨tA (List.mem_of_getElem? (i := 881) (by decide +kernel)) rfl, tA (List.mem_of_getElem? (i := 31) (by decide +kernel)) rfl, tA (List.mem_of_getElem? (i := 70) (by decide +kernel)) rfl, tA (List.mem_of_getElem? (i := 882) (by decide +kernel)) rfl, ⟨by decide, by decide, by decide +kernel⟩⟩
theorem yv_X7_setMode : YV yX7_setMode cX7_setMode 6 (some .int) 5 := ⟨tA (List.mem_of_getElem? (i := 872) (by decide +kernel)) rfl, tA (List.mem_of_getElem? (i := 873) (by decide +kernel)) rfl, tA (List.mem_of_getElem? (i := 70) (by decide +kernel)) rfl, tA (List.mem_of_getElem? (i := 874) (by decide +kernel)) rfl, ⟨by decide, by decide, by decide +kernel⟩⟩
theorem yv_X7_addNotch : YV yX7_addNotch cX7_addNotch 6 (some .int) 4 := ⟨tA (List.mem_of_getElem? (i := 888) (by decide +kernel)) rfl, tA (List.mem_of_getElem? (i := 889) (by decide +kernel)) rfl, tA (List.mem_of_getElem? (i := 70) (by decide +kernel)) rfl, tA (List.mem_of_getElem? (i := 890) (by decide +kernel)) rfl, ⟨by decide, by decide, by decide +kernel⟩⟩
theorem yv_X7_least : YS yX7_least cX7_least 1 (some .int) 1 := ⟨tA (List.mem_of_getElem? (i := 900) (by decide +kernel)) rfl, tA (List.mem_of_getElem? (i := 70) (by decide +kernel)) rfl, tA (List.mem_of_getElem? (i := 901) (by decide +kernel)) rfl, ⟨by decide, by decide, by decide +kernel⟩⟩
theorem yv_X7_most : YS yX7_most cX7_most 1 (some .int) 1 := ⟨tA (List.mem_of_getElem? (i := 903) (by decide +kernel)) rfl, tA (List.mem_of_getElem? (i := 70) (by decide +kernel)) rfl, tA (List.mem_of_getElem? (i := 904) (by decide +kernel)) rfl, ⟨by decide, by decide, by decide +kernel⟩⟩
theorem yv_X7_whyNotSet : YV yX7_whyNotSet cX7_whyNotSet 3 (some .int) 2 := ⟨tA (List.mem_of_getElem? (i := 897) (by decide +kernel)) rfl, tA (List.mem_of_getElem? (i := 33) (by decide +kernel)) rfl, tA (List.mem_of_getElem? (i := 70) (by decide +kernel)) rfl, tA (List.mem_of_getElem? (i := 898) (by decide +kernel)) rfl, ⟨by decide, by decide, by decide +kernel⟩⟩
theorem yv_X7_set : YV yX7_set cX7_set 5 (some .int) 2 := ⟨tA (List.mem_of_getElem? (i := 892) (by decide +kernel)) rfl, tA (List.mem_of_getElem? (i := 893) (by decide +kernel)) rfl, tA (List.mem_of_getElem? (i := 70) (by decide +kernel)) rfl, tA (List.mem_of_getElem? (i := 894) (by decide +kernel)) rfl, ⟨by decide, by decide, by decide +kernel⟩⟩
theorem yv_X7_targetOf : YV yX7_targetOf cX7_targetOf 8 (some .int) 1 := ⟨tA (List.mem_of_getElem? (i := 968) (by decide +kernel)) rfl, tA (List.mem_of_getElem? (i := 46) (by decide +kernel)) rfl, tA (List.mem_of_getElem? (i := 70) (by decide +kernel)) rfl, tA (List.mem_of_getElem? (i := 969) (by decide +kernel)) rfl, ⟨by decide, by decide, by decide +kernel⟩⟩
theorem yv_X7_limitOf : YV yX7_limitOf cX7_limitOf 7 (some .int) 2 := ⟨tA (List.mem_of_getElem? (i := 952) (by decide +kernel)) rfl, tA (List.mem_of_getElem? (i := 43) (by decide +kernel)) rfl, tA (List.mem_of_getElem? (i := 70) (by decide +kernel)) rfl, tA (List.mem_of_getElem? (i := 953) (by decide +kernel)) rfl, ⟨by decide, by decide, by decide +kernel⟩⟩
theorem yv_X7_refusal : YV yX7_refusal cX7_refusal 3 (some .int) 0 := ⟨tA (List.mem_of_getElem? (i := 915) (by decide +kernel)) rfl, tA (List.mem_of_getElem? (i := 35) (by decide +kernel)) rfl, tA (List.mem_of_getElem? (i := 70) (by decide +kernel)) rfl, tA (List.mem_of_getElem? (i := 916) (by decide +kernel)) rfl, ⟨by decide, by decide, by decide +kernel⟩⟩
theorem yv_X7_starts : YV yX7_starts cX7_starts 2 none 1 := ⟨tA (List.mem_of_getElem? (i := 919) (by decide +kernel)) rfl, tA (List.mem_of_getElem? (i := 36) (by decide +kernel)) rfl, tA (List.mem_of_getElem? (i := 70) (by decide +kernel)) rfl, tA (List.mem_of_getElem? (i := 920) (by decide +kernel)) rfl, ⟨by decide, by decide, by decide +kernel⟩⟩
theorem yv_X7_start : YV yX7_start cX7_start 2 (some .int) 1 := ⟨tA (List.mem_of_getElem? (i := 910) (by decide +kernel)) rfl, tA (List.mem_of_getElem? (i := 911) (by decide +kernel)) rfl, tA (List.mem_of_getElem? (i := 70) (by decide +kernel)) rfl, tA (List.mem_of_getElem? (i := 912) (by decide +kernel)) rfl, ⟨by decide, by decide, by decide +kernel⟩⟩
theorem yv_X7_averagedBy : YV yX7_averagedBy cX7_averagedBy 4 (some .int) 2 := ⟨tA (List.mem_of_getElem? (i := 940) (by decide +kernel)) rfl, tA (List.mem_of_getElem? (i := 40) (by decide +kernel)) rfl, tA (List.mem_of_getElem? (i := 70) (by decide +kernel)) rfl, tA (List.mem_of_getElem? (i := 941) (by decide +kernel)) rfl, ⟨by decide, by decide, by decide +kernel⟩⟩
theorem yv_X7_controlLevel : YV yX7_controlLevel cX7_controlLevel 8 (some .int) 0 := ⟨tA (List.mem_of_getElem? (i := 944) (by decide +kernel)) rfl, tA (List.mem_of_getElem? (i := 41) (by decide +kernel)) rfl, tA (List.mem_of_getElem? (i := 70) (by decide +kernel)) rfl, tA (List.mem_of_getElem? (i := 945) (by decide +kernel)) rfl, ⟨by decide, by decide, by decide +kernel⟩⟩
theorem yv_X7_measures : YV yX7_measures cX7_measures 8 (some .int) 0 := ⟨tA (List.mem_of_getElem? (i := 935) (by decide +kernel)) rfl, tA (List.mem_of_getElem? (i := 39) (by decide +kernel)) rfl, tA (List.mem_of_getElem? (i := 70) (by decide +kernel)) rfl, tA (List.mem_of_getElem? (i := 936) (by decide +kernel)) rfl, ⟨by decide, by decide, by decide +kernel⟩⟩
theorem yv_X7_greater : YS yX7_greater cX7_greater 2 (some .int) 2 := ⟨tA (List.mem_of_getElem? (i := 955) (by decide +kernel)) rfl, tA (List.mem_of_getElem? (i := 70) (by decide +kernel)) rfl, tA (List.mem_of_getElem? (i := 956) (by decide +kernel)) rfl, ⟨by decide, by decide, by decide +kernel⟩⟩
theorem yv_X7_watches : YV yX7_watches cX7_watches 7 (some .int) 0 := ⟨tA (List.mem_of_getElem? (i := 948) (by decide +kernel)) rfl, tA (List.mem_of_getElem? (i := 42) (by decide +kernel)) rfl, tA (List.mem_of_getElem? (i := 70) (by decide +kernel)) rfl, tA (List.mem_of_getElem? (i := 949) (by decide +kernel)) rfl, ⟨by decide, by decide, by decide +kernel⟩⟩
theorem yv_X7_goesTo : YV yX7_goesTo cX7_goesTo 17 none 2 := ⟨tA (List.mem_of_getElem? (i := 963) (by decide +kernel)) rfl, tA (List.mem_of_getElem? (i := 45) (by decide +kernel)) rfl, tA (List.mem_of_getElem? (i := 70) (by decide +kernel)) rfl, tA (List.mem_of_getElem? (i := 964) (by decide +kernel)) rfl, ⟨by decide, by decide, by decide +kernel⟩⟩
theorem yv_X7_loop : YV yX7_loop cX7_loop 4 none 0 := ⟨tA (List.mem_of_getElem? (i := 931) (by decide +kernel)) rfl, tA (List.mem_of_getElem? (i := 38) (by decide +kernel)) rfl, tA (List.mem_of_getElem? (i := 70) (by decide +kernel)) rfl, tA (List.mem_of_getElem? (i := 932) (by decide +kernel)) rfl, ⟨by decide, by decide, by decide +kernel⟩⟩
theorem yv_X7_loops : YV yX7_loops cX7_loops 3 (some .int) 1 := ⟨tA (List.mem_of_getElem? (i := 927) (by decide +kernel)) rfl, tA (List.mem_of_getElem? (i := 37) (by decide +kernel)) rfl, tA (List.mem_of_getElem? (i := 70) (by decide +kernel)) rfl, tA (List.mem_of_getElem? (i := 928) (by decide +kernel)) rfl, ⟨by decide, by decide, by decide +kernel⟩⟩
theorem yv_X7_step : YV yX7_step cX7_step 2 (some .int) 1 := ⟨tA (List.mem_of_getElem? (i := 922) (by decide +kernel)) rfl, tA (List.mem_of_getElem? (i := 923) (by decide +kernel)) rfl, tA (List.mem_of_getElem? (i := 70) (by decide +kernel)) rfl, tA (List.mem_of_getElem? (i := 924) (by decide +kernel)) rfl, ⟨by decide, by decide, by decide +kernel⟩⟩
theorem yv_X7_canHold : YV yX7_canHold cX7_canHold 2 (some .boolean) 1 := ⟨tA (List.mem_of_getElem? (i := 978) (by decide +kernel)) rfl, tA (List.mem_of_getElem? (i := 47) (by decide +kernel)) rfl, tA (List.mem_of_getElem? (i := 70) (by decide +kernel)) rfl, tA (List.mem_of_getElem? (i := 979) (by decide +kernel)) rfl, ⟨by decide, by decide, by decide +kernel⟩⟩
theorem yv_X7_hold : YV yX7_hold cX7_hold 2 (some .int) 1 := ⟨tA (List.mem_of_getElem? (i := 973) (by decide +kernel)) rfl, tA (List.mem_of_getElem? (i := 974) (by decide +kernel)) rfl, tA (List.mem_of_getElem? (i := 70) (by decide +kernel)) rfl, tA (List.mem_of_getElem? (i := 975) (by decide +kernel)) rfl, ⟨by decide, by decide, by decide +kernel⟩⟩
theorem yv_X7_canAbort : YV yX7_canAbort cX7_canAbort 1 (some .boolean) 0 := ⟨tA (List.mem_of_getElem? (i := 986) (by decide +kernel)) rfl, tA (List.mem_of_getElem? (i := 48) (by decide +kernel)) rfl, tA (List.mem_of_getElem? (i := 70) (by decide +kernel)) rfl, tA (List.mem_of_getElem? (i := 987) (by decide +kernel)) rfl, ⟨by decide, by decide, by decide +kernel⟩⟩
theorem yv_X7_aborts : YV yX7_aborts cX7_aborts 1 none 0 := ⟨tA (List.mem_of_getElem? (i := 990) (by decide +kernel)) rfl, tA (List.mem_of_getElem? (i := 49) (by decide +kernel)) rfl, tA (List.mem_of_getElem? (i := 70) (by decide +kernel)) rfl, tA (List.mem_of_getElem? (i := 991) (by decide +kernel)) rfl, ⟨by decide, by decide, by decide +kernel⟩⟩
theorem yv_X7_abort : YV yX7_abort cX7_abort 1 (some .int) 0 := ⟨tA (List.mem_of_getElem? (i := 981) (by decide +kernel)) rfl, tA (List.mem_of_getElem? (i := 982) (by decide +kernel)) rfl, tA (List.mem_of_getElem? (i := 70) (by decide +kernel)) rfl, tA (List.mem_of_getElem? (i := 983) (by decide +kernel)) rfl, ⟨by decide, by decide, by decide +kernel⟩⟩
theorem yv_X7_append : YV yX7_append cX7_append 2 (some .int) 1 := ⟨tA (List.mem_of_getElem? (i := 993) (by decide +kernel)) rfl, tA (List.mem_of_getElem? (i := 994) (by decide +kernel)) rfl, tA (List.mem_of_getElem? (i := 70) (by decide +kernel)) rfl, tA (List.mem_of_getElem? (i := 995) (by decide +kernel)) rfl, ⟨by decide, by decide, by decide +kernel⟩⟩
theorem yv_X7_clearText : YV yX7_clearText cX7_clearText 2 (some .int) 0 := ⟨tA (List.mem_of_getElem? (i := 997) (by decide +kernel)) rfl, tA (List.mem_of_getElem? (i := 998) (by decide +kernel)) rfl, tA (List.mem_of_getElem? (i := 70) (by decide +kernel)) rfl, tA (List.mem_of_getElem? (i := 999) (by decide +kernel)) rfl, ⟨by decide, by decide, by decide +kernel⟩⟩
theorem yv_X7_peek : YV yX7_peek cX7_peek 1 (some .int) 0 := ⟨tA (List.mem_of_getElem? (i := 1006) (by decide +kernel)) rfl, tA (List.mem_of_getElem? (i := 50) (by decide +kernel)) rfl, tA (List.mem_of_getElem? (i := 70) (by decide +kernel)) rfl, tA (List.mem_of_getElem? (i := 1007) (by decide +kernel)) rfl, ⟨by decide, by decide, by decide +kernel⟩⟩
theorem yv_X7_takes : YV yX7_takes cX7_takes 3 (some .boolean) 1 := ⟨tA (List.mem_of_getElem? (i := 1021) (by decide +kernel)) rfl, tA (List.mem_of_getElem? (i := 53) (by decide +kernel)) rfl, tA (List.mem_of_getElem? (i := 70) (by decide +kernel)) rfl, tA (List.mem_of_getElem? (i := 1022) (by decide +kernel)) rfl, ⟨by decide, by decide, by decide +kernel⟩⟩
theorem yv_X7_takesNumber : YV yX7_takesNumber cX7_takesNumber 5 (some .boolean) 2 := ⟨tA (List.mem_of_getElem? (i := 1017) (by decide +kernel)) rfl, tA (List.mem_of_getElem? (i := 52) (by decide +kernel)) rfl, tA (List.mem_of_getElem? (i := 70) (by decide +kernel)) rfl, tA (List.mem_of_getElem? (i := 1018) (by decide +kernel)) rfl, ⟨by decide, by decide, by decide +kernel⟩⟩
theorem yv_X7_takesAct : YV yX7_takesAct cX7_takesAct 2 (some .boolean) 1 := ⟨tA (List.mem_of_getElem? (i := 1013) (by decide +kernel)) rfl, tA (List.mem_of_getElem? (i := 51) (by decide +kernel)) rfl, tA (List.mem_of_getElem? (i := 70) (by decide +kernel)) rfl, tA (List.mem_of_getElem? (i := 1014) (by decide +kernel)) rfl, ⟨by decide, by decide, by decide +kernel⟩⟩
theorem yv_X7_isLetter : YS yX7_isLetter cX7_isLetter 1 (some .boolean) 1 := ⟨tA (List.mem_of_getElem? (i := 1009) (by decide +kernel)) rfl, tA (List.mem_of_getElem? (i := 70) (by decide +kernel)) rfl, tA (List.mem_of_getElem? (i := 1010) (by decide +kernel)) rfl, ⟨by decide, by decide, by decide +kernel⟩⟩
theorem yv_X7_faultPosition : YV yX7_faultPosition cX7_faultPosition 2 (some .int) 0 := ⟨tA (List.mem_of_getElem? (i := 1001) (by decide +kernel)) rfl, tA (List.mem_of_getElem? (i := 1002) (by decide +kernel)) rfl, tA (List.mem_of_getElem? (i := 70) (by decide +kernel)) rfl, tA (List.mem_of_getElem? (i := 1003) (by decide +kernel)) rfl, ⟨by decide, by decide, by decide +kernel⟩⟩
theorem yv_X7_does : YV yX7_does cX7_does 4 (some .boolean) 1 := ⟨tA (List.mem_of_getElem? (i := 1030) (by decide +kernel)) rfl, tA (List.mem_of_getElem? (i := 54) (by decide +kernel)) rfl, tA (List.mem_of_getElem? (i := 70) (by decide +kernel)) rfl, tA (List.mem_of_getElem? (i := 1031) (by decide +kernel)) rfl, ⟨by decide, by decide, by decide +kernel⟩⟩
theorem yv_X7_run : YV yX7_run cX7_run 3 (some .int) 0 := ⟨tA (List.mem_of_getElem? (i := 1024) (by decide +kernel)) rfl, tA (List.mem_of_getElem? (i := 1025) (by decide +kernel)) rfl, tA (List.mem_of_getElem? (i := 70) (by decide +kernel)) rfl, tA (List.mem_of_getElem? (i := 1026) (by decide +kernel)) rfl, ⟨by decide, by decide, by decide +kernel⟩⟩
theorem yv_X7_undo : YV yX7_undo cX7_undo 1 (some .int) 0 := ⟨tA (List.mem_of_getElem? (i := 1033) (by decide +kernel)) rfl, tA (List.mem_of_getElem? (i := 1034) (by decide +kernel)) rfl, tA (List.mem_of_getElem? (i := 70) (by decide +kernel)) rfl, tA (List.mem_of_getElem? (i := 1035) (by decide +kernel)) rfl, ⟨by decide, by decide, by decide +kernel⟩⟩
theorem yv_X7_save : YV yX7_save cX7_save 2 (some .int) 1 := ⟨tA (List.mem_of_getElem? (i := 1037) (by decide +kernel)) rfl, tA (List.mem_of_getElem? (i := 1038) (by decide +kernel)) rfl, tA (List.mem_of_getElem? (i := 70) (by decide +kernel)) rfl, tA (List.mem_of_getElem? (i := 1039) (by decide +kernel)) rfl, ⟨by decide, by decide, by decide +kernel⟩⟩
theorem yv_X7_restore : YV yX7_restore cX7_restore 2 (some .int) 1 := ⟨tA (List.mem_of_getElem? (i := 1041) (by decide +kernel)) rfl, tA (List.mem_of_getElem? (i := 1042) (by decide +kernel)) rfl, tA (List.mem_of_getElem? (i := 70) (by decide +kernel)) rfl, tA (List.mem_of_getElem? (i := 1043) (by decide +kernel)) rfl, ⟨by decide, by decide, by decide +kernel⟩⟩
theorem yv_X7_frequency : YV yX7_frequency cX7_frequency 2 (some .int) 1 := ⟨tA (List.mem_of_getElem? (i := 1045) (by decide +kernel)) rfl, tA (List.mem_of_getElem? (i := 1046) (by decide +kernel)) rfl, tA (List.mem_of_getElem? (i := 70) (by decide +kernel)) rfl, tA (List.mem_of_getElem? (i := 1047) (by decide +kernel)) rfl, ⟨by decide, by decide, by decide +kernel⟩⟩
theorem yv_X7_target : YV yX7_target cX7_target 2 (some .int) 1 := ⟨tA (List.mem_of_getElem? (i := 1049) (by decide +kernel)) rfl, tA (List.mem_of_getElem? (i := 1050) (by decide +kernel)) rfl, tA (List.mem_of_getElem? (i := 70) (by decide +kernel)) rfl, tA (List.mem_of_getElem? (i := 1051) (by decide +kernel)) rfl, ⟨by decide, by decide, by decide +kernel⟩⟩
theorem yv_X7_gain : YV yX7_gain cX7_gain 3 (some .int) 2 := ⟨tA (List.mem_of_getElem? (i := 1053) (by decide +kernel)) rfl, tA (List.mem_of_getElem? (i := 1054) (by decide +kernel)) rfl, tA (List.mem_of_getElem? (i := 70) (by decide +kernel)) rfl, tA (List.mem_of_getElem? (i := 1055) (by decide +kernel)) rfl, ⟨by decide, by decide, by decide +kernel⟩⟩
theorem yv_X7_limit : YV yX7_limit cX7_limit 3 (some .int) 2 := ⟨tA (List.mem_of_getElem? (i := 1057) (by decide +kernel)) rfl, tA (List.mem_of_getElem? (i := 1058) (by decide +kernel)) rfl, tA (List.mem_of_getElem? (i := 70) (by decide +kernel)) rfl, tA (List.mem_of_getElem? (i := 1059) (by decide +kernel)) rfl, ⟨by decide, by decide, by decide +kernel⟩⟩
theorem yv_X7_channel : YV yX7_channel cX7_channel 3 (some .int) 2 := ⟨tA (List.mem_of_getElem? (i := 1061) (by decide +kernel)) rfl, tA (List.mem_of_getElem? (i := 1062) (by decide +kernel)) rfl, tA (List.mem_of_getElem? (i := 70) (by decide +kernel)) rfl, tA (List.mem_of_getElem? (i := 1063) (by decide +kernel)) rfl, ⟨by decide, by decide, by decide +kernel⟩⟩
theorem yv_X7_level : YV yX7_level cX7_level 3 (some .int) 2 := ⟨tA (List.mem_of_getElem? (i := 1065) (by decide +kernel)) rfl, tA (List.mem_of_getElem? (i := 1066) (by decide +kernel)) rfl, tA (List.mem_of_getElem? (i := 70) (by decide +kernel)) rfl, tA (List.mem_of_getElem? (i := 1067) (by decide +kernel)) rfl, ⟨by decide, by decide, by decide +kernel⟩⟩
theorem yv_X7_averaged : YV yX7_averaged cX7_averaged 3 (some .int) 2 := ⟨tA (List.mem_of_getElem? (i := 1069) (by decide +kernel)) rfl, tA (List.mem_of_getElem? (i := 1070) (by decide +kernel)) rfl, tA (List.mem_of_getElem? (i := 70) (by decide +kernel)) rfl, tA (List.mem_of_getElem? (i := 1071) (by decide +kernel)) rfl, ⟨by decide, by decide, by decide +kernel⟩⟩
theorem yv_X7_controlGain : YV yX7_controlGain cX7_controlGain 2 (some .int) 1 := ⟨tA (List.mem_of_getElem? (i := 1073) (by decide +kernel)) rfl, tA (List.mem_of_getElem? (i := 1074) (by decide +kernel)) rfl, tA (List.mem_of_getElem? (i := 70) (by decide +kernel)) rfl, tA (List.mem_of_getElem? (i := 1075) (by decide +kernel)) rfl, ⟨by decide, by decide, by decide +kernel⟩⟩
theorem yv_X7_driveAt : YV yX7_driveAt cX7_driveAt 2 (some .int) 1 := ⟨tA (List.mem_of_getElem? (i := 1077) (by decide +kernel)) rfl, tA (List.mem_of_getElem? (i := 1078) (by decide +kernel)) rfl, tA (List.mem_of_getElem? (i := 70) (by decide +kernel)) rfl, tA (List.mem_of_getElem? (i := 1079) (by decide +kernel)) rfl, ⟨by decide, by decide, by decide +kernel⟩⟩
theorem yv_X7_notchedBy : YV yX7_notchedBy cX7_notchedBy 2 (some .int) 1 := ⟨tA (List.mem_of_getElem? (i := 1081) (by decide +kernel)) rfl, tA (List.mem_of_getElem? (i := 1082) (by decide +kernel)) rfl, tA (List.mem_of_getElem? (i := 70) (by decide +kernel)) rfl, tA (List.mem_of_getElem? (i := 1083) (by decide +kernel)) rfl, ⟨by decide, by decide, by decide +kernel⟩⟩
theorem yv_X7_gainAt : YV yX7_gainAt cX7_gainAt 3 (some .int) 2 := ⟨tA (List.mem_of_getElem? (i := 1090) (by decide +kernel)) rfl, tA (List.mem_of_getElem? (i := 55) (by decide +kernel)) rfl, tA (List.mem_of_getElem? (i := 70) (by decide +kernel)) rfl, tA (List.mem_of_getElem? (i := 1091) (by decide +kernel)) rfl, ⟨by decide, by decide, by decide +kernel⟩⟩
theorem yv_X7_isResonance : YV yX7_isResonance cX7_isResonance 4 (some .boolean) 2 := ⟨tA (List.mem_of_getElem? (i := 1094) (by decide +kernel)) rfl, tA (List.mem_of_getElem? (i := 56) (by decide +kernel)) rfl, tA (List.mem_of_getElem? (i := 70) (by decide +kernel)) rfl, tA (List.mem_of_getElem? (i := 1095) (by decide +kernel)) rfl, ⟨by decide, by decide, by decide +kernel⟩⟩
theorem yv_X7_resonance : YV yX7_resonance cX7_resonance 7 (some .int) 2 := ⟨tA (List.mem_of_getElem? (i := 1085) (by decide +kernel)) rfl, tA (List.mem_of_getElem? (i := 1086) (by decide +kernel)) rfl, tA (List.mem_of_getElem? (i := 70) (by decide +kernel)) rfl, tA (List.mem_of_getElem? (i := 1087) (by decide +kernel)) rfl, ⟨by decide, by decide, by decide +kernel⟩⟩
theorem yv_X7_total : YV yX7_total cX7_total 2 (some .int) 1 := ⟨tA (List.mem_of_getElem? (i := 1097) (by decide +kernel)) rfl, tA (List.mem_of_getElem? (i := 1098) (by decide +kernel)) rfl, tA (List.mem_of_getElem? (i := 70) (by decide +kernel)) rfl, tA (List.mem_of_getElem? (i := 1099) (by decide +kernel)) rfl, ⟨by decide, by decide, by decide +kernel⟩⟩
theorem yv_X7_putAside : YV yX7_putAside cX7_putAside 1 none 0 := ⟨tA (List.mem_of_getElem? (i := 1106) (by decide +kernel)) rfl, tA (List.mem_of_getElem? (i := 57) (by decide +kernel)) rfl, tA (List.mem_of_getElem? (i := 70) (by decide +kernel)) rfl, tA (List.mem_of_getElem? (i := 1107) (by decide +kernel)) rfl, ⟨by decide, by decide, by decide +kernel⟩⟩
theorem yv_X7_comesBack : YV yX7_comesBack cX7_comesBack 1 none 0 := ⟨tA (List.mem_of_getElem? (i := 1110) (by decide +kernel)) rfl, tA (List.mem_of_getElem? (i := 58) (by decide +kernel)) rfl, tA (List.mem_of_getElem? (i := 70) (by decide +kernel)) rfl, tA (List.mem_of_getElem? (i := 1111) (by decide +kernel)) rfl, ⟨by decide, by decide, by decide +kernel⟩⟩
theorem yv_X7_loopsLeft : YV yX7_loopsLeft cX7_loopsLeft 3 (some .int) 0 := ⟨tA (List.mem_of_getElem? (i := 1101) (by decide +kernel)) rfl, tA (List.mem_of_getElem? (i := 1102) (by decide +kernel)) rfl, tA (List.mem_of_getElem? (i := 70) (by decide +kernel)) rfl, tA (List.mem_of_getElem? (i := 1103) (by decide +kernel)) rfl, ⟨by decide, by decide, by decide +kernel⟩⟩
theorem yv_X7_wouldAbort : YV yX7_wouldAbort cX7_wouldAbort 3 (some .int) 1 := ⟨tA (List.mem_of_getElem? (i := 1113) (by decide +kernel)) rfl, tA (List.mem_of_getElem? (i := 1114) (by decide +kernel)) rfl, tA (List.mem_of_getElem? (i := 70) (by decide +kernel)) rfl, tA (List.mem_of_getElem? (i := 1115) (by decide +kernel)) rfl, ⟨by decide, by decide, by decide +kernel⟩⟩
theorem yv_X7_highest : YV yX7_highest cX7_highest 6 (some .int) 2 := ⟨tA (List.mem_of_getElem? (i := 1117) (by decide +kernel)) rfl, tA (List.mem_of_getElem? (i := 1118) (by decide +kernel)) rfl, tA (List.mem_of_getElem? (i := 70) (by decide +kernel)) rfl, tA (List.mem_of_getElem? (i := 1119) (by decide +kernel)) rfl, ⟨by decide, by decide, by decide +kernel⟩⟩
end
