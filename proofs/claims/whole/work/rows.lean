section
-- ===== PART A: goes FIRST, ahead of the names: the tables' words, and 'selects' of the private methods out of them =====
/-- a private method of a class that the tables say can be made, by its rows of tables_1 -/
def lw_okq (q : MethodName × Nat) : Prop := (q.1.cls ≠ "java/lang/invoke/MethodHandle" ∧ q.1.cls ≠ "java/lang/invoke/VarHandle") ∧ Cond.instantiable q.1.cls q.2 ∈ tables_1 ∧ Cond.privateMethod q.1 ∈ tables_1 ∧ Cond.instanceMethod q.1 ∈ tables_1
theorem lw_p0 : lw_okq (⟨"ShakerSweep$State", "forgetRun", "()V"⟩, 17) := ⟨⟨by decide +kernel, by decide +kernel⟩, List.mem_of_getElem? (i := 21) (by decide +kernel), List.mem_of_getElem? (i := 141) (by decide +kernel), List.mem_of_getElem? (i := 142) (by decide +kernel)⟩
theorem lw_p1 : lw_okq (⟨"ShakerSweep$State", "forgetGains", "()V"⟩, 17) := ⟨⟨by decide +kernel, by decide +kernel⟩, List.mem_of_getElem? (i := 21) (by decide +kernel), List.mem_of_getElem? (i := 153) (by decide +kernel), List.mem_of_getElem? (i := 154) (by decide +kernel)⟩
theorem lw_p2 : lw_okq (⟨"ShakerSweep", "recorded", "(I)I"⟩, 6) := ⟨⟨by decide +kernel, by decide +kernel⟩, List.mem_of_getElem? (i := 13) (by decide +kernel), List.mem_of_getElem? (i := 350) (by decide +kernel), List.mem_of_getElem? (i := 351) (by decide +kernel)⟩
theorem lw_p3 : lw_okq (⟨"ShakerSweep$State", "reasonToRefuse", "()I"⟩, 17) := ⟨⟨by decide +kernel, by decide +kernel⟩, List.mem_of_getElem? (i := 21) (by decide +kernel), List.mem_of_getElem? (i := 443) (by decide +kernel), List.mem_of_getElem? (i := 444) (by decide +kernel)⟩
theorem lw_p4 : lw_okq (⟨"ShakerSweep$State", "rampDown", "()V"⟩, 17) := ⟨⟨by decide +kernel, by decide +kernel⟩, List.mem_of_getElem? (i := 21) (by decide +kernel), List.mem_of_getElem? (i := 459) (by decide +kernel), List.mem_of_getElem? (i := 460) (by decide +kernel)⟩
theorem lw_p5 : lw_okq (⟨"ShakerSweep$State", "measureLevels", "(I)I"⟩, 17) := ⟨⟨by decide +kernel, by decide +kernel⟩, List.mem_of_getElem? (i := 21) (by decide +kernel), List.mem_of_getElem? (i := 463) (by decide +kernel), List.mem_of_getElem? (i := 464) (by decide +kernel)⟩
theorem lw_p6 : lw_okq (⟨"ShakerSweep$State", "controlLevel", "()I"⟩, 17) := ⟨⟨by decide +kernel, by decide +kernel⟩, List.mem_of_getElem? (i := 21) (by decide +kernel), List.mem_of_getElem? (i := 479) (by decide +kernel), List.mem_of_getElem? (i := 480) (by decide +kernel)⟩
theorem lw_p7 : lw_okq (⟨"ShakerSweep$State", "countLoop", "(I)I"⟩, 17) := ⟨⟨by decide +kernel, by decide +kernel⟩, List.mem_of_getElem? (i := 21) (by decide +kernel), List.mem_of_getElem? (i := 488) (by decide +kernel), List.mem_of_getElem? (i := 489) (by decide +kernel)⟩
theorem lw_p8 : lw_okq (⟨"ShakerSweep$State", "beginAbort", "(I)V"⟩, 17) := ⟨⟨by decide +kernel, by decide +kernel⟩, List.mem_of_getElem? (i := 21) (by decide +kernel), List.mem_of_getElem? (i := 501) (by decide +kernel), List.mem_of_getElem? (i := 502) (by decide +kernel)⟩
theorem lw_p9 : lw_okq (⟨"ShakerSweep$State", "nextLine", "()I"⟩, 17) := ⟨⟨by decide +kernel, by decide +kernel⟩, List.mem_of_getElem? (i := 21) (by decide +kernel), List.mem_of_getElem? (i := 505) (by decide +kernel), List.mem_of_getElem? (i := 506) (by decide +kernel)⟩
theorem lw_p10 : lw_okq (⟨"ShakerSweep$State", "lineAhead", "()I"⟩, 17) := ⟨⟨by decide +kernel, by decide +kernel⟩, List.mem_of_getElem? (i := 21) (by decide +kernel), List.mem_of_getElem? (i := 509) (by decide +kernel), List.mem_of_getElem? (i := 510) (by decide +kernel)⟩
theorem lw_p11 : lw_okq (⟨"ShakerSweep$State", "goTo", "(II)V"⟩, 17) := ⟨⟨by decide +kernel, by decide +kernel⟩, List.mem_of_getElem? (i := 21) (by decide +kernel), List.mem_of_getElem? (i := 517) (by decide +kernel), List.mem_of_getElem? (i := 518) (by decide +kernel)⟩
theorem lw_p12 : lw_okq (⟨"ShakerSweep$Profile", "between", "(III)I"⟩, 3) := ⟨⟨by decide +kernel, by decide +kernel⟩, List.mem_of_getElem? (i := 45) (by decide +kernel), List.mem_of_getElem? (i := 525) (by decide +kernel), List.mem_of_getElem? (i := 526) (by decide +kernel)⟩
theorem lw_p13 : lw_okq (⟨"ShakerSweep$State", "wantedDrive", "(III)J"⟩, 17) := ⟨⟨by decide +kernel, by decide +kernel⟩, List.mem_of_getElem? (i := 21) (by decide +kernel), List.mem_of_getElem? (i := 529) (by decide +kernel), List.mem_of_getElem? (i := 530) (by decide +kernel)⟩
theorem lw_p14 : lw_okq (⟨"ShakerSweep$Text", "here", "()I"⟩, 7) := ⟨⟨by decide +kernel, by decide +kernel⟩, List.mem_of_getElem? (i := 242) (by decide +kernel), List.mem_of_getElem? (i := 591) (by decide +kernel), List.mem_of_getElem? (i := 592) (by decide +kernel)⟩
theorem lw_p15 : lw_okq (⟨"ShakerSweep$Text", "readFirst", "(II)Z"⟩, 7) := ⟨⟨by decide +kernel, by decide +kernel⟩, List.mem_of_getElem? (i := 242) (by decide +kernel), List.mem_of_getElem? (i := 595) (by decide +kernel), List.mem_of_getElem? (i := 596) (by decide +kernel)⟩
def lw_privs_1 : List (MethodName × Nat) := [(⟨"ShakerSweep$State", "forgetRun", "()V"⟩, 17), (⟨"ShakerSweep$State", "forgetGains", "()V"⟩, 17), (⟨"ShakerSweep", "recorded", "(I)I"⟩, 6), (⟨"ShakerSweep$State", "reasonToRefuse", "()I"⟩, 17), (⟨"ShakerSweep$State", "rampDown", "()V"⟩, 17), (⟨"ShakerSweep$State", "measureLevels", "(I)I"⟩, 17), (⟨"ShakerSweep$State", "controlLevel", "()I"⟩, 17), (⟨"ShakerSweep$State", "countLoop", "(I)I"⟩, 17), (⟨"ShakerSweep$State", "beginAbort", "(I)V"⟩, 17), (⟨"ShakerSweep$State", "nextLine", "()I"⟩, 17), (⟨"ShakerSweep$State", "lineAhead", "()I"⟩, 17), (⟨"ShakerSweep$State", "goTo", "(II)V"⟩, 17), (⟨"ShakerSweep$Profile", "between", "(III)I"⟩, 3), (⟨"ShakerSweep$State", "wantedDrive", "(III)J"⟩, 17), (⟨"ShakerSweep$Text", "here", "()I"⟩, 7), (⟨"ShakerSweep$Text", "readFirst", "(II)Z"⟩, 7)]
theorem lw_r1 : ∀ q ∈ lw_privs_1, lw_okq q := List.forall_mem_cons.mpr ⟨lw_p0, List.forall_mem_cons.mpr ⟨lw_p1, List.forall_mem_cons.mpr ⟨lw_p2, List.forall_mem_cons.mpr ⟨lw_p3, List.forall_mem_cons.mpr ⟨lw_p4, List.forall_mem_cons.mpr ⟨lw_p5, List.forall_mem_cons.mpr ⟨lw_p6, List.forall_mem_cons.mpr ⟨lw_p7, List.forall_mem_cons.mpr ⟨lw_p8, List.forall_mem_cons.mpr ⟨lw_p9, List.forall_mem_cons.mpr ⟨lw_p10, List.forall_mem_cons.mpr ⟨lw_p11, List.forall_mem_cons.mpr ⟨lw_p12, List.forall_mem_cons.mpr ⟨lw_p13, List.forall_mem_cons.mpr ⟨lw_p14, List.forall_mem_cons.mpr ⟨lw_p15, fun _ h => absurd h List.not_mem_nil⟩⟩⟩⟩⟩⟩⟩⟩⟩⟩⟩⟩⟩⟩⟩⟩
theorem lw_p16 : lw_okq (⟨"ShakerSweep$Text", "readNumber", "(II)Z"⟩, 7) := ⟨⟨by decide +kernel, by decide +kernel⟩, List.mem_of_getElem? (i := 242) (by decide +kernel), List.mem_of_getElem? (i := 599) (by decide +kernel), List.mem_of_getElem? (i := 600) (by decide +kernel)⟩
theorem lw_p17 : lw_okq (⟨"ShakerSweep$Text", "readSign", "(I)Z"⟩, 7) := ⟨⟨by decide +kernel, by decide +kernel⟩, List.mem_of_getElem? (i := 242) (by decide +kernel), List.mem_of_getElem? (i := 603) (by decide +kernel), List.mem_of_getElem? (i := 604) (by decide +kernel)⟩
theorem lw_p18 : lw_okq (⟨"ShakerSweep$Text", "readSecond", "(II)Z"⟩, 7) := ⟨⟨by decide +kernel, by decide +kernel⟩, List.mem_of_getElem? (i := 242) (by decide +kernel), List.mem_of_getElem? (i := 607) (by decide +kernel), List.mem_of_getElem? (i := 608) (by decide +kernel)⟩
theorem lw_p19 : lw_okq (⟨"ShakerSweep", "carryOutAct", "()I"⟩, 6) := ⟨⟨by decide +kernel, by decide +kernel⟩, List.mem_of_getElem? (i := 13) (by decide +kernel), List.mem_of_getElem? (i := 617) (by decide +kernel), List.mem_of_getElem? (i := 618) (by decide +kernel)⟩
theorem lw_p20 : lw_okq (⟨"ShakerSweep", "lookAtLine", "([II)I"⟩, 6) := ⟨⟨by decide +kernel, by decide +kernel⟩, List.mem_of_getElem? (i := 13) (by decide +kernel), List.mem_of_getElem? (i := 645) (by decide +kernel), List.mem_of_getElem? (i := 646) (by decide +kernel)⟩
theorem lw_p21 : lw_okq (⟨"ShakerSweep$Channel", "isResonance", "(II)Z"⟩, 18) := ⟨⟨by decide +kernel, by decide +kernel⟩, List.mem_of_getElem? (i := 63) (by decide +kernel), List.mem_of_getElem? (i := 702) (by decide +kernel), List.mem_of_getElem? (i := 703) (by decide +kernel)⟩
theorem lw_p22 : lw_okq (⟨"ShakerSweep$Channel", "gainOfLine", "(II)I"⟩, 18) := ⟨⟨by decide +kernel, by decide +kernel⟩, List.mem_of_getElem? (i := 63) (by decide +kernel), List.mem_of_getElem? (i := 706) (by decide +kernel), List.mem_of_getElem? (i := 707) (by decide +kernel)⟩
theorem lw_p23 : lw_okq (⟨"ShakerSweep$Channel", "resonancesAhead", "(II)I"⟩, 18) := ⟨⟨by decide +kernel, by decide +kernel⟩, List.mem_of_getElem? (i := 63) (by decide +kernel), List.mem_of_getElem? (i := 710) (by decide +kernel), List.mem_of_getElem? (i := 711) (by decide +kernel)⟩
theorem lw_p24 : lw_okq (⟨"ShakerSweepModel", "forgets", "()V"⟩, 8) := ⟨⟨by decide +kernel, by decide +kernel⟩, List.mem_of_getElem? (i := 738) (by decide +kernel), List.mem_of_getElem? (i := 744) (by decide +kernel), List.mem_of_getElem? (i := 745) (by decide +kernel)⟩
theorem lw_p25 : lw_okq (⟨"ShakerSweepModel", "setChannel", "(III)V"⟩, 8) := ⟨⟨by decide +kernel, by decide +kernel⟩, List.mem_of_getElem? (i := 738) (by decide +kernel), List.mem_of_getElem? (i := 748) (by decide +kernel), List.mem_of_getElem? (i := 749) (by decide +kernel)⟩
theorem lw_p26 : lw_okq (⟨"ShakerSweepModel", "forgetsGains", "()V"⟩, 8) := ⟨⟨by decide +kernel, by decide +kernel⟩, List.mem_of_getElem? (i := 738) (by decide +kernel), List.mem_of_getElem? (i := 752) (by decide +kernel), List.mem_of_getElem? (i := 753) (by decide +kernel)⟩
theorem lw_p27 : lw_okq (⟨"ShakerSweepModel", "rests", "()Z"⟩, 8) := ⟨⟨by decide +kernel, by decide +kernel⟩, List.mem_of_getElem? (i := 738) (by decide +kernel), List.mem_of_getElem? (i := 788) (by decide +kernel), List.mem_of_getElem? (i := 789) (by decide +kernel)⟩
theorem lw_p28 : lw_okq (⟨"ShakerSweepModel", "records", "()V"⟩, 8) := ⟨⟨by decide +kernel, by decide +kernel⟩, List.mem_of_getElem? (i := 738) (by decide +kernel), List.mem_of_getElem? (i := 795) (by decide +kernel), List.mem_of_getElem? (i := 796) (by decide +kernel)⟩
theorem lw_p29 : lw_okq (⟨"ShakerSweepModel", "copies", "(II)V"⟩, 8) := ⟨⟨by decide +kernel, by decide +kernel⟩, List.mem_of_getElem? (i := 738) (by decide +kernel), List.mem_of_getElem? (i := 799) (by decide +kernel), List.mem_of_getElem? (i := 800) (by decide +kernel)⟩
theorem lw_p30 : lw_okq (⟨"ShakerSweepModel", "isChannel", "(I)Z"⟩, 8) := ⟨⟨by decide +kernel, by decide +kernel⟩, List.mem_of_getElem? (i := 738) (by decide +kernel), List.mem_of_getElem? (i := 817) (by decide +kernel), List.mem_of_getElem? (i := 818) (by decide +kernel)⟩
theorem lw_p31 : lw_okq (⟨"ShakerSweepModel", "gainOf", "(II)I"⟩, 8) := ⟨⟨by decide +kernel, by decide +kernel⟩, List.mem_of_getElem? (i := 738) (by decide +kernel), List.mem_of_getElem? (i := 821) (by decide +kernel), List.mem_of_getElem? (i := 822) (by decide +kernel)⟩
def lw_privs_2 : List (MethodName × Nat) := [(⟨"ShakerSweep$Text", "readNumber", "(II)Z"⟩, 7), (⟨"ShakerSweep$Text", "readSign", "(I)Z"⟩, 7), (⟨"ShakerSweep$Text", "readSecond", "(II)Z"⟩, 7), (⟨"ShakerSweep", "carryOutAct", "()I"⟩, 6), (⟨"ShakerSweep", "lookAtLine", "([II)I"⟩, 6), (⟨"ShakerSweep$Channel", "isResonance", "(II)Z"⟩, 18), (⟨"ShakerSweep$Channel", "gainOfLine", "(II)I"⟩, 18), (⟨"ShakerSweep$Channel", "resonancesAhead", "(II)I"⟩, 18), (⟨"ShakerSweepModel", "forgets", "()V"⟩, 8), (⟨"ShakerSweepModel", "setChannel", "(III)V"⟩, 8), (⟨"ShakerSweepModel", "forgetsGains", "()V"⟩, 8), (⟨"ShakerSweepModel", "rests", "()Z"⟩, 8), (⟨"ShakerSweepModel", "records", "()V"⟩, 8), (⟨"ShakerSweepModel", "copies", "(II)V"⟩, 8), (⟨"ShakerSweepModel", "isChannel", "(I)Z"⟩, 8), (⟨"ShakerSweepModel", "gainOf", "(II)I"⟩, 8)]
theorem lw_r2 : ∀ q ∈ lw_privs_2, lw_okq q := List.forall_mem_cons.mpr ⟨lw_p16, List.forall_mem_cons.mpr ⟨lw_p17, List.forall_mem_cons.mpr ⟨lw_p18, List.forall_mem_cons.mpr ⟨lw_p19, List.forall_mem_cons.mpr ⟨lw_p20, List.forall_mem_cons.mpr ⟨lw_p21, List.forall_mem_cons.mpr ⟨lw_p22, List.forall_mem_cons.mpr ⟨lw_p23, List.forall_mem_cons.mpr ⟨lw_p24, List.forall_mem_cons.mpr ⟨lw_p25, List.forall_mem_cons.mpr ⟨lw_p26, List.forall_mem_cons.mpr ⟨lw_p27, List.forall_mem_cons.mpr ⟨lw_p28, List.forall_mem_cons.mpr ⟨lw_p29, List.forall_mem_cons.mpr ⟨lw_p30, List.forall_mem_cons.mpr ⟨lw_p31, fun _ h => absurd h List.not_mem_nil⟩⟩⟩⟩⟩⟩⟩⟩⟩⟩⟩⟩⟩⟩⟩⟩
theorem lw_p32 : lw_okq (⟨"ShakerSweepModel", "ofChannel", "(II)I"⟩, 8) := ⟨⟨by decide +kernel, by decide +kernel⟩, List.mem_of_getElem? (i := 738) (by decide +kernel), List.mem_of_getElem? (i := 825) (by decide +kernel), List.mem_of_getElem? (i := 826) (by decide +kernel)⟩
theorem lw_p33 : lw_okq (⟨"ShakerSweepModel", "whyNotSet", "(II)I"⟩, 8) := ⟨⟨by decide +kernel, by decide +kernel⟩, List.mem_of_getElem? (i := 738) (by decide +kernel), List.mem_of_getElem? (i := 837) (by decide +kernel), List.mem_of_getElem? (i := 838) (by decide +kernel)⟩
theorem lw_p34 : lw_okq (⟨"ShakerSweepModel", "setting", "(I)I"⟩, 8) := ⟨⟨by decide +kernel, by decide +kernel⟩, List.mem_of_getElem? (i := 738) (by decide +kernel), List.mem_of_getElem? (i := 847) (by decide +kernel), List.mem_of_getElem? (i := 848) (by decide +kernel)⟩
theorem lw_p35 : lw_okq (⟨"ShakerSweepModel", "refusal", "()I"⟩, 8) := ⟨⟨by decide +kernel, by decide +kernel⟩, List.mem_of_getElem? (i := 738) (by decide +kernel), List.mem_of_getElem? (i := 855) (by decide +kernel), List.mem_of_getElem? (i := 856) (by decide +kernel)⟩
theorem lw_p36 : lw_okq (⟨"ShakerSweepModel", "starts", "(I)V"⟩, 8) := ⟨⟨by decide +kernel, by decide +kernel⟩, List.mem_of_getElem? (i := 738) (by decide +kernel), List.mem_of_getElem? (i := 859) (by decide +kernel), List.mem_of_getElem? (i := 860) (by decide +kernel)⟩
theorem lw_p37 : lw_okq (⟨"ShakerSweepModel", "loops", "(I)I"⟩, 8) := ⟨⟨by decide +kernel, by decide +kernel⟩, List.mem_of_getElem? (i := 738) (by decide +kernel), List.mem_of_getElem? (i := 867) (by decide +kernel), List.mem_of_getElem? (i := 868) (by decide +kernel)⟩
theorem lw_p38 : lw_okq (⟨"ShakerSweepModel", "loop", "()V"⟩, 8) := ⟨⟨by decide +kernel, by decide +kernel⟩, List.mem_of_getElem? (i := 738) (by decide +kernel), List.mem_of_getElem? (i := 871) (by decide +kernel), List.mem_of_getElem? (i := 872) (by decide +kernel)⟩
theorem lw_p39 : lw_okq (⟨"ShakerSweepModel", "measures", "()I"⟩, 8) := ⟨⟨by decide +kernel, by decide +kernel⟩, List.mem_of_getElem? (i := 738) (by decide +kernel), List.mem_of_getElem? (i := 875) (by decide +kernel), List.mem_of_getElem? (i := 876) (by decide +kernel)⟩
theorem lw_p40 : lw_okq (⟨"ShakerSweepModel", "averagedBy", "(II)I"⟩, 8) := ⟨⟨by decide +kernel, by decide +kernel⟩, List.mem_of_getElem? (i := 738) (by decide +kernel), List.mem_of_getElem? (i := 880) (by decide +kernel), List.mem_of_getElem? (i := 881) (by decide +kernel)⟩
theorem lw_p41 : lw_okq (⟨"ShakerSweepModel", "controlLevel", "()I"⟩, 8) := ⟨⟨by decide +kernel, by decide +kernel⟩, List.mem_of_getElem? (i := 738) (by decide +kernel), List.mem_of_getElem? (i := 884) (by decide +kernel), List.mem_of_getElem? (i := 885) (by decide +kernel)⟩
theorem lw_p42 : lw_okq (⟨"ShakerSweepModel", "watches", "()I"⟩, 8) := ⟨⟨by decide +kernel, by decide +kernel⟩, List.mem_of_getElem? (i := 738) (by decide +kernel), List.mem_of_getElem? (i := 888) (by decide +kernel), List.mem_of_getElem? (i := 889) (by decide +kernel)⟩
theorem lw_p43 : lw_okq (⟨"ShakerSweepModel", "limitOf", "(II)I"⟩, 8) := ⟨⟨by decide +kernel, by decide +kernel⟩, List.mem_of_getElem? (i := 738) (by decide +kernel), List.mem_of_getElem? (i := 892) (by decide +kernel), List.mem_of_getElem? (i := 893) (by decide +kernel)⟩
theorem lw_p44 : lw_okq (⟨"ShakerSweepModel", "isLine", "(I)Z"⟩, 8) := ⟨⟨by decide +kernel, by decide +kernel⟩, List.mem_of_getElem? (i := 738) (by decide +kernel), List.mem_of_getElem? (i := 899) (by decide +kernel), List.mem_of_getElem? (i := 900) (by decide +kernel)⟩
theorem lw_p45 : lw_okq (⟨"ShakerSweepModel", "goesTo", "(II)V"⟩, 8) := ⟨⟨by decide +kernel, by decide +kernel⟩, List.mem_of_getElem? (i := 738) (by decide +kernel), List.mem_of_getElem? (i := 903) (by decide +kernel), List.mem_of_getElem? (i := 904) (by decide +kernel)⟩
theorem lw_p46 : lw_okq (⟨"ShakerSweepModel", "targetOf", "(I)I"⟩, 8) := ⟨⟨by decide +kernel, by decide +kernel⟩, List.mem_of_getElem? (i := 738) (by decide +kernel), List.mem_of_getElem? (i := 908) (by decide +kernel), List.mem_of_getElem? (i := 909) (by decide +kernel)⟩
theorem lw_p47 : lw_okq (⟨"ShakerSweepModel", "canHold", "(Z)Z"⟩, 8) := ⟨⟨by decide +kernel, by decide +kernel⟩, List.mem_of_getElem? (i := 738) (by decide +kernel), List.mem_of_getElem? (i := 918) (by decide +kernel), List.mem_of_getElem? (i := 919) (by decide +kernel)⟩
def lw_privs_3 : List (MethodName × Nat) := [(⟨"ShakerSweepModel", "ofChannel", "(II)I"⟩, 8), (⟨"ShakerSweepModel", "whyNotSet", "(II)I"⟩, 8), (⟨"ShakerSweepModel", "setting", "(I)I"⟩, 8), (⟨"ShakerSweepModel", "refusal", "()I"⟩, 8), (⟨"ShakerSweepModel", "starts", "(I)V"⟩, 8), (⟨"ShakerSweepModel", "loops", "(I)I"⟩, 8), (⟨"ShakerSweepModel", "loop", "()V"⟩, 8), (⟨"ShakerSweepModel", "measures", "()I"⟩, 8), (⟨"ShakerSweepModel", "averagedBy", "(II)I"⟩, 8), (⟨"ShakerSweepModel", "controlLevel", "()I"⟩, 8), (⟨"ShakerSweepModel", "watches", "()I"⟩, 8), (⟨"ShakerSweepModel", "limitOf", "(II)I"⟩, 8), (⟨"ShakerSweepModel", "isLine", "(I)Z"⟩, 8), (⟨"ShakerSweepModel", "goesTo", "(II)V"⟩, 8), (⟨"ShakerSweepModel", "targetOf", "(I)I"⟩, 8), (⟨"ShakerSweepModel", "canHold", "(Z)Z"⟩, 8)]
theorem lw_r3 : ∀ q ∈ lw_privs_3, lw_okq q := List.forall_mem_cons.mpr ⟨lw_p32, List.forall_mem_cons.mpr ⟨lw_p33, List.forall_mem_cons.mpr ⟨lw_p34, List.forall_mem_cons.mpr ⟨lw_p35, List.forall_mem_cons.mpr ⟨lw_p36, List.forall_mem_cons.mpr ⟨lw_p37, List.forall_mem_cons.mpr ⟨lw_p38, List.forall_mem_cons.mpr ⟨lw_p39, List.forall_mem_cons.mpr ⟨lw_p40, List.forall_mem_cons.mpr ⟨lw_p41, List.forall_mem_cons.mpr ⟨lw_p42, List.forall_mem_cons.mpr ⟨lw_p43, List.forall_mem_cons.mpr ⟨lw_p44, List.forall_mem_cons.mpr ⟨lw_p45, List.forall_mem_cons.mpr ⟨lw_p46, List.forall_mem_cons.mpr ⟨lw_p47, fun _ h => absurd h List.not_mem_nil⟩⟩⟩⟩⟩⟩⟩⟩⟩⟩⟩⟩⟩⟩⟩⟩
theorem lw_p48 : lw_okq (⟨"ShakerSweepModel", "canAbort", "()Z"⟩, 8) := ⟨⟨by decide +kernel, by decide +kernel⟩, List.mem_of_getElem? (i := 738) (by decide +kernel), List.mem_of_getElem? (i := 926) (by decide +kernel), List.mem_of_getElem? (i := 927) (by decide +kernel)⟩
theorem lw_p49 : lw_okq (⟨"ShakerSweepModel", "aborts", "()V"⟩, 8) := ⟨⟨by decide +kernel, by decide +kernel⟩, List.mem_of_getElem? (i := 738) (by decide +kernel), List.mem_of_getElem? (i := 930) (by decide +kernel), List.mem_of_getElem? (i := 931) (by decide +kernel)⟩
theorem lw_p50 : lw_okq (⟨"ShakerSweepModel", "peek", "()I"⟩, 8) := ⟨⟨by decide +kernel, by decide +kernel⟩, List.mem_of_getElem? (i := 738) (by decide +kernel), List.mem_of_getElem? (i := 946) (by decide +kernel), List.mem_of_getElem? (i := 947) (by decide +kernel)⟩
theorem lw_p51 : lw_okq (⟨"ShakerSweepModel", "takesAct", "(I)Z"⟩, 8) := ⟨⟨by decide +kernel, by decide +kernel⟩, List.mem_of_getElem? (i := 738) (by decide +kernel), List.mem_of_getElem? (i := 953) (by decide +kernel), List.mem_of_getElem? (i := 954) (by decide +kernel)⟩
theorem lw_p52 : lw_okq (⟨"ShakerSweepModel", "takesNumber", "(II)Z"⟩, 8) := ⟨⟨by decide +kernel, by decide +kernel⟩, List.mem_of_getElem? (i := 738) (by decide +kernel), List.mem_of_getElem? (i := 957) (by decide +kernel), List.mem_of_getElem? (i := 958) (by decide +kernel)⟩
theorem lw_p53 : lw_okq (⟨"ShakerSweepModel", "takes", "(I)Z"⟩, 8) := ⟨⟨by decide +kernel, by decide +kernel⟩, List.mem_of_getElem? (i := 738) (by decide +kernel), List.mem_of_getElem? (i := 961) (by decide +kernel), List.mem_of_getElem? (i := 962) (by decide +kernel)⟩
theorem lw_p54 : lw_okq (⟨"ShakerSweepModel", "does", "(I)Z"⟩, 8) := ⟨⟨by decide +kernel, by decide +kernel⟩, List.mem_of_getElem? (i := 738) (by decide +kernel), List.mem_of_getElem? (i := 970) (by decide +kernel), List.mem_of_getElem? (i := 971) (by decide +kernel)⟩
theorem lw_p55 : lw_okq (⟨"ShakerSweepModel", "gainAt", "(II)I"⟩, 8) := ⟨⟨by decide +kernel, by decide +kernel⟩, List.mem_of_getElem? (i := 738) (by decide +kernel), List.mem_of_getElem? (i := 1030) (by decide +kernel), List.mem_of_getElem? (i := 1031) (by decide +kernel)⟩
theorem lw_p56 : lw_okq (⟨"ShakerSweepModel", "isResonance", "(II)Z"⟩, 8) := ⟨⟨by decide +kernel, by decide +kernel⟩, List.mem_of_getElem? (i := 738) (by decide +kernel), List.mem_of_getElem? (i := 1034) (by decide +kernel), List.mem_of_getElem? (i := 1035) (by decide +kernel)⟩
theorem lw_p57 : lw_okq (⟨"ShakerSweepModel", "putAside", "()V"⟩, 8) := ⟨⟨by decide +kernel, by decide +kernel⟩, List.mem_of_getElem? (i := 738) (by decide +kernel), List.mem_of_getElem? (i := 1046) (by decide +kernel), List.mem_of_getElem? (i := 1047) (by decide +kernel)⟩
theorem lw_p58 : lw_okq (⟨"ShakerSweepModel", "comesBack", "()V"⟩, 8) := ⟨⟨by decide +kernel, by decide +kernel⟩, List.mem_of_getElem? (i := 738) (by decide +kernel), List.mem_of_getElem? (i := 1050) (by decide +kernel), List.mem_of_getElem? (i := 1051) (by decide +kernel)⟩
def lw_privs_4 : List (MethodName × Nat) := [(⟨"ShakerSweepModel", "canAbort", "()Z"⟩, 8), (⟨"ShakerSweepModel", "aborts", "()V"⟩, 8), (⟨"ShakerSweepModel", "peek", "()I"⟩, 8), (⟨"ShakerSweepModel", "takesAct", "(I)Z"⟩, 8), (⟨"ShakerSweepModel", "takesNumber", "(II)Z"⟩, 8), (⟨"ShakerSweepModel", "takes", "(I)Z"⟩, 8), (⟨"ShakerSweepModel", "does", "(I)Z"⟩, 8), (⟨"ShakerSweepModel", "gainAt", "(II)I"⟩, 8), (⟨"ShakerSweepModel", "isResonance", "(II)Z"⟩, 8), (⟨"ShakerSweepModel", "putAside", "()V"⟩, 8), (⟨"ShakerSweepModel", "comesBack", "()V"⟩, 8)]
theorem lw_r4 : ∀ q ∈ lw_privs_4, lw_okq q := List.forall_mem_cons.mpr ⟨lw_p48, List.forall_mem_cons.mpr ⟨lw_p49, List.forall_mem_cons.mpr ⟨lw_p50, List.forall_mem_cons.mpr ⟨lw_p51, List.forall_mem_cons.mpr ⟨lw_p52, List.forall_mem_cons.mpr ⟨lw_p53, List.forall_mem_cons.mpr ⟨lw_p54, List.forall_mem_cons.mpr ⟨lw_p55, List.forall_mem_cons.mpr ⟨lw_p56, List.forall_mem_cons.mpr ⟨lw_p57, List.forall_mem_cons.mpr ⟨lw_p58, fun _ h => absurd h List.not_mem_nil⟩⟩⟩⟩⟩⟩⟩⟩⟩⟩⟩
def lw_privs : List (MethodName × Nat) := lw_privs_1 ++ (lw_privs_2 ++ (lw_privs_3 ++ (lw_privs_4)))
def lw_tbl : List Cond := k2_sels lw_privs ++ tables_1
theorem lw_privs_ok : ∀ q ∈ lw_privs, lw_okq q := by
  show ∀ q ∈ lw_privs_1 ++ (lw_privs_2 ++ (lw_privs_3 ++ (lw_privs_4))), lw_okq q
  exact List.forall_mem_append.mpr ⟨lw_r1, List.forall_mem_append.mpr ⟨lw_r2, List.forall_mem_append.mpr ⟨lw_r3, lw_r4⟩⟩⟩
-- ===== end of PART A; then your names; then what follows =====
end
section
def RX0 : String := "ShakerSweep$Channel"
def TX0 : u_T := fun k => match k with
  | 0 => ("ShakerSweep$Channel", "control", "Z", false)
  | 1 => ("ShakerSweep$Channel", "baseGain", "I", false)
  | 2 => ("ShakerSweep$Channel", "abortLimit", "I", false)
  | 3 => ("ShakerSweep$Channel", "centres", "[I", true)
  | 4 => ("ShakerSweep$Channel", "widths", "[I", true)
  | 5 => ("ShakerSweep$Channel", "peaks", "[I", true)
  | 6 => ("ShakerSweep$Channel", "froms", "[I", true)
  | 7 => ("ShakerSweep$Channel", "tos", "[I", true)
  | 8 => ("ShakerSweep$Channel", "limits", "[I", true)
  | 9 => ("ShakerSweep$Channel", "notches", "I", false)
  | 10 => ("ShakerSweep$Channel", "levels", "[I", true)
  | 11 => ("ShakerSweep$Channel", "averagedGains", "[I", true)
  | 12 => ("ShakerSweep$Channel", "latestLevel", "I", false)
  | 13 => ("ShakerSweep$Channel", "latestGain", "I", false)
  | 14 => ("ShakerSweep$Channel", "loopsAboveNotch", "I", false)
  | 15 => ("ShakerSweep$Channel", "mostLoopsAboveNotch", "I", false)
  | 16 => ("ShakerSweep$Channel", "greatestExcess", "I", false)
  | _ => ("ShakerSweep$Channel", "loopsAboveAbort", "I", false)
def tyX0 : Nat → FieldType := fun k => match k with
  | 0 => .boolean
  | 1 => .int
  | 2 => .int
  | 3 => .array .int
  | 4 => .array .int
  | 5 => .array .int
  | 6 => .array .int
  | 7 => .array .int
  | 8 => .array .int
  | 9 => .int
  | 10 => .array .int
  | 11 => .array .int
  | 12 => .int
  | 13 => .int
  | 14 => .int
  | 15 => .int
  | 16 => .int
  | _ => .int
abbrev wsX00 : List Cond := u_ws RX0 TX0 18
theorem nmX0 : ∀ a, a < 18 → ∀ b, b < 18 → a ≠ b → (TX0 a).2.1 ≠ (TX0 b).2.1 := by decide +kernel
theorem tyX0_ok : ∀ k, k < 18 → parseFieldDescriptor (TX0 k).2.2.1 = some (tyX0 k) := by decide +kernel
abbrev cX0_init : ByteArray := prog_2_method_1_code
def yX0_init : MethodName := ⟨RX0, "<init>", "()V"⟩
abbrev cX0_become : ByteArray := prog_2_method_2_code
def yX0_become : MethodName := ⟨RX0, "become", "(ZII)V"⟩
abbrev cX0_forgetRun : ByteArray := prog_2_method_3_code
def yX0_forgetRun : MethodName := ⟨RX0, "forgetRun", "()V"⟩
abbrev cX0_forgetGains : ByteArray := prog_2_method_4_code
def yX0_forgetGains : MethodName := ⟨RX0, "forgetGains", "()V"⟩
abbrev cX0_putMode : ByteArray := prog_2_method_5_code
def yX0_putMode : MethodName := ⟨RX0, "putMode", "(IIII)I"⟩
abbrev cX0_putNotch : ByteArray := prog_2_method_6_code
def yX0_putNotch : MethodName := ⟨RX0, "putNotch", "(III)I"⟩
abbrev cX0_gainAt : ByteArray := prog_2_method_7_code
def yX0_gainAt : MethodName := ⟨RX0, "gainAt", "(I)I"⟩
abbrev cX0_limitAt : ByteArray := prog_2_method_8_code
def yX0_limitAt : MethodName := ⟨RX0, "limitAt", "(I)I"⟩
abbrev cX0_measure : ByteArray := prog_2_method_9_code
def yX0_measure : MethodName := ⟨RX0, "measure", "(IIII)V"⟩
abbrev cX0_countLoop : ByteArray := prog_2_method_10_code
def yX0_countLoop : MethodName := ⟨RX0, "countLoop", "(I)V"⟩
abbrev cX0_notchedDrive : ByteArray := prog_2_method_11_code
def yX0_notchedDrive : MethodName := ⟨RX0, "notchedDrive", "(II)I"⟩
abbrev cX0_propertyOf : ByteArray := prog_2_method_12_code
def yX0_propertyOf : MethodName := ⟨RX0, "propertyOf", "(I)I"⟩
abbrev cX0_resonanceAt : ByteArray := prog_2_method_13_code
def yX0_resonanceAt : MethodName := ⟨RX0, "resonanceAt", "(II)I"⟩
abbrev cX0_resonancesAhead : ByteArray := prog_2_method_14_code
def yX0_resonancesAhead : MethodName := ⟨RX0, "resonancesAhead", "(II)I"⟩
abbrev cX0_isResonance : ByteArray := prog_2_method_15_code
def yX0_isResonance : MethodName := ⟨RX0, "isResonance", "(II)Z"⟩
abbrev cX0_gainOfLine : ByteArray := prog_2_method_16_code
def yX0_gainOfLine : MethodName := ⟨RX0, "gainOfLine", "(II)I"⟩
abbrev cX0_copyFrom : ByteArray := prog_2_method_17_code
def yX0_copyFrom : MethodName := ⟨RX0, "copyFrom", "(LShakerSweep$Channel;)V"⟩
def RX1 : String := "ShakerSweep$History"
def TX1 : u_T := fun k => match k with
  | 0 => ("ShakerSweep$History", "states", "[LShakerSweep$State;", true)
  | 1 => ("ShakerSweep$History", "noted", "I", false)
  | _ => ("ShakerSweep$History", "count", "I", false)
def tyX1 : Nat → FieldType := fun k => match k with
  | 0 => .array (.object "ShakerSweep$State")
  | 1 => .int
  | _ => .int
abbrev wsX10 : List Cond := u_ws RX1 TX1 3
theorem nmX1 : ∀ a, a < 3 → ∀ b, b < 3 → a ≠ b → (TX1 a).2.1 ≠ (TX1 b).2.1 := by decide +kernel
theorem tyX1_ok : ∀ k, k < 3 → parseFieldDescriptor (TX1 k).2.2.1 = some (tyX1 k) := by decide +kernel
abbrev cX1_init : ByteArray := prog_3_method_1_code
def yX1_init : MethodName := ⟨RX1, "<init>", "()V"⟩
abbrev cX1_note : ByteArray := prog_3_method_2_code
def yX1_note : MethodName := ⟨RX1, "note", "(LShakerSweep$State;)V"⟩
abbrev cX1_keepNoted : ByteArray := prog_3_method_3_code
def yX1_keepNoted : MethodName := ⟨RX1, "keepNoted", "()V"⟩
abbrev cX1_takeBack : ByteArray := prog_3_method_4_code
def yX1_takeBack : MethodName := ⟨RX1, "takeBack", "(LShakerSweep$State;)I"⟩
def RX2 : String := "ShakerSweep$Lines"
def TX2 : u_T := fun k => match k with
  | 0 => ("ShakerSweep$Lines", "frequencies", "[I", true)
  | _ => ("ShakerSweep$Lines", "count", "I", false)
def tyX2 : Nat → FieldType := fun k => match k with
  | 0 => .array .int
  | _ => .int
abbrev wsX20 : List Cond := u_ws RX2 TX2 2
theorem nmX2 : ∀ a, a < 2 → ∀ b, b < 2 → a ≠ b → (TX2 a).2.1 ≠ (TX2 b).2.1 := by decide +kernel
theorem tyX2_ok : ∀ k, k < 2 → parseFieldDescriptor (TX2 k).2.2.1 = some (tyX2 k) := by decide +kernel
abbrev cX2_init : ByteArray := prog_4_method_1_code
def yX2_init : MethodName := ⟨RX2, "<init>", "()V"⟩
abbrev cX2_countOf : ByteArray := prog_4_method_2_code
def yX2_countOf : MethodName := ⟨RX2, "countOf", "(III)I"⟩
abbrev cX2_above : ByteArray := prog_4_method_3_code
def yX2_above : MethodName := ⟨RX2, "above", "(II)I"⟩
abbrev cX2_lay : ByteArray := prog_4_method_4_code
def yX2_lay : MethodName := ⟨RX2, "lay", "(III)V"⟩
abbrev cX2_copyFrom : ByteArray := prog_4_method_5_code
def yX2_copyFrom : MethodName := ⟨RX2, "copyFrom", "(LShakerSweep$Lines;)V"⟩
def RX3 : String := "ShakerSweep$Profile"
def TX3 : u_T := fun k => match k with
  | 0 => ("ShakerSweep$Profile", "frequencies", "[I", true)
  | 1 => ("ShakerSweep$Profile", "levels", "[I", true)
  | _ => ("ShakerSweep$Profile", "count", "I", false)
def tyX3 : Nat → FieldType := fun k => match k with
  | 0 => .array .int
  | 1 => .array .int
  | _ => .int
abbrev wsX30 : List Cond := u_ws RX3 TX3 3
theorem nmX3 : ∀ a, a < 3 → ∀ b, b < 3 → a ≠ b → (TX3 a).2.1 ≠ (TX3 b).2.1 := by decide +kernel
theorem tyX3_ok : ∀ k, k < 3 → parseFieldDescriptor (TX3 k).2.2.1 = some (tyX3 k) := by decide +kernel
abbrev cX3_init : ByteArray := prog_5_method_1_code
def yX3_init : MethodName := ⟨RX3, "<init>", "()V"⟩
abbrev cX3_put : ByteArray := prog_5_method_2_code
def yX3_put : MethodName := ⟨RX3, "put", "(II)I"⟩
abbrev cX3_placeOf : ByteArray := prog_5_method_3_code
def yX3_placeOf : MethodName := ⟨RX3, "placeOf", "(I)I"⟩
abbrev cX3_targetAt : ByteArray := prog_5_method_4_code
def yX3_targetAt : MethodName := ⟨RX3, "targetAt", "(I)I"⟩
abbrev cX3_between : ByteArray := prog_5_method_5_code
def yX3_between : MethodName := ⟨RX3, "between", "(III)I"⟩
abbrev cX3_copyFrom : ByteArray := prog_5_method_6_code
def yX3_copyFrom : MethodName := ⟨RX3, "copyFrom", "(LShakerSweep$Profile;)V"⟩
def RX4 : String := "ShakerSweep$State"
def TX4 : u_T := fun k => match k with
  | 0 => ("ShakerSweep$State", "lines", "LShakerSweep$Lines;", true)
  | 1 => ("ShakerSweep$State", "profile", "LShakerSweep$Profile;", true)
  | 2 => ("ShakerSweep$State", "channels", "[LShakerSweep$Channel;", true)
  | 3 => ("ShakerSweep$State", "channelCount", "I", false)
  | 4 => ("ShakerSweep$State", "settings", "[I", true)
  | 5 => ("ShakerSweep$State", "controlGains", "[I", true)
  | 6 => ("ShakerSweep$State", "drives", "[I", true)
  | 7 => ("ShakerSweep$State", "notchers", "[I", true)
  | 8 => ("ShakerSweep$State", "phase", "I", false)
  | 9 => ("ShakerSweep$State", "line", "I", false)
  | 10 => ("ShakerSweep$State", "drive", "I", false)
  | 11 => ("ShakerSweep$State", "upwards", "Z", false)
  | 12 => ("ShakerSweep$State", "finishedSweeps", "I", false)
  | 13 => ("ShakerSweep$State", "loops", "I", false)
  | 14 => ("ShakerSweep$State", "abortChannel", "I", false)
  | 15 => ("ShakerSweep$State", "abortLine", "I", false)
  | _ => ("ShakerSweep$State", "reason", "I", false)
def tyX4 : Nat → FieldType := fun k => match k with
  | 0 => .object "ShakerSweep$Lines"
  | 1 => .object "ShakerSweep$Profile"
  | 2 => .array (.object "ShakerSweep$Channel")
  | 3 => .int
  | 4 => .array .int
  | 5 => .array .int
  | 6 => .array .int
  | 7 => .array .int
  | 8 => .int
  | 9 => .int
  | 10 => .int
  | 11 => .boolean
  | 12 => .int
  | 13 => .int
  | 14 => .int
  | 15 => .int
  | _ => .int
abbrev wsX40 : List Cond := u_ws RX4 TX4 17
theorem nmX4 : ∀ a, a < 17 → ∀ b, b < 17 → a ≠ b → (TX4 a).2.1 ≠ (TX4 b).2.1 := by decide +kernel
theorem tyX4_ok : ∀ k, k < 17 → parseFieldDescriptor (TX4 k).2.2.1 = some (tyX4 k) := by decide +kernel
abbrev cX4_init : ByteArray := prog_6_method_1_code
def yX4_init : MethodName := ⟨RX4, "<init>", "()V"⟩
abbrev cX4_hasLine : ByteArray := prog_6_method_2_code
def yX4_hasLine : MethodName := ⟨RX4, "hasLine", "(I)Z"⟩
abbrev cX4_hasChannel : ByteArray := prog_6_method_3_code
def yX4_hasChannel : MethodName := ⟨RX4, "hasChannel", "(I)Z"⟩
abbrev cX4_measures : ByteArray := prog_6_method_4_code
def yX4_measures : MethodName := ⟨RX4, "measures", "()Z"⟩
abbrev cX4_rests : ByteArray := prog_6_method_5_code
def yX4_rests : MethodName := ⟨RX4, "rests", "()Z"⟩
abbrev cX4_forgetRun : ByteArray := prog_6_method_6_code
def yX4_forgetRun : MethodName := ⟨RX4, "forgetRun", "()V"⟩
abbrev cX4_forgetGains : ByteArray := prog_6_method_7_code
def yX4_forgetGains : MethodName := ⟨RX4, "forgetGains", "()V"⟩
abbrev cX4_layLines : ByteArray := prog_6_method_8_code
def yX4_layLines : MethodName := ⟨RX4, "layLines", "(III)I"⟩
abbrev cX4_putPoint : ByteArray := prog_6_method_9_code
def yX4_putPoint : MethodName := ⟨RX4, "putPoint", "(II)I"⟩
abbrev cX4_joinChannel : ByteArray := prog_6_method_10_code
def yX4_joinChannel : MethodName := ⟨RX4, "joinChannel", "(ZII)I"⟩
abbrev cX4_changeSetting : ByteArray := prog_6_method_11_code
def yX4_changeSetting : MethodName := ⟨RX4, "changeSetting", "(II)I"⟩
abbrev cX4_begin : ByteArray := prog_6_method_12_code
def yX4_begin : MethodName := ⟨RX4, "begin", "(I)I"⟩
abbrev cX4_reasonToRefuse : ByteArray := prog_6_method_13_code
def yX4_reasonToRefuse : MethodName := ⟨RX4, "reasonToRefuse", "()I"⟩
abbrev cX4_holdOrGoOn : ByteArray := prog_6_method_14_code
def yX4_holdOrGoOn : MethodName := ⟨RX4, "holdOrGoOn", "(Z)I"⟩
abbrev cX4_abortByHand : ByteArray := prog_6_method_15_code
def yX4_abortByHand : MethodName := ⟨RX4, "abortByHand", "()I"⟩
abbrev cX4_beginAbort : ByteArray := prog_6_method_16_code
def yX4_beginAbort : MethodName := ⟨RX4, "beginAbort", "(I)V"⟩
abbrev cX4_doLoops : ByteArray := prog_6_method_17_code
def yX4_doLoops : MethodName := ⟨RX4, "doLoops", "(I)I"⟩
abbrev cX4_doLoop : ByteArray := prog_6_method_18_code
def yX4_doLoop : MethodName := ⟨RX4, "doLoop", "()V"⟩
abbrev cX4_rampDown : ByteArray := prog_6_method_19_code
def yX4_rampDown : MethodName := ⟨RX4, "rampDown", "()V"⟩
abbrev cX4_measureLevels : ByteArray := prog_6_method_20_code
def yX4_measureLevels : MethodName := ⟨RX4, "measureLevels", "(I)I"⟩
abbrev cX4_controlLevel : ByteArray := prog_6_method_21_code
def yX4_controlLevel : MethodName := ⟨RX4, "controlLevel", "()I"⟩
abbrev cX4_countLoop : ByteArray := prog_6_method_22_code
def yX4_countLoop : MethodName := ⟨RX4, "countLoop", "(I)I"⟩
abbrev cX4_nextLine : ByteArray := prog_6_method_23_code
def yX4_nextLine : MethodName := ⟨RX4, "nextLine", "()I"⟩
abbrev cX4_lineAhead : ByteArray := prog_6_method_24_code
def yX4_lineAhead : MethodName := ⟨RX4, "lineAhead", "()I"⟩
abbrev cX4_goTo : ByteArray := prog_6_method_25_code
def yX4_goTo : MethodName := ⟨RX4, "goTo", "(II)V"⟩
abbrev cX4_wantedDrive : ByteArray := prog_6_method_26_code
def yX4_wantedDrive : MethodName := ⟨RX4, "wantedDrive", "(III)J"⟩
abbrev cX4_totalOf : ByteArray := prog_6_method_27_code
def yX4_totalOf : MethodName := ⟨RX4, "totalOf", "(I)I"⟩
abbrev cX4_copyFrom : ByteArray := prog_6_method_28_code
def yX4_copyFrom : MethodName := ⟨RX4, "copyFrom", "(LShakerSweep$State;)V"⟩
def RX5 : String := "ShakerSweep$Text"
def TX5 : u_T := fun k => match k with
  | 0 => ("ShakerSweep$Text", "bytes", "[I", true)
  | 1 => ("ShakerSweep$Text", "length", "I", false)
  | 2 => ("ShakerSweep$Text", "at", "I", false)
  | 3 => ("ShakerSweep$Text", "act", "I", false)
  | 4 => ("ShakerSweep$Text", "number", "I", false)
  | 5 => ("ShakerSweep$Text", "first", "I", false)
  | _ => ("ShakerSweep$Text", "second", "I", false)
def tyX5 : Nat → FieldType := fun k => match k with
  | 0 => .array .int
  | 1 => .int
  | 2 => .int
  | 3 => .int
  | 4 => .int
  | 5 => .int
  | _ => .int
abbrev wsX50 : List Cond := u_ws RX5 TX5 7
theorem nmX5 : ∀ a, a < 7 → ∀ b, b < 7 → a ≠ b → (TX5 a).2.1 ≠ (TX5 b).2.1 := by decide +kernel
theorem tyX5_ok : ∀ k, k < 7 → parseFieldDescriptor (TX5 k).2.2.1 = some (tyX5 k) := by decide +kernel
abbrev cX5_init : ByteArray := prog_7_method_1_code
def yX5_init : MethodName := ⟨RX5, "<init>", "()V"⟩
abbrev cX5_add : ByteArray := prog_7_method_2_code
def yX5_add : MethodName := ⟨RX5, "add", "(I)I"⟩
abbrev cX5_rewind : ByteArray := prog_7_method_3_code
def yX5_rewind : MethodName := ⟨RX5, "rewind", "()V"⟩
abbrev cX5_findFault : ByteArray := prog_7_method_4_code
def yX5_findFault : MethodName := ⟨RX5, "findFault", "()I"⟩
abbrev cX5_readAct : ByteArray := prog_7_method_5_code
def yX5_readAct : MethodName := ⟨RX5, "readAct", "()Z"⟩
abbrev cX5_here : ByteArray := prog_7_method_6_code
def yX5_here : MethodName := ⟨RX5, "here", "()I"⟩
abbrev cX5_readSign : ByteArray := prog_7_method_7_code
def yX5_readSign : MethodName := ⟨RX5, "readSign", "(I)Z"⟩
abbrev cX5_readFirst : ByteArray := prog_7_method_8_code
def yX5_readFirst : MethodName := ⟨RX5, "readFirst", "(II)Z"⟩
abbrev cX5_readSecond : ByteArray := prog_7_method_9_code
def yX5_readSecond : MethodName := ⟨RX5, "readSecond", "(II)Z"⟩
abbrev cX5_readNumber : ByteArray := prog_7_method_10_code
def yX5_readNumber : MethodName := ⟨RX5, "readNumber", "(II)Z"⟩
def RX6 : String := "ShakerSweep"
def TX6 : u_T := fun k => match k with
  | 0 => ("ShakerSweep", "present", "LShakerSweep$State;", true)
  | 1 => ("ShakerSweep", "forecast", "LShakerSweep$State;", true)
  | 2 => ("ShakerSweep", "history", "LShakerSweep$History;", true)
  | 3 => ("ShakerSweep", "slots", "[LShakerSweep$State;", true)
  | 4 => ("ShakerSweep", "slotFilled", "[Z", true)
  | _ => ("ShakerSweep", "text", "LShakerSweep$Text;", true)
def tyX6 : Nat → FieldType := fun k => match k with
  | 0 => .object "ShakerSweep$State"
  | 1 => .object "ShakerSweep$State"
  | 2 => .object "ShakerSweep$History"
  | 3 => .array (.object "ShakerSweep$State")
  | 4 => .array .boolean
  | _ => .object "ShakerSweep$Text"
abbrev wsX60 : List Cond := u_ws RX6 TX6 6
theorem nmX6 : ∀ a, a < 6 → ∀ b, b < 6 → a ≠ b → (TX6 a).2.1 ≠ (TX6 b).2.1 := by decide +kernel
theorem tyX6_ok : ∀ k, k < 6 → parseFieldDescriptor (TX6 k).2.2.1 = some (tyX6 k) := by decide +kernel
abbrev cX6_init : ByteArray := prog_1_method_1_code
def yX6_init : MethodName := ⟨RX6, "<init>", "()V"⟩
abbrev cX6_setLines : ByteArray := prog_1_method_2_code
def yX6_setLines : MethodName := ⟨RX6, "setLines", "(III)I"⟩
abbrev cX6_setPoint : ByteArray := prog_1_method_3_code
def yX6_setPoint : MethodName := ⟨RX6, "setPoint", "(II)I"⟩
abbrev cX6_addChannel : ByteArray := prog_1_method_4_code
def yX6_addChannel : MethodName := ⟨RX6, "addChannel", "(ZII)I"⟩
abbrev cX6_setMode : ByteArray := prog_1_method_5_code
def yX6_setMode : MethodName := ⟨RX6, "setMode", "(IIIII)I"⟩
abbrev cX6_addNotch : ByteArray := prog_1_method_6_code
def yX6_addNotch : MethodName := ⟨RX6, "addNotch", "(IIII)I"⟩
abbrev cX6_set : ByteArray := prog_1_method_7_code
def yX6_set : MethodName := ⟨RX6, "set", "(II)I"⟩
abbrev cX6_start : ByteArray := prog_1_method_8_code
def yX6_start : MethodName := ⟨RX6, "start", "(I)I"⟩
abbrev cX6_step : ByteArray := prog_1_method_9_code
def yX6_step : MethodName := ⟨RX6, "step", "(I)I"⟩
abbrev cX6_hold : ByteArray := prog_1_method_10_code
def yX6_hold : MethodName := ⟨RX6, "hold", "(Z)I"⟩
abbrev cX6_abort : ByteArray := prog_1_method_11_code
def yX6_abort : MethodName := ⟨RX6, "abort", "()I"⟩
abbrev cX6_append : ByteArray := prog_1_method_12_code
def yX6_append : MethodName := ⟨RX6, "append", "(I)I"⟩
abbrev cX6_clearText : ByteArray := prog_1_method_13_code
def yX6_clearText : MethodName := ⟨RX6, "clearText", "()I"⟩
abbrev cX6_faultPosition : ByteArray := prog_1_method_14_code
def yX6_faultPosition : MethodName := ⟨RX6, "faultPosition", "()I"⟩
abbrev cX6_run : ByteArray := prog_1_method_15_code
def yX6_run : MethodName := ⟨RX6, "run", "()I"⟩
abbrev cX6_carryOutAct : ByteArray := prog_1_method_16_code
def yX6_carryOutAct : MethodName := ⟨RX6, "carryOutAct", "()I"⟩
abbrev cX6_undo : ByteArray := prog_1_method_17_code
def yX6_undo : MethodName := ⟨RX6, "undo", "()I"⟩
abbrev cX6_save : ByteArray := prog_1_method_18_code
def yX6_save : MethodName := ⟨RX6, "save", "(I)I"⟩
abbrev cX6_restore : ByteArray := prog_1_method_19_code
def yX6_restore : MethodName := ⟨RX6, "restore", "(I)I"⟩
abbrev cX6_isSlot : ByteArray := prog_1_method_20_code
def yX6_isSlot : MethodName := ⟨RX6, "isSlot", "(I)Z"⟩
abbrev cX6_recorded : ByteArray := prog_1_method_21_code
def yX6_recorded : MethodName := ⟨RX6, "recorded", "(I)I"⟩
abbrev cX6_frequency : ByteArray := prog_1_method_22_code
def yX6_frequency : MethodName := ⟨RX6, "frequency", "(I)I"⟩
abbrev cX6_target : ByteArray := prog_1_method_23_code
def yX6_target : MethodName := ⟨RX6, "target", "(I)I"⟩
abbrev cX6_gain : ByteArray := prog_1_method_24_code
def yX6_gain : MethodName := ⟨RX6, "gain", "(II)I"⟩
abbrev cX6_limit : ByteArray := prog_1_method_25_code
def yX6_limit : MethodName := ⟨RX6, "limit", "(II)I"⟩
abbrev cX6_channel : ByteArray := prog_1_method_26_code
def yX6_channel : MethodName := ⟨RX6, "channel", "(II)I"⟩
abbrev cX6_level : ByteArray := prog_1_method_27_code
def yX6_level : MethodName := ⟨RX6, "level", "(II)I"⟩
abbrev cX6_averaged : ByteArray := prog_1_method_28_code
def yX6_averaged : MethodName := ⟨RX6, "averaged", "(II)I"⟩
abbrev cX6_controlGain : ByteArray := prog_1_method_29_code
def yX6_controlGain : MethodName := ⟨RX6, "controlGain", "(I)I"⟩
abbrev cX6_driveAt : ByteArray := prog_1_method_30_code
def yX6_driveAt : MethodName := ⟨RX6, "driveAt", "(I)I"⟩
abbrev cX6_notchedBy : ByteArray := prog_1_method_31_code
def yX6_notchedBy : MethodName := ⟨RX6, "notchedBy", "(I)I"⟩
abbrev cX6_resonance : ByteArray := prog_1_method_32_code
def yX6_resonance : MethodName := ⟨RX6, "resonance", "(II)I"⟩
abbrev cX6_total : ByteArray := prog_1_method_33_code
def yX6_total : MethodName := ⟨RX6, "total", "(I)I"⟩
abbrev cX6_lookAtLine : ByteArray := prog_1_method_34_code
def yX6_lookAtLine : MethodName := ⟨RX6, "lookAtLine", "([II)I"⟩
abbrev cX6_loopsLeft : ByteArray := prog_1_method_35_code
def yX6_loopsLeft : MethodName := ⟨RX6, "loopsLeft", "()I"⟩
abbrev cX6_wouldAbort : ByteArray := prog_1_method_36_code
def yX6_wouldAbort : MethodName := ⟨RX6, "wouldAbort", "(I)I"⟩
abbrev cX6_highest : ByteArray := prog_1_method_37_code
def yX6_highest : MethodName := ⟨RX6, "highest", "(II)I"⟩
abbrev cX6_isWithin : ByteArray := prog_1_method_38_code
def yX6_isWithin : MethodName := ⟨RX6, "isWithin", "(III)Z"⟩
abbrev cX6_isFrequency : ByteArray := prog_1_method_39_code
def yX6_isFrequency : MethodName := ⟨RX6, "isFrequency", "(I)Z"⟩
abbrev cX6_copyRow : ByteArray := prog_1_method_40_code
def yX6_copyRow : MethodName := ⟨RX6, "copyRow", "([I[I)V"⟩
abbrev cX6_measuredGain : ByteArray := prog_1_method_41_code
def yX6_measuredGain : MethodName := ⟨RX6, "measuredGain", "(II)I"⟩
abbrev cX6_averagedGain : ByteArray := prog_1_method_42_code
def yX6_averagedGain : MethodName := ⟨RX6, "averagedGain", "(III)I"⟩
def RX7 : String := "ShakerSweepModel"
def TX7 : u_T := fun k => match k with
  | 0 => ("ShakerSweepModel", "row", "[I", true)
  | 1 => ("ShakerSweepModel", "kept", "I", false)
  | 2 => ("ShakerSweepModel", "isSaved", "[Z", true)
  | 3 => ("ShakerSweepModel", "text", "[I", true)
  | 4 => ("ShakerSweepModel", "length", "I", false)
  | 5 => ("ShakerSweepModel", "measured", "[I", true)
  | 6 => ("ShakerSweepModel", "at", "I", false)
  | _ => ("ShakerSweepModel", "number", "I", false)
def tyX7 : Nat → FieldType := fun k => match k with
  | 0 => .array .int
  | 1 => .int
  | 2 => .array .boolean
  | 3 => .array .int
  | 4 => .int
  | 5 => .array .int
  | 6 => .int
  | _ => .int
abbrev wsX70 : List Cond := u_ws RX7 TX7 8
theorem nmX7 : ∀ a, a < 8 → ∀ b, b < 8 → a ≠ b → (TX7 a).2.1 ≠ (TX7 b).2.1 := by decide +kernel
theorem tyX7_ok : ∀ k, k < 8 → parseFieldDescriptor (TX7 k).2.2.1 = some (tyX7 k) := by decide +kernel
abbrev cX7_init : ByteArray := prog_9_method_1_code
def yX7_init : MethodName := ⟨RX7, "<init>", "()V"⟩
abbrev cX7_in : ByteArray := prog_9_method_2_code
def yX7_in : MethodName := ⟨RX7, "in", "(III)Z"⟩
abbrev cX7_copies : ByteArray := prog_9_method_3_code
def yX7_copies : MethodName := ⟨RX7, "copies", "(II)V"⟩
abbrev cX7_records : ByteArray := prog_9_method_4_code
def yX7_records : MethodName := ⟨RX7, "records", "()V"⟩
abbrev cX7_forgets : ByteArray := prog_9_method_5_code
def yX7_forgets : MethodName := ⟨RX7, "forgets", "()V"⟩
abbrev cX7_forgetsGains : ByteArray := prog_9_method_6_code
def yX7_forgetsGains : MethodName := ⟨RX7, "forgetsGains", "()V"⟩
abbrev cX7_ofChannel : ByteArray := prog_9_method_7_code
def yX7_ofChannel : MethodName := ⟨RX7, "ofChannel", "(II)I"⟩
abbrev cX7_setChannel : ByteArray := prog_9_method_8_code
def yX7_setChannel : MethodName := ⟨RX7, "setChannel", "(III)V"⟩
abbrev cX7_isLine : ByteArray := prog_9_method_9_code
def yX7_isLine : MethodName := ⟨RX7, "isLine", "(I)Z"⟩
abbrev cX7_isChannel : ByteArray := prog_9_method_10_code
def yX7_isChannel : MethodName := ⟨RX7, "isChannel", "(I)Z"⟩
abbrev cX7_rests : ByteArray := prog_9_method_11_code
def yX7_rests : MethodName := ⟨RX7, "rests", "()Z"⟩
abbrev cX7_setting : ByteArray := prog_9_method_12_code
def yX7_setting : MethodName := ⟨RX7, "setting", "(I)I"⟩
abbrev cX7_setLines : ByteArray := prog_9_method_13_code
def yX7_setLines : MethodName := ⟨RX7, "setLines", "(III)I"⟩
abbrev cX7_next : ByteArray := prog_9_method_14_code
def yX7_next : MethodName := ⟨RX7, "next", "(II)I"⟩
abbrev cX7_setPoint : ByteArray := prog_9_method_15_code
def yX7_setPoint : MethodName := ⟨RX7, "setPoint", "(II)I"⟩
abbrev cX7_addChannel : ByteArray := prog_9_method_16_code
def yX7_addChannel : MethodName := ⟨RX7, "addChannel", "(ZII)I"⟩
abbrev cX7_setMode : ByteArray := prog_9_method_17_code
def yX7_setMode : MethodName := ⟨RX7, "setMode", "(IIIII)I"⟩
abbrev cX7_addNotch : ByteArray := prog_9_method_18_code
def yX7_addNotch : MethodName := ⟨RX7, "addNotch", "(IIII)I"⟩
abbrev cX7_least : ByteArray := prog_9_method_19_code
def yX7_least : MethodName := ⟨RX7, "least", "(I)I"⟩
abbrev cX7_most : ByteArray := prog_9_method_20_code
def yX7_most : MethodName := ⟨RX7, "most", "(I)I"⟩
abbrev cX7_whyNotSet : ByteArray := prog_9_method_21_code
def yX7_whyNotSet : MethodName := ⟨RX7, "whyNotSet", "(II)I"⟩
abbrev cX7_set : ByteArray := prog_9_method_22_code
def yX7_set : MethodName := ⟨RX7, "set", "(II)I"⟩
abbrev cX7_targetOf : ByteArray := prog_9_method_23_code
def yX7_targetOf : MethodName := ⟨RX7, "targetOf", "(I)I"⟩
abbrev cX7_gainOf : ByteArray := prog_9_method_24_code
def yX7_gainOf : MethodName := ⟨RX7, "gainOf", "(II)I"⟩
abbrev cX7_limitOf : ByteArray := prog_9_method_25_code
def yX7_limitOf : MethodName := ⟨RX7, "limitOf", "(II)I"⟩
abbrev cX7_refusal : ByteArray := prog_9_method_26_code
def yX7_refusal : MethodName := ⟨RX7, "refusal", "()I"⟩
abbrev cX7_starts : ByteArray := prog_9_method_27_code
def yX7_starts : MethodName := ⟨RX7, "starts", "(I)V"⟩
abbrev cX7_start : ByteArray := prog_9_method_28_code
def yX7_start : MethodName := ⟨RX7, "start", "(I)I"⟩
abbrev cX7_averagedBy : ByteArray := prog_9_method_29_code
def yX7_averagedBy : MethodName := ⟨RX7, "averagedBy", "(II)I"⟩
abbrev cX7_controlLevel : ByteArray := prog_9_method_30_code
def yX7_controlLevel : MethodName := ⟨RX7, "controlLevel", "()I"⟩
abbrev cX7_measures : ByteArray := prog_9_method_31_code
def yX7_measures : MethodName := ⟨RX7, "measures", "()I"⟩
abbrev cX7_watches : ByteArray := prog_9_method_32_code
def yX7_watches : MethodName := ⟨RX7, "watches", "()I"⟩
abbrev cX7_greater : ByteArray := prog_9_method_33_code
def yX7_greater : MethodName := ⟨RX7, "greater", "(II)I"⟩
abbrev cX7_loop : ByteArray := prog_9_method_34_code
def yX7_loop : MethodName := ⟨RX7, "loop", "()V"⟩
abbrev cX7_goesTo : ByteArray := prog_9_method_35_code
def yX7_goesTo : MethodName := ⟨RX7, "goesTo", "(II)V"⟩
abbrev cX7_loops : ByteArray := prog_9_method_36_code
def yX7_loops : MethodName := ⟨RX7, "loops", "(I)I"⟩
abbrev cX7_step : ByteArray := prog_9_method_37_code
def yX7_step : MethodName := ⟨RX7, "step", "(I)I"⟩
abbrev cX7_canHold : ByteArray := prog_9_method_38_code
def yX7_canHold : MethodName := ⟨RX7, "canHold", "(Z)Z"⟩
abbrev cX7_hold : ByteArray := prog_9_method_39_code
def yX7_hold : MethodName := ⟨RX7, "hold", "(Z)I"⟩
abbrev cX7_canAbort : ByteArray := prog_9_method_40_code
def yX7_canAbort : MethodName := ⟨RX7, "canAbort", "()Z"⟩
abbrev cX7_aborts : ByteArray := prog_9_method_41_code
def yX7_aborts : MethodName := ⟨RX7, "aborts", "()V"⟩
abbrev cX7_abort : ByteArray := prog_9_method_42_code
def yX7_abort : MethodName := ⟨RX7, "abort", "()I"⟩
abbrev cX7_append : ByteArray := prog_9_method_43_code
def yX7_append : MethodName := ⟨RX7, "append", "(I)I"⟩
abbrev cX7_clearText : ByteArray := prog_9_method_44_code
def yX7_clearText : MethodName := ⟨RX7, "clearText", "()I"⟩
abbrev cX7_peek : ByteArray := prog_9_method_45_code
def yX7_peek : MethodName := ⟨RX7, "peek", "()I"⟩
abbrev cX7_takes : ByteArray := prog_9_method_46_code
def yX7_takes : MethodName := ⟨RX7, "takes", "(I)Z"⟩
abbrev cX7_takesNumber : ByteArray := prog_9_method_47_code
def yX7_takesNumber : MethodName := ⟨RX7, "takesNumber", "(II)Z"⟩
abbrev cX7_takesAct : ByteArray := prog_9_method_48_code
def yX7_takesAct : MethodName := ⟨RX7, "takesAct", "(I)Z"⟩
abbrev cX7_isLetter : ByteArray := prog_9_method_49_code
def yX7_isLetter : MethodName := ⟨RX7, "isLetter", "(I)Z"⟩
abbrev cX7_faultPosition : ByteArray := prog_9_method_50_code
def yX7_faultPosition : MethodName := ⟨RX7, "faultPosition", "()I"⟩
abbrev cX7_does : ByteArray := prog_9_method_51_code
def yX7_does : MethodName := ⟨RX7, "does", "(I)Z"⟩
abbrev cX7_run : ByteArray := prog_9_method_52_code
def yX7_run : MethodName := ⟨RX7, "run", "()I"⟩
abbrev cX7_undo : ByteArray := prog_9_method_53_code
def yX7_undo : MethodName := ⟨RX7, "undo", "()I"⟩
abbrev cX7_save : ByteArray := prog_9_method_54_code
def yX7_save : MethodName := ⟨RX7, "save", "(I)I"⟩
abbrev cX7_restore : ByteArray := prog_9_method_55_code
def yX7_restore : MethodName := ⟨RX7, "restore", "(I)I"⟩
abbrev cX7_frequency : ByteArray := prog_9_method_56_code
def yX7_frequency : MethodName := ⟨RX7, "frequency", "(I)I"⟩
abbrev cX7_target : ByteArray := prog_9_method_57_code
def yX7_target : MethodName := ⟨RX7, "target", "(I)I"⟩
abbrev cX7_gain : ByteArray := prog_9_method_58_code
def yX7_gain : MethodName := ⟨RX7, "gain", "(II)I"⟩
abbrev cX7_limit : ByteArray := prog_9_method_59_code
def yX7_limit : MethodName := ⟨RX7, "limit", "(II)I"⟩
abbrev cX7_channel : ByteArray := prog_9_method_60_code
def yX7_channel : MethodName := ⟨RX7, "channel", "(II)I"⟩
abbrev cX7_level : ByteArray := prog_9_method_61_code
def yX7_level : MethodName := ⟨RX7, "level", "(II)I"⟩
abbrev cX7_averaged : ByteArray := prog_9_method_62_code
def yX7_averaged : MethodName := ⟨RX7, "averaged", "(II)I"⟩
abbrev cX7_controlGain : ByteArray := prog_9_method_63_code
def yX7_controlGain : MethodName := ⟨RX7, "controlGain", "(I)I"⟩
abbrev cX7_driveAt : ByteArray := prog_9_method_64_code
def yX7_driveAt : MethodName := ⟨RX7, "driveAt", "(I)I"⟩
abbrev cX7_notchedBy : ByteArray := prog_9_method_65_code
def yX7_notchedBy : MethodName := ⟨RX7, "notchedBy", "(I)I"⟩
abbrev cX7_gainAt : ByteArray := prog_9_method_66_code
def yX7_gainAt : MethodName := ⟨RX7, "gainAt", "(II)I"⟩
abbrev cX7_isResonance : ByteArray := prog_9_method_67_code
def yX7_isResonance : MethodName := ⟨RX7, "isResonance", "(II)Z"⟩
abbrev cX7_resonance : ByteArray := prog_9_method_68_code
def yX7_resonance : MethodName := ⟨RX7, "resonance", "(II)I"⟩
abbrev cX7_total : ByteArray := prog_9_method_69_code
def yX7_total : MethodName := ⟨RX7, "total", "(I)I"⟩
abbrev cX7_putAside : ByteArray := prog_9_method_70_code
def yX7_putAside : MethodName := ⟨RX7, "putAside", "()V"⟩
abbrev cX7_comesBack : ByteArray := prog_9_method_71_code
def yX7_comesBack : MethodName := ⟨RX7, "comesBack", "()V"⟩
abbrev cX7_loopsLeft : ByteArray := prog_9_method_72_code
def yX7_loopsLeft : MethodName := ⟨RX7, "loopsLeft", "()I"⟩
abbrev cX7_wouldAbort : ByteArray := prog_9_method_73_code
def yX7_wouldAbort : MethodName := ⟨RX7, "wouldAbort", "(I)I"⟩
abbrev cX7_highest : ByteArray := prog_9_method_74_code
def yX7_highest : MethodName := ⟨RX7, "highest", "(II)I"⟩
def RJ9 : String := "java/lang/Math"
def TJ9 : u_T := fun k => match k with
  | _ => ("", "", "", false)
def tyJ9 : Nat → FieldType := fun k => match k with
  | _ => .int
abbrev wsJ90 : List Cond := u_ws RJ9 TJ9 0
theorem nmJ9 : ∀ a, a < 0 → ∀ b, b < 0 → a ≠ b → (TJ9 a).2.1 ≠ (TJ9 b).2.1 := by decide +kernel
theorem tyJ9_ok : ∀ k, k < 0 → parseFieldDescriptor (TJ9 k).2.2.1 = some (tyJ9 k) := by decide +kernel
abbrev cJ9_max_7cf53 : ByteArray := prog_10_method_65_code
def yJ9_max_7cf53 : MethodName := ⟨RJ9, "max", "(II)I"⟩
abbrev cJ9_max_f86c9 : ByteArray := prog_10_method_66_code
def yJ9_max_f86c9 : MethodName := ⟨RJ9, "max", "(JJ)J"⟩
abbrev cJ9_min_7cf53 : ByteArray := prog_10_method_69_code
def yJ9_min_7cf53 : MethodName := ⟨RJ9, "min", "(II)I"⟩
abbrev cJ9_min_f86c9 : ByteArray := prog_10_method_70_code
def yJ9_min_f86c9 : MethodName := ⟨RJ9, "min", "(JJ)J"⟩
def RJ10 : String := "java/lang/System"
def TJ10 : u_T := fun k => match k with
  | _ => ("", "", "", false)
def tyJ10 : Nat → FieldType := fun k => match k with
  | _ => .int
abbrev wsJ100 : List Cond := u_ws RJ10 TJ10 0
theorem nmJ10 : ∀ a, a < 0 → ∀ b, b < 0 → a ≠ b → (TJ10 a).2.1 ≠ (TJ10 b).2.1 := by decide +kernel
theorem tyJ10_ok : ∀ k, k < 0 → parseFieldDescriptor (TJ10 k).2.2.1 = some (tyJ10 k) := by decide +kernel
def RJ7 : String := "java/util/Arrays"
def TJ7 : u_T := fun k => match k with
  | _ => ("", "", "", false)
def tyJ7 : Nat → FieldType := fun k => match k with
  | _ => .int
abbrev wsJ70 : List Cond := u_ws RJ7 TJ7 0
theorem nmJ7 : ∀ a, a < 0 → ∀ b, b < 0 → a ≠ b → (TJ7 a).2.1 ≠ (TJ7 b).2.1 := by decide +kernel
theorem tyJ7_ok : ∀ k, k < 0 → parseFieldDescriptor (TJ7 k).2.2.1 = some (tyJ7 k) := by decide +kernel
abbrev cJ7_fill_53178 : ByteArray := prog_12_method_103_code
def yJ7_fill_53178 : MethodName := ⟨RJ7, "fill", "([II)V"⟩
def RL : String := "ShakerSweepLaw"
abbrev cL_law : ByteArray := code
def yL_law : MethodName := ⟨RL, "law", "([I)Z"⟩
abbrev vwCl : List vw_C := [(RX0, TX0, 18), (RX1, TX1, 3), (RX2, TX2, 2), (RX3, TX3, 3), (RX4, TX4, 17), (RX5, TX5, 7), (RX6, TX6, 6), (RX7, TX7, 8)]
end
section
/-! THE ABSTRACT MEMORY: every object and array of the class and of the reference has a number (its place); M gives the ints that stand in it; what refers to what never changes. -/
abbrev MM : Type := Nat → Nat → Int32
def bz (b : Bool) : Int32 := if b = true then 1 else 0
def nz (x : Int32) : Bool := !(x == 0)
def msf (M : MM) (a : Nat) (f : Nat → Int32) : MM := fun b => if b = a then f else M b
def ms (M : MM) (a i : Nat) (v : Int32) : MM := msf M a (upd (M a) i v)
/-- kind and length of the places of a State: 0 Channel, 1 History, 2 Lines, 3 Profile, 4 State, 5 Text, 6 ShakerSweep, 7 the reference; 8 ints, 9 booleans, 10 channels, 11 states -/
def stK (o : Nat) : Nat × Nat := match o with
  | 0 => (4, 0)
  | 1 => (2, 0)
  | 2 => (8, 100)
  | 3 => (3, 0)
  | 4 => (8, 8)
  | 5 => (8, 8)
  | 6 => (10, 6)
  | 7 => (8, 6)
  | 8 => (8, 100)
  | 9 => (8, 100)
  | 10 => (8, 100)
  | o => match (o - 11) % 9 with
    | 0 => (0, 0)
    | 1 => (8, 3)
    | 2 => (8, 3)
    | 3 => (8, 3)
    | 4 => (8, 4)
    | 5 => (8, 4)
    | 6 => (8, 4)
    | _ => (8, 100)
def kd (k : Nat) : Nat × Nat := if k < 650 then stK (k % 65) else match k - 650 with
  | 0 => (6, 0)
  | 1 => (1, 0)
  | 2 => (11, 6)
  | 3 => (11, 2)
  | 4 => (9, 2)
  | 5 => (5, 0)
  | 6 => (8, 80)
  | 7 => (7, 0)
  | 8 => (8, 16272)
  | 9 => (9, 2)
  | 10 => (8, 80)
  | 11 => (8, 6)
  | _ => (12, 0)
def fsC (ad : Nat → Nat) (k : Nat) (r : Nat → Int32) : List Value := [.int (bz (nz (r 0))), .int (r 1), .int (r 2), .ref (ad (k + 1)), .ref (ad (k + 2)), .ref (ad (k + 3)), .ref (ad (k + 4)), .ref (ad (k + 5)), .ref (ad (k + 6)), .int (r 9), .ref (ad (k + 7)), .ref (ad (k + 8)), .int (r 12), .int (r 13), .int (r 14), .int (r 15), .int (r 16), .int (r 17)]
def fsH (ad : Nat → Nat) (k : Nat) (r : Nat → Int32) : List Value := [.ref (ad (k + 1)), .int (r 1), .int (r 2)]
def fsL (ad : Nat → Nat) (k : Nat) (r : Nat → Int32) : List Value := [.ref (ad (k + 1)), .int (r 1)]
def fsP (ad : Nat → Nat) (k : Nat) (r : Nat → Int32) : List Value := [.ref (ad (k + 1)), .ref (ad (k + 2)), .int (r 2)]
def fsS (ad : Nat → Nat) (k : Nat) (r : Nat → Int32) : List Value := [.ref (ad (k + 1)), .ref (ad (k + 3)), .ref (ad (k + 6)), .int (r 3), .ref (ad (k + 7)), .ref (ad (k + 8)), .ref (ad (k + 9)), .ref (ad (k + 10)), .int (r 8), .int (r 9), .int (r 10), .int (bz (nz (r 11))), .int (r 12), .int (r 13), .int (r 14), .int (r 15), .int (r 16)]
def fsT (ad : Nat → Nat) (k : Nat) (r : Nat → Int32) : List Value := [.ref (ad (k + 1)), .int (r 1), .int (r 2), .int (r 3), .int (r 4), .int (r 5), .int (r 6)]
def fsX (ad : Nat → Nat) : List Value := [.ref (ad 0), .ref (ad 65), .ref (ad 651), .ref (ad 653), .ref (ad 654), .ref (ad 655)]
def fsM (ad : Nat → Nat) (k : Nat) (r : Nat → Int32) : List Value := [.ref (ad (k + 1)), .int (r 1), .ref (ad (k + 2)), .ref (ad (k + 3)), .int (r 4), .ref (ad (k + 4)), .int (r 6), .int (r 7)]
def bzr (r : Nat → Int32) : Nat → Int32 := fun j => bz (nz (r j))
def chA (ad : Nat → Nat) (k : Nat) : Nat → Option Nat := fun j => some (ad (k + 5 + 9 * j))
def stA (ad : Nat → Nat) (k : Nat) : Nat → Option Nat := fun j => some (ad (if k = 652 then 260 + 65 * j else 130 + 65 * j))
def cellF (dA : Nat → ClassId) (ad : Nat → Nat) (k : Nat) (r : Nat → Int32) : va_E := match (kd k).1 with
  | 0 => .inr (0, fsC ad k r)
  | 1 => .inr (1, fsH ad k r)
  | 2 => .inr (2, fsL ad k r)
  | 3 => .inr (3, fsP ad k r)
  | 4 => .inr (4, fsS ad k r)
  | 5 => .inr (5, fsT ad k r)
  | 6 => .inr (6, fsX ad)
  | 7 => .inr (7, fsM ad k r)
  | 8 => .inl (dA 0, (kd k).2, .inl r)
  | 9 => .inl (dA 1, (kd k).2, .inl (bzr r))
  | 10 => .inl (dA 2, (kd k).2, .inr (.inr (.inr (.inr (chA ad k)))))
  | _ => .inl (dA 3, (kd k).2, .inr (.inr (.inr (.inr (stA ad k)))))
def wl (dA : Nat → ClassId) (ad : Nat → Nat) (lo n : Nat) (M : MM) : va_W := (List.range n).map (fun i => (ad (lo + i), cellF dA ad (lo + i) (M (lo + i))))
def tysA (dA : Nat → ClassId) : List (ClassId × FieldType) := [(dA 0, .int), (dA 1, .boolean), (dA 2, .object "ShakerSweep$Channel"), (dA 3, .object "ShakerSweep$State")]
/-- what a reference is known to be -/
def tO (lo n c w a : Nat) : Prop := lo ≤ a ∧ a + w ≤ lo + n ∧ (kd a).1 = c
abbrev tCh (lo n a : Nat) : Prop := tO lo n 0 9 a
abbrev tLn (lo n a : Nat) : Prop := tO lo n 2 2 a
abbrev tPf (lo n a : Nat) : Prop := tO lo n 3 3 a
abbrev tSt (lo n a : Nat) : Prop := tO lo n 4 65 a
abbrev tTx (lo n a : Nat) : Prop := tO lo n 5 2 a
abbrev tHi (lo n a : Nat) : Prop := tO lo n 1 2 a ∧ a = 651 ∧ lo = 0
abbrev tSS (lo n a : Nat) : Prop := tO lo n 6 7 a ∧ a = 650 ∧ lo = 0
abbrev tMo (lo n a : Nat) : Prop := tO lo n 7 5 a
def tIA (lo n L a : Nat) : Prop := lo ≤ a ∧ a + 1 ≤ lo + n ∧ kd a = (8, L)
def tZA (lo n L a : Nat) : Prop := lo ≤ a ∧ a + 1 ≤ lo + n ∧ kd a = (9, L)
def tCA (lo n a : Nat) : Prop := lo ≤ a ∧ a + 59 ≤ lo + n ∧ kd a = (10, 6)
def tSA (lo n L a : Nat) : Prop := lo ≤ a ∧ a + 1 ≤ lo + n ∧ kd a = (11, L) ∧ lo = 0 ∧ 650 ≤ n
theorem kd_st {a : Nat} (h : (kd a).1 = 4) : kd (a + 1) = (2, 0) ∧ kd (a + 3) = (3, 0) ∧ kd (a + 6) = (10, 6) ∧ kd (a + 7) = (8, 6) ∧ kd (a + 8) = (8, 100) ∧ kd (a + 9) = (8, 100) ∧ kd (a + 10) = (8, 100) := by
  have key : ∀ a, a < 700 → (kd a).1 = 4 → kd (a + 1) = (2, 0) ∧ kd (a + 3) = (3, 0) ∧ kd (a + 6) = (10, 6) ∧ kd (a + 7) = (8, 6) ∧ kd (a + 8) = (8, 100) ∧ kd (a + 9) = (8, 100) ∧ kd (a + 10) = (8, 100) := by decide +kernel
  rcases Nat.lt_or_ge a 700 with q | q
  · exact key a q h
  · exfalso
    obtain ⟨d, rfl⟩ := Nat.exists_eq_add_of_le q
    simp only [kd, show ¬ (700 + d < 650) by omega, if_false, show 700 + d - 650 = d + 50 by omega] at h
    revert h; simp
theorem kd_big (d : Nat) : kd (700 + d) = (12, 0) := by
  simp only [kd, show ¬ (700 + d < 650) by omega, if_false, show 700 + d - 650 = d + 50 by omega]
theorem kd_lt {a c : Nat} (h : (kd a).1 = c) (hc : c ≠ 12) : a < 700 := by
  rcases Nat.lt_or_ge a 700 with q | q
  · exact q
  · obtain ⟨d, rfl⟩ := Nat.exists_eq_add_of_le q
    rw [kd_big] at h
    exact absurd h.symm hc
theorem kd_all {P : Nat → Prop} {c : Nat} (hc : c ≠ 12) (key : ∀ a, a < 700 → (kd a).1 = c → P a) : ∀ a, (kd a).1 = c → P a := fun a h => key a (kd_lt h hc) h
theorem kd_0j : ∀ a, (kd a).1 = 0 → ∀ j, j < 9 → kd (a + j) = stK (11 + j) := kd_all (by decide) (by decide +kernel)
theorem kd_0 (a : Nat) (h : (kd a).1 = 0) : kd (a + 1) = (8, 3) ∧ kd (a + 2) = (8, 3) ∧ kd (a + 3) = (8, 3) ∧ kd (a + 4) = (8, 4) ∧ kd (a + 5) = (8, 4) ∧ kd (a + 6) = (8, 4) ∧ kd (a + 7) = (8, 100) ∧ kd (a + 8) = (8, 100) := ⟨kd_0j a h 1 (by omega), kd_0j a h 2 (by omega), kd_0j a h 3 (by omega), kd_0j a h 4 (by omega), kd_0j a h 5 (by omega), kd_0j a h 6 (by omega), kd_0j a h 7 (by omega), kd_0j a h 8 (by omega)⟩
theorem kd_2 : ∀ a, (kd a).1 = 2 → kd (a + 1) = (8, 100) := kd_all (by decide) (by decide +kernel)
theorem kd_3 : ∀ a, (kd a).1 = 3 → kd (a + 1) = (8, 8) ∧ kd (a + 2) = (8, 8) := kd_all (by decide) (by decide +kernel)
theorem kd_5 : ∀ a, (kd a).1 = 5 → kd (a + 1) = (8, 80) := kd_all (by decide) (by decide +kernel)
theorem kd_7 : ∀ a, (kd a).1 = 7 → kd (a + 1) = (8, 16272) ∧ kd (a + 2) = (9, 2) ∧ kd (a + 3) = (8, 80) ∧ kd (a + 4) = (8, 6) := kd_all (by decide) (by decide +kernel)
theorem kd_10 : ∀ a, (kd a).1 = 10 → ∀ j, j < 6 → kd (a + 5 + 9 * j) = (0, 0) := kd_all (by decide) (by decide +kernel)
theorem kd_11 : ∀ a, (kd a).1 = 11 → (a = 652 ∨ a = 653) := kd_all (by decide) (by decide +kernel)
theorem kd_sts : ∀ j, j < 10 → kd (65 * j) = (4, 0) := by decide +kernel
-- references out of references
theorem rC1 {lo n a : Nat} (h : tCh lo n a) : tIA lo n 3 (a + 1) := ⟨by have := h.1; omega, by have := h.2.1; omega, (kd_0 a h.2.2).1⟩
theorem rC2 {lo n a : Nat} (h : tCh lo n a) : tIA lo n 3 (a + 2) := ⟨by have := h.1; omega, by have := h.2.1; omega, (kd_0 a h.2.2).2.1⟩
theorem rC3 {lo n a : Nat} (h : tCh lo n a) : tIA lo n 3 (a + 3) := ⟨by have := h.1; omega, by have := h.2.1; omega, (kd_0 a h.2.2).2.2.1⟩
theorem rC4 {lo n a : Nat} (h : tCh lo n a) : tIA lo n 4 (a + 4) := ⟨by have := h.1; omega, by have := h.2.1; omega, (kd_0 a h.2.2).2.2.2.1⟩
theorem rC5 {lo n a : Nat} (h : tCh lo n a) : tIA lo n 4 (a + 5) := ⟨by have := h.1; omega, by have := h.2.1; omega, (kd_0 a h.2.2).2.2.2.2.1⟩
theorem rC6 {lo n a : Nat} (h : tCh lo n a) : tIA lo n 4 (a + 6) := ⟨by have := h.1; omega, by have := h.2.1; omega, (kd_0 a h.2.2).2.2.2.2.2.1⟩
theorem rC7 {lo n a : Nat} (h : tCh lo n a) : tIA lo n 100 (a + 7) := ⟨by have := h.1; omega, by have := h.2.1; omega, (kd_0 a h.2.2).2.2.2.2.2.2.1⟩
theorem rC8 {lo n a : Nat} (h : tCh lo n a) : tIA lo n 100 (a + 8) := ⟨by have := h.1; omega, by have := h.2.1; omega, (kd_0 a h.2.2).2.2.2.2.2.2.2⟩
theorem rL1 {lo n a : Nat} (h : tLn lo n a) : tIA lo n 100 (a + 1) := ⟨by have := h.1; omega, by have := h.2.1; omega, kd_2 a h.2.2⟩
theorem rP1 {lo n a : Nat} (h : tPf lo n a) : tIA lo n 8 (a + 1) := ⟨by have := h.1; omega, by have := h.2.1; omega, (kd_3 a h.2.2).1⟩
theorem rP2 {lo n a : Nat} (h : tPf lo n a) : tIA lo n 8 (a + 2) := ⟨by have := h.1; omega, by have := h.2.1; omega, (kd_3 a h.2.2).2⟩
theorem rT1 {lo n a : Nat} (h : tTx lo n a) : tIA lo n 80 (a + 1) := ⟨by have := h.1; omega, by have := h.2.1; omega, kd_5 a h.2.2⟩
theorem rS1 {lo n a : Nat} (h : tSt lo n a) : tLn lo n (a + 1) := ⟨by have := h.1; omega, by have := h.2.1; omega, by rw [(kd_st h.2.2).1]⟩
theorem rS3 {lo n a : Nat} (h : tSt lo n a) : tPf lo n (a + 3) := ⟨by have := h.1; omega, by have := h.2.1; omega, by rw [(kd_st h.2.2).2.1]⟩
theorem rS6 {lo n a : Nat} (h : tSt lo n a) : tCA lo n (a + 6) := ⟨by have := h.1; omega, by have := h.2.1; omega, (kd_st h.2.2).2.2.1⟩
theorem rS7 {lo n a : Nat} (h : tSt lo n a) : tIA lo n 6 (a + 7) := ⟨by have := h.1; omega, by have := h.2.1; omega, (kd_st h.2.2).2.2.2.1⟩
theorem rS8 {lo n a : Nat} (h : tSt lo n a) : tIA lo n 100 (a + 8) := ⟨by have := h.1; omega, by have := h.2.1; omega, (kd_st h.2.2).2.2.2.2.1⟩
theorem rS9 {lo n a : Nat} (h : tSt lo n a) : tIA lo n 100 (a + 9) := ⟨by have := h.1; omega, by have := h.2.1; omega, (kd_st h.2.2).2.2.2.2.2.1⟩
theorem rS10 {lo n a : Nat} (h : tSt lo n a) : tIA lo n 100 (a + 10) := ⟨by have := h.1; omega, by have := h.2.1; omega, (kd_st h.2.2).2.2.2.2.2.2⟩
theorem rCA {lo n a j : Nat} (h : tCA lo n a) (hj : j < 6) : tCh lo n (a + 5 + 9 * j) := ⟨by have := h.1; omega, by have := h.2.1; omega, by rw [kd_10 a (by rw [h.2.2]) j hj]⟩
theorem rM1 {lo n a : Nat} (h : tMo lo n a) : tIA lo n 16272 (a + 1) := ⟨by have := h.1; omega, by have := h.2.1; omega, (kd_7 a h.2.2).1⟩
theorem rM2 {lo n a : Nat} (h : tMo lo n a) : tZA lo n 2 (a + 2) := ⟨by have := h.1; omega, by have := h.2.1; omega, (kd_7 a h.2.2).2.1⟩
theorem rM3 {lo n a : Nat} (h : tMo lo n a) : tIA lo n 80 (a + 3) := ⟨by have := h.1; omega, by have := h.2.1; omega, (kd_7 a h.2.2).2.2.1⟩
theorem rM4 {lo n a : Nat} (h : tMo lo n a) : tIA lo n 6 (a + 4) := ⟨by have := h.1; omega, by have := h.2.1; omega, (kd_7 a h.2.2).2.2.2⟩
theorem rSA {lo n a j L : Nat} (h : tSA lo n L a) (hj : j < L) : tSt lo n (if a = 652 then 260 + 65 * j else 130 + 65 * j) := by
  obtain ⟨h1, h2, h3, h4, h5⟩ := h
  rcases kd_11 a (by rw [h3]) with rfl | rfl
  · have hL : L = 6 := by have := (Prod.mk.inj (h3.symm.trans (by decide +kernel : kd 652 = (11, 6)))).2; omega
    refine ⟨by omega, by simp; omega, ?_⟩
    rw [if_pos rfl, show 260 + 65 * j = 65 * (4 + j) by omega, kd_sts (4 + j) (by omega)]
  · have hL : L = 2 := by have := (Prod.mk.inj (h3.symm.trans (by decide +kernel : kd 653 = (11, 2)))).2; omega
    refine ⟨by omega, by simp; omega, ?_⟩
    rw [if_neg (by decide), show 130 + 65 * j = 65 * (2 + j) by omega, kd_sts (2 + j) (by omega)]
theorem rX0 {lo n a : Nat} (h : tSS lo n a) : tSt lo n 0 := ⟨by have := h.2.2; omega, by have h1 := h.1.2.1; have h2 := h.2.1; omega, by decide +kernel⟩
theorem rX1 {lo n a : Nat} (h : tSS lo n a) : tSt lo n 65 := ⟨by have := h.2.2; omega, by have h1 := h.1.2.1; have h2 := h.2.1; omega, by decide +kernel⟩
theorem rX2 {lo n a : Nat} (h : tSS lo n a) : tHi lo n 651 := ⟨⟨by have := h.2.2; omega, by have h1 := h.1.2.1; have h2 := h.2.1; omega, by decide +kernel⟩, rfl, h.2.2⟩
theorem rX3 {lo n a : Nat} (h : tSS lo n a) : tSA lo n 2 653 := ⟨by have := h.2.2; omega, by have h1 := h.1.2.1; have h2 := h.2.1; omega, by decide +kernel, h.2.2, by have h1 := h.1.2.1; have h2 := h.2.1; have h3 := h.2.2; omega⟩
theorem rX4 {lo n a : Nat} (h : tSS lo n a) : tZA lo n 2 654 := ⟨by have := h.2.2; omega, by have h1 := h.1.2.1; have h2 := h.2.1; omega, by decide +kernel⟩
theorem rX5 {lo n a : Nat} (h : tSS lo n a) : tTx lo n 655 := ⟨by have := h.2.2; omega, by have h1 := h.1.2.1; have h2 := h.2.1; omega, by decide +kernel⟩
theorem rH1 {lo n a : Nat} (h : tHi lo n a) : tSA lo n 6 (a + 1) := by
  obtain ⟨h1, h2, h3⟩ := h
  subst h2
  exact ⟨by omega, by have := h1.2.1; omega, by decide +kernel, h3, by have := h1.2.1; omega⟩
-- cells
theorem cC {lo n a : Nat} (h : tCh lo n a) (dA : Nat → ClassId) (ad : Nat → Nat) (r : Nat → Int32) : cellF dA ad a r = .inr (0, fsC ad a r) := by unfold cellF; rw [h.2.2]; rfl
theorem cH {lo n a : Nat} (h : tHi lo n a) (dA : Nat → ClassId) (ad : Nat → Nat) (r : Nat → Int32) : cellF dA ad a r = .inr (1, fsH ad a r) := by unfold cellF; rw [h.1.2.2]; rfl
theorem cL {lo n a : Nat} (h : tLn lo n a) (dA : Nat → ClassId) (ad : Nat → Nat) (r : Nat → Int32) : cellF dA ad a r = .inr (2, fsL ad a r) := by unfold cellF; rw [h.2.2]; rfl
theorem cP {lo n a : Nat} (h : tPf lo n a) (dA : Nat → ClassId) (ad : Nat → Nat) (r : Nat → Int32) : cellF dA ad a r = .inr (3, fsP ad a r) := by unfold cellF; rw [h.2.2]; rfl
theorem cS {lo n a : Nat} (h : tSt lo n a) (dA : Nat → ClassId) (ad : Nat → Nat) (r : Nat → Int32) : cellF dA ad a r = .inr (4, fsS ad a r) := by unfold cellF; rw [h.2.2]; rfl
theorem cT {lo n a : Nat} (h : tTx lo n a) (dA : Nat → ClassId) (ad : Nat → Nat) (r : Nat → Int32) : cellF dA ad a r = .inr (5, fsT ad a r) := by unfold cellF; rw [h.2.2]; rfl
theorem cX {lo n a : Nat} (h : tSS lo n a) (dA : Nat → ClassId) (ad : Nat → Nat) (r : Nat → Int32) : cellF dA ad a r = .inr (6, fsX ad) := by unfold cellF; rw [h.1.2.2]; rfl
theorem cM {lo n a : Nat} (h : tMo lo n a) (dA : Nat → ClassId) (ad : Nat → Nat) (r : Nat → Int32) : cellF dA ad a r = .inr (7, fsM ad a r) := by unfold cellF; rw [h.2.2]; rfl
theorem cI {lo n L a : Nat} (h : tIA lo n L a) (dA : Nat → ClassId) (ad : Nat → Nat) (r : Nat → Int32) : cellF dA ad a r = .inl (dA 0, L, .inl r) := by unfold cellF; rw [h.2.2]; rfl
theorem cZ {lo n L a : Nat} (h : tZA lo n L a) (dA : Nat → ClassId) (ad : Nat → Nat) (r : Nat → Int32) : cellF dA ad a r = .inl (dA 1, L, .inl (bzr r)) := by unfold cellF; rw [h.2.2]; rfl
theorem cCA {lo n a : Nat} (h : tCA lo n a) (dA : Nat → ClassId) (ad : Nat → Nat) (r : Nat → Int32) : cellF dA ad a r = .inl (dA 2, 6, .inr (.inr (.inr (.inr (chA ad a))))) := by unfold cellF; rw [h.2.2]; rfl
theorem cSA {lo n L a : Nat} (h : tSA lo n L a) (dA : Nat → ClassId) (ad : Nat → Nat) (r : Nat → Int32) : cellF dA ad a r = .inl (dA 3, L, .inr (.inr (.inr (.inr (stA ad a))))) := by unfold cellF; rw [h.2.2.1]; rfl
theorem wl_at {dA : Nat → ClassId} {ad : Nat → Nat} {lo n a w : Nat} {M : MM} (h1 : lo ≤ a) (h2 : a + (w + 1) ≤ lo + n) {E : va_E} (h : cellF dA ad a (M a) = E) : (wl dA ad lo n M)[a - lo]? = some (ad a, E) := by
  have h3 : a - lo < n := by omega
  simp only [wl, List.getElem?_map, List.getElem?_range h3, Option.map_some, show lo + (a - lo) = a by omega, h]
theorem wl_set {dA : Nat → ClassId} {ad : Nat → Nat} {lo n a w : Nat} {M : MM} {f : Nat → Int32} (h1 : lo ≤ a) (h2 : a + (w + 1) ≤ lo + n) {E : va_E} (h : cellF dA ad a f = E) : (wl dA ad lo n M).set (a - lo) (ad a, E) = wl dA ad lo n (msf M a f) := by
  apply List.ext_getElem?
  intro k
  have hl : (wl dA ad lo n M).length = n := by simp [wl]
  by_cases hk : k = a - lo
  · subst hk
    rw [List.getElem?_set_self (by rw [hl]; omega)]
    rw [wl_at (w := w) (M := msf M a f) h1 h2 (E := E) (by rw [← h]; simp [msf])]
  · rw [List.getElem?_set_ne (Ne.symm hk)]
    simp only [wl, List.getElem?_map]
    rcases Nat.lt_or_ge k n with q | q
    · simp only [List.getElem?_range q, Option.map_some]
      have : lo + k ≠ a := by omega
      simp [msf, this]
    · simp [List.getElem?_eq_none, q]
theorem wl_addr {dA : Nat → ClassId} {ad : Nat → Nat} {lo n : Nat} {M M' : MM} {q : Nat} (h : ∃ (k : Nat) (E : va_E), (wl dA ad lo n M)[k]? = some (q, E)) : ∃ (k : Nat) (E : va_E), (wl dA ad lo n M')[k]? = some (q, E) := by
  obtain ⟨k, E, h⟩ := h
  have hk : k < n := by
    have := (List.getElem?_eq_some_iff.mp h).1
    simpa [wl] using this
  refine ⟨k, cellF dA ad (lo + k) (M' (lo + k)), ?_⟩
  simp only [wl, List.getElem?_map, List.getElem?_range hk, Option.map_some] at h ⊢
  injection h with h
  injection h with h3 h4
  rw [h3]
theorem wl_A {dA : Nat → ClassId} {ad : Nat → Nat} {lo n sz : Nat} (M M' : MM) : va_A (wl dA ad lo n M) sz = va_A (wl dA ad lo n M') sz := by
  funext q
  apply propext
  exact ⟨fun h => h.elim (fun h => Or.inl (wl_addr h)) Or.inr, fun h => h.elim (fun h => Or.inl (wl_addr h)) Or.inr⟩
theorem wl_D {dA : Nat → ClassId} {ad : Nat → Nat} {lo n : Nat} {A : Nat → Prop} {M : MM} (h : va_D A (wl dA ad lo n M)) (M' : MM) : va_D A (wl dA ad lo n M') := by
  have key : ∀ (i : Nat) (p : Nat × va_E), (wl dA ad lo n M')[i]? = some p → ∃ E, (wl dA ad lo n M)[i]? = some (p.1, E) := by
    intro i p hi
    have hk : i < n := by
      have := (List.getElem?_eq_some_iff.mp hi).1
      simpa [wl] using this
    refine ⟨cellF dA ad (lo + i) (M (lo + i)), ?_⟩
    simp only [wl, List.getElem?_map, List.getElem?_range hk, Option.map_some] at hi ⊢
    injection hi with hi
    rw [← hi]
  refine ⟨fun i j p q hi hj e => ?_, fun k q hk => ?_⟩
  · obtain ⟨E1, h1⟩ := key i p hi
    obtain ⟨E2, h2⟩ := key j q hj
    exact h.1 i j _ _ h1 h2 e
  · obtain ⟨E1, h1⟩ := key k q hk
    exact h.2 k (q.1, E1) h1
end
section
def isNest (w : Cond) : Bool := match w with
  | .methodLinkNest _ _ _ _ => true
  | .fieldLinkNest _ _ _ _ _ _ => true
  | _ => false
def tblA : List Cond := lw_tbl.filter (fun w => goodWord w || isNest w)
def tblG : List Cond := lw_tbl.filter goodWord
theorem tA {w : Cond} (h : w ∈ lw_tbl) (h2 : (goodWord w || isNest w) = true) : w ∈ tblA := List.mem_filter.mpr ⟨h, h2⟩
theorem mMathI : Cond.initialized "java/lang/Math" ∈ tblA := tA (List.mem_of_getElem? (i := 65) (by decide +kernel)) rfl
theorem mMaxS : Cond.static Lib.Math.max.name ∈ tblA := tA (List.mem_of_getElem? (i := 401) (by decide +kernel)) rfl
theorem mMaxC : Cond.code Lib.Math.max.name Lib.Math.max.code 2 (some .int) ∈ tblA := tA (List.mem_of_getElem? (i := 402) (by decide +kernel)) rfl
theorem mMinS : Cond.static Lib.Math.min.name ∈ tblA := tA (List.mem_of_getElem? (i := 194) (by decide +kernel)) rfl
theorem mMinC : Cond.code Lib.Math.min.name Lib.Math.min.code 2 (some .int) ∈ tblA := tA (List.mem_of_getElem? (i := 195) (by decide +kernel)) rfl
theorem mMaxLS : Cond.static Lib.MathLoose.max_long.x ∈ tblA := tA (List.mem_of_getElem? (i := 594) (by decide +kernel)) rfl
theorem mMaxLC : Cond.code Lib.MathLoose.max_long.x Lib.MathLoose.max_long.code 4 (some .long) ∈ tblA := tA (List.mem_of_getElem? (i := 595) (by decide +kernel)) rfl
theorem mMinLS : Cond.static Lib.MathLoose.min_long.x ∈ tblA := tA (List.mem_of_getElem? (i := 597) (by decide +kernel)) rfl
theorem mMinLC : Cond.code Lib.MathLoose.min_long.x Lib.MathLoose.min_long.code 4 (some .long) ∈ tblA := tA (List.mem_of_getElem? (i := 598) (by decide +kernel)) rfl
theorem mAcN : Cond.native arraycopyName ∈ tblA := tA (List.mem_of_getElem? (i := 198) (by decide +kernel)) rfl
theorem mAcS : Cond.static arraycopyName ∈ tblA := tA (List.mem_of_getElem? (i := 197) (by decide +kernel)) rfl
theorem mSysI : Cond.initialized "java/lang/System" ∈ tblA := tA (List.mem_of_getElem? (i := 66) (by decide +kernel)) rfl
/-! THE ABSTRACT MACHINE: AW says of a frame over the abstract memory what W says of a frame over a heap; a rule an instruction. -/
def cv (ad : Nat → Nat) (v : Value) : Value := match v with
  | .ref a => .ref (ad a)
  | v => v
theorem cv_cat (ad : Nat → Nat) (v : Value) : (cv ad v).category = v.category := by cases v <;> rfl
def cvl (ad : Nat → Nat) (ls : List (Nat × Value)) : List (Nat × Value) := ls.map (fun q => (q.1, cv ad q.2))
def sLE (j : Nat) : Int32 := [0, 1, 1, 1, 10, 1].getD j 0
def sGR (j : Nat) : Int32 := [2, 8, 5, 100, 90, 9].getD j 0
def sAF (j : Nat) : Int32 := [0, 1, 1, 25, 50, 1].getD j 0
def SF1 (f : String) (v : Nat → Int32) (t : Nat) (A : Nat → Prop) (U : State) (H : Heap) : Prop := va_Z "ShakerSweep" f "[I" (.ref t) A U H ∧ va_T .int t 6 (fun j => .int (v j)) A U H
def SF (ad : Nat → Nat) (A : Nat → Prop) (U : State) (H : Heap) : Prop := SF1 "SETTING_LEAST" sLE (ad 1000) A U H ∧ SF1 "SETTING_GREATEST" sGR (ad 1001) A U H ∧ SF1 "SETTING_AT_FIRST" sAF (ad 1002) A U H
theorem SF1.step {f : String} {v : Nat → Int32} {t : Nat} {A B : Nat → Prop} {u U : State} {H H1 : Heap} (h : SF1 f v t A u H) (hvm : u.vm.Alike U.vm) (hq : ∀ a : Nat, a < H.size → ¬ A a → H1[a]? = H[a]?) (hAB : ∀ q, B q → A q) : SF1 f v t B U H1 := by
  obtain ⟨hZ, hT⟩ := h
  exact ⟨((hZ.moved hvm).kept hq).narrow hAB, ((hT.moved hvm).kept hq).narrow hAB⟩
theorem SF.step {ad : Nat → Nat} {A B : Nat → Prop} {u U : State} {H H1 : Heap} (h : SF ad A u H) (hvm : u.vm.Alike U.vm) (hq : ∀ a : Nat, a < H.size → ¬ A a → H1[a]? = H[a]?) (hAB : ∀ q, B q → A q) : SF ad B U H1 := ⟨h.1.step hvm hq hAB, h.2.1.step hvm hq hAB, h.2.2.step hvm hq hAB⟩
def CX (p : Program) (s : State) (m : MethodId) (args : Array Value) (meth : Method) (c : Code) (cc : ByteArray) (nL : Nat) (own : String) (D : va_G) (dA : Nat → ClassId) (ad : Nat → Nat) (lo n : Nat) (A : Nat → Prop) : Prop :=
  p.tables.exec = Jvm.exec ∧ c.code = cc ∧ c.maxLocals = nL ∧ s.vm.findClass own = some m.cls ∧ (∀ w ∈ tblA, w.before args s = true) ∧ meth.locks = false ∧ va_K D vwCl (tysA dA) s ∧ (∀ M, va_D A (wl dA ad lo n M)) ∧ (∀ q, s.heap.size ≤ q → A q) ∧ SF ad A s s.heap
def AW (p : Program) (l : Launch) (e : Env) (R : Room) (s : State) (m : MethodId) (args : Array Value) (below : List Frame) (meth : Method) (c : Code) (D : va_G) (dA : Nat → ClassId) (ad : Nat → Nat) (lo n nL : Nat) (A : Nat → Prop) (Q : State → Prop) (pc : Nat) (ls : List (Nat × Value)) (st : List Value) (M : MM) : Prop :=
  ∀ (H : Heap) (locs : List Loc) (la : Array Slot), va_P D vwCl (wl dA ad lo n M) H → va_S A s.heap H locs → lv_has la nL (cvl ad ls) → W p l e R s m args below meth c H locs 0 0 Q (F0 m pc la (st.map (cv ad)))
theorem cvl_at {ad : Nat → Nat} {ls : List (Nat × Value)} {k i : Nat} {v : Value} (h : ls[k]? = some (i, v)) : (cvl ad ls)[k]? = some (i, cv ad v) := by
  simp [cvl, List.getElem?_map, h]
theorem cvl_st1 {ad : Nat → Nat} {ls ls' : List (Nat × Value)} {i : Nat} {v : Value} (h : (i, v) :: ls.filter (fun q => !(q.1 == i) && !(q.1 + 1 == i && q.2.category == 2)) = ls') : (i, cv ad v) :: (cvl ad ls).filter (fun q => !(q.1 == i) && !(q.1 + 1 == i && q.2.category == 2)) = cvl ad ls' := by
  rw [← h]
  simp only [cvl, List.map_cons, List.filter_map]
  congr 2
  apply List.filter_congr
  intro q _
  simp [cv_cat]
theorem cvl_st2 {ad : Nat → Nat} {ls ls' : List (Nat × Value)} {i : Nat} {v : Value} (h : (i, v) :: ls.filter (fun q => !(q.1 == i) && (!(q.1 == i + 1) && !(q.1 + 1 == i && q.2.category == 2))) = ls') : (i, cv ad v) :: (cvl ad ls).filter (fun q => !(q.1 == i) && (!(q.1 == i + 1) && !(q.1 + 1 == i && q.2.category == 2))) = cvl ad ls' := by
  rw [← h]
  simp only [cvl, List.map_cons, List.filter_map]
  congr 2
  apply List.filter_congr
  intro q _
  simp [cv_cat]
theorem cvl_sub {ad : Nat → Nat} {la : Array Slot} {nL : Nat} {ls ls' : List (Nat × Value)} (h : lv_has la nL (cvl ad ls)) (ks : List Nat) (hl : lv_pick ls ks = ls') : lv_has la nL (cvl ad ls') := by
  refine lv_sub h ks ?_
  rw [← hl]
  simp only [lv_pick, cvl, List.getElem?_map, List.map_filterMap]
theorem map_cat (ad : Nat → Nat) (st : List Value) : ((st.map (cv ad)).map fun v => v.category) = st.map fun v => v.category := by
  rw [List.map_map]
  apply List.map_congr_left
  intro v _
  exact cv_cat ad v
def lcp (x y : Int64) : Int32 := lg_cmp x y
section AWR
variable {p : Program} {l : Launch} {e : Env} {R : Room} {s : State} {m : MethodId} {args : Array Value} {below : List Frame} {meth : Method} {c : Code} {D : va_G} {dA : Nat → ClassId} {ad : Nat → Nat} {lo n nL : Nat} {A : Nat → Prop} {Q : State → Prop} {cc : ByteArray} {own : String}
variable {pc pc' : Nat} {ls ls' : List (Nat × Value)} {rest : List Value} {M : MM}
theorem AW.sub (ks : List Nat) (hl : lv_pick ls ks = ls') (k : AW p l e R s m args below meth c D dA ad lo n nL A Q pc ls' rest M) : AW p l e R s m args below meth c D dA ad lo n nL A Q pc ls rest M := fun H locs la hP hS h => k H locs la hP hS (cvl_sub h ks hl)
theorem AW.iconst {z : Int} {v : Int32} (X : CX p s m args meth c cc nL own D dA ad lo n A) (hv : Int32.ofInt z = v) (hd : decode cc pc = .ok (.iconst z, 1)) (hn : pc + 1 = pc') (k : AW p l e R s m args below meth c D dA ad lo n nL A Q pc' ls (.int v :: rest) M) : AW p l e R s m args below meth c D dA ad lo n nL A Q pc ls rest M := by
  subst hn
  intro H locs la hP hS h
  exact lv_iconst X.1 X.2.1 hd hv (k H locs la hP hS h)
theorem AW.bipush {z : Int} {v : Int32} (X : CX p s m args meth c cc nL own D dA ad lo n A) (hv : (Int8.ofInt z).toInt32 = v) (hd : decode cc pc = .ok (.bipush z, 2)) (hn : pc + 2 = pc') (k : AW p l e R s m args below meth c D dA ad lo n nL A Q pc' ls (.int v :: rest) M) : AW p l e R s m args below meth c D dA ad lo n nL A Q pc ls rest M := by
  subst hn
  intro H locs la hP hS h
  exact lv_bipush X.1 X.2.1 hd hv (k H locs la hP hS h)
theorem AW.sipush {z : Int} {v : Int32} (X : CX p s m args meth c cc nL own D dA ad lo n A) (hv : (Int16.ofInt z).toInt32 = v) (hd : decode cc pc = .ok (.sipush z, 3)) (hn : pc + 3 = pc') (k : AW p l e R s m args below meth c D dA ad lo n nL A Q pc' ls (.int v :: rest) M) : AW p l e R s m args below meth c D dA ad lo n nL A Q pc ls rest M := by
  subst hn
  intro H locs la hP hS h
  exact lv_sipush X.1 X.2.1 hd hv (k H locs la hP hS h)
theorem AW.lconst {z : Fin 2} {v : Int64} (X : CX p s m args meth c cc nL own D dA ad lo n A) (hv : Int64.ofNat (z : Nat) = v) (hd : decode cc pc = .ok (.lconst z, 1)) (hn : pc + 1 = pc') (k : AW p l e R s m args below meth c D dA ad lo n nL A Q pc' ls (.long v :: rest) M) : AW p l e R s m args below meth c D dA ad lo n nL A Q pc ls rest M := by
  subst hn
  intro H locs la hP hS h
  exact lv_lconst X.1 X.2.1 hd hv (k H locs la hP hS h)
theorem AW.ldc {ix : Nat} {v : Int32} (X : CX p s m args meth c cc nL own D dA ad lo n A) (hw : Jvm.Cond.constant own ix v ∈ tblA) (hd : decode cc pc = .ok (.ldc ix, 2)) (hn : pc + 2 = pc') (k : AW p l e R s m args below meth c D dA ad lo n nL A Q pc' ls (.int v :: rest) M) : AW p l e R s m args below meth c D dA ad lo n nL A Q pc ls rest M := by
  subst hn
  intro H locs la hP hS h
  exact lv_ldc X.1 X.2.1 X.2.2.2.1 (X.2.2.2.2.1 _ hw) hd (k H locs la hP hS h)
theorem AW.ldc2 {ix : Nat} {v : Int64} (X : CX p s m args meth c cc nL own D dA ad lo n A) (hw : Jvm.Cond.constantLong own ix v ∈ tblA) (hd : decode cc pc = .ok (.ldc2_w ix, 3)) (hn : pc + 3 = pc') (k : AW p l e R s m args below meth c D dA ad lo n nL A Q pc' ls (.long v :: rest) M) : AW p l e R s m args below meth c D dA ad lo n nL A Q pc ls rest M := by
  subst hn
  intro H locs la hP hS h
  exact lv_ldc2 X.1 X.2.1 X.2.2.2.1 (X.2.2.2.2.1 _ hw) hd (k H locs la hP hS h)
theorem AW.iload_n {f : Fin 4} {i k0 : Nat} {x : Int32} (X : CX p s m args meth c cc nL own D dA ad lo n A) (hi : (f : Nat) = i) (hl : ls[k0]? = some (i, .int x)) (hd : decode cc pc = .ok (.iload_n f, 1)) (hn : pc + 1 = pc') (k : AW p l e R s m args below meth c D dA ad lo n nL A Q pc' ls (.int x :: rest) M) : AW p l e R s m args below meth c D dA ad lo n nL A Q pc ls rest M := by
  subst hn
  intro H locs la hP hS h
  exact lv_iload_n X.1 X.2.1 hd hi (lv_at h k0 (cvl_at hl)) (k H locs la hP hS h)
theorem AW.iload {i k0 : Nat} {x : Int32} (X : CX p s m args meth c cc nL own D dA ad lo n A) (hl : ls[k0]? = some (i, .int x)) (hd : decode cc pc = .ok (.iload i, 2)) (hn : pc + 2 = pc') (k : AW p l e R s m args below meth c D dA ad lo n nL A Q pc' ls (.int x :: rest) M) : AW p l e R s m args below meth c D dA ad lo n nL A Q pc ls rest M := by
  subst hn
  intro H locs la hP hS h
  exact lv_iload X.1 X.2.1 hd (lv_at h k0 (cvl_at hl)) (k H locs la hP hS h)
theorem AW.lload_n {f : Fin 4} {i k0 : Nat} {x : Int64} (X : CX p s m args meth c cc nL own D dA ad lo n A) (hi : (f : Nat) = i) (hl : ls[k0]? = some (i, .long x)) (hd : decode cc pc = .ok (.lload_n f, 1)) (hn : pc + 1 = pc') (k : AW p l e R s m args below meth c D dA ad lo n nL A Q pc' ls (.long x :: rest) M) : AW p l e R s m args below meth c D dA ad lo n nL A Q pc ls rest M := by
  subst hn
  intro H locs la hP hS h
  exact lv_lload_n X.1 X.2.1 hd hi (lv_at h k0 (cvl_at hl)) (k H locs la hP hS h)
theorem AW.lload {i k0 : Nat} {x : Int64} (X : CX p s m args meth c cc nL own D dA ad lo n A) (hl : ls[k0]? = some (i, .long x)) (hd : decode cc pc = .ok (.lload i, 2)) (hn : pc + 2 = pc') (k : AW p l e R s m args below meth c D dA ad lo n nL A Q pc' ls (.long x :: rest) M) : AW p l e R s m args below meth c D dA ad lo n nL A Q pc ls rest M := by
  subst hn
  intro H locs la hP hS h
  exact lv_lload X.1 X.2.1 hd (lv_at h k0 (cvl_at hl)) (k H locs la hP hS h)
theorem AW.aload_n {f : Fin 4} {i k0 : Nat} {x : Nat} (X : CX p s m args meth c cc nL own D dA ad lo n A) (hi : (f : Nat) = i) (hl : ls[k0]? = some (i, .ref x)) (hd : decode cc pc = .ok (.aload_n f, 1)) (hn : pc + 1 = pc') (k : AW p l e R s m args below meth c D dA ad lo n nL A Q pc' ls (.ref x :: rest) M) : AW p l e R s m args below meth c D dA ad lo n nL A Q pc ls rest M := by
  subst hn
  intro H locs la hP hS h
  exact lv_aload_n X.1 X.2.1 hd hi (lv_at h k0 (cvl_at hl)) (k H locs la hP hS h)
theorem AW.aload {i k0 : Nat} {x : Nat} (X : CX p s m args meth c cc nL own D dA ad lo n A) (hl : ls[k0]? = some (i, .ref x)) (hd : decode cc pc = .ok (.aload i, 2)) (hn : pc + 2 = pc') (k : AW p l e R s m args below meth c D dA ad lo n nL A Q pc' ls (.ref x :: rest) M) : AW p l e R s m args below meth c D dA ad lo n nL A Q pc ls rest M := by
  subst hn
  intro H locs la hP hS h
  exact lv_aload X.1 X.2.1 hd (lv_at h k0 (cvl_at hl)) (k H locs la hP hS h)
theorem AW.istore_n {f : Fin 4} {i : Nat} {x : Int32} (X : CX p s m args meth c cc nL own D dA ad lo n A) (hi : (f : Nat) = i) (hlt : i < nL) (hl : (i, Value.int x) :: ls.filter (fun q => !(q.1 == i) && !(q.1 + 1 == i && q.2.category == 2)) = ls') (hd : decode cc pc = .ok (.istore_n f, 1)) (hn : pc + 1 = pc') (k : AW p l e R s m args below meth c D dA ad lo n nL A Q pc' ls' rest M) : AW p l e R s m args below meth c D dA ad lo n nL A Q pc ls (.int x :: rest) M := by
  subst hn
  intro H locs la hP hS h
  exact lv_istore_n X.1 X.2.1 hd hi h hlt (cvl_st1 (v := .int x) hl) (fun la h => (k H locs la hP hS h))
theorem AW.istore {i : Nat} {x : Int32} (X : CX p s m args meth c cc nL own D dA ad lo n A) (hlt : i < nL) (hl : (i, Value.int x) :: ls.filter (fun q => !(q.1 == i) && !(q.1 + 1 == i && q.2.category == 2)) = ls') (hd : decode cc pc = .ok (.istore i, 2)) (hn : pc + 2 = pc') (k : AW p l e R s m args below meth c D dA ad lo n nL A Q pc' ls' rest M) : AW p l e R s m args below meth c D dA ad lo n nL A Q pc ls (.int x :: rest) M := by
  subst hn
  intro H locs la hP hS h
  exact lv_istore X.1 X.2.1 hd h hlt (cvl_st1 (v := .int x) hl) (fun la h => (k H locs la hP hS h))
theorem AW.lstore_n {f : Fin 4} {i : Nat} {x : Int64} (X : CX p s m args meth c cc nL own D dA ad lo n A) (hi : (f : Nat) = i) (hlt : i + 1 < nL) (hl : (i, Value.long x) :: ls.filter (fun q => !(q.1 == i) && (!(q.1 == i + 1) && !(q.1 + 1 == i && q.2.category == 2))) = ls') (hd : decode cc pc = .ok (.lstore_n f, 1)) (hn : pc + 1 = pc') (k : AW p l e R s m args below meth c D dA ad lo n nL A Q pc' ls' rest M) : AW p l e R s m args below meth c D dA ad lo n nL A Q pc ls (.long x :: rest) M := by
  subst hn
  intro H locs la hP hS h
  exact lv_lstore_n X.1 X.2.1 hd hi h hlt (cvl_st2 (v := .long x) hl) (fun la h => (k H locs la hP hS h))
theorem AW.lstore {i : Nat} {x : Int64} (X : CX p s m args meth c cc nL own D dA ad lo n A) (hlt : i + 1 < nL) (hl : (i, Value.long x) :: ls.filter (fun q => !(q.1 == i) && (!(q.1 == i + 1) && !(q.1 + 1 == i && q.2.category == 2))) = ls') (hd : decode cc pc = .ok (.lstore i, 2)) (hn : pc + 2 = pc') (k : AW p l e R s m args below meth c D dA ad lo n nL A Q pc' ls' rest M) : AW p l e R s m args below meth c D dA ad lo n nL A Q pc ls (.long x :: rest) M := by
  subst hn
  intro H locs la hP hS h
  exact lv_lstore X.1 X.2.1 hd h hlt (cvl_st2 (v := .long x) hl) (fun la h => (k H locs la hP hS h))
theorem AW.astore_n {f : Fin 4} {i : Nat} {x : Nat} (X : CX p s m args meth c cc nL own D dA ad lo n A) (hi : (f : Nat) = i) (hlt : i < nL) (hl : (i, Value.ref x) :: ls.filter (fun q => !(q.1 == i) && !(q.1 + 1 == i && q.2.category == 2)) = ls') (hd : decode cc pc = .ok (.astore_n f, 1)) (hn : pc + 1 = pc') (k : AW p l e R s m args below meth c D dA ad lo n nL A Q pc' ls' rest M) : AW p l e R s m args below meth c D dA ad lo n nL A Q pc ls (.ref x :: rest) M := by
  subst hn
  intro H locs la hP hS h
  exact lv_astore_n X.1 X.2.1 hd hi h hlt (cvl_st1 (v := .ref x) hl) (fun la h => (k H locs la hP hS h))
theorem AW.astore {i : Nat} {x : Nat} (X : CX p s m args meth c cc nL own D dA ad lo n A) (hlt : i < nL) (hl : (i, Value.ref x) :: ls.filter (fun q => !(q.1 == i) && !(q.1 + 1 == i && q.2.category == 2)) = ls') (hd : decode cc pc = .ok (.astore i, 2)) (hn : pc + 2 = pc') (k : AW p l e R s m args below meth c D dA ad lo n nL A Q pc' ls' rest M) : AW p l e R s m args below meth c D dA ad lo n nL A Q pc ls (.ref x :: rest) M := by
  subst hn
  intro H locs la hP hS h
  exact lv_astore X.1 X.2.1 hd h hlt (cvl_st1 (v := .ref x) hl) (fun la h => (k H locs la hP hS h))
theorem AW.iinc {i k0 : Nat} {z : Int} {x y v : Int32} (X : CX p s m args meth c cc nL own D dA ad lo n A) (hk : ls[k0]? = some (i, .int x)) (hz : Int32.ofInt z = y) (hv : x + y = v) (hlt : i < nL) (hl : (i, Value.int v) :: ls.filter (fun q => !(q.1 == i) && !(q.1 + 1 == i && q.2.category == 2)) = ls') (hd : decode cc pc = .ok (.iinc i z, 3)) (hn : pc + 3 = pc') (k : AW p l e R s m args below meth c D dA ad lo n nL A Q pc' ls' rest M) : AW p l e R s m args below meth c D dA ad lo n nL A Q pc ls rest M := by
  subst hn
  intro H locs la hP hS h
  exact lv_iinc X.1 X.2.1 hd h (cvl_at hk) (by rw [hz]; exact hv) hlt (cvl_st1 (v := .int v) hl) (fun la h => (k H locs la hP hS h))
theorem AW.iadd {x y : Int32} (X : CX p s m args meth c cc nL own D dA ad lo n A)  (hd : decode cc pc = .ok (.iadd, 1)) (hn : pc + 1 = pc') (k : AW p l e R s m args below meth c D dA ad lo n nL A Q pc' ls (.int (x + y) :: rest) M) : AW p l e R s m args below meth c D dA ad lo n nL A Q pc ls (.int y :: .int x :: rest) M := by
  subst hn
  intro H locs la hP hS h
  exact lv_iadd X.1 X.2.1 hd (k H locs la hP hS h)
theorem AW.isub {x y : Int32} (X : CX p s m args meth c cc nL own D dA ad lo n A)  (hd : decode cc pc = .ok (.isub, 1)) (hn : pc + 1 = pc') (k : AW p l e R s m args below meth c D dA ad lo n nL A Q pc' ls (.int (x - y) :: rest) M) : AW p l e R s m args below meth c D dA ad lo n nL A Q pc ls (.int y :: .int x :: rest) M := by
  subst hn
  intro H locs la hP hS h
  exact lv_isub X.1 X.2.1 hd (k H locs la hP hS h)
theorem AW.imul {x y : Int32} (X : CX p s m args meth c cc nL own D dA ad lo n A)  (hd : decode cc pc = .ok (.imul, 1)) (hn : pc + 1 = pc') (k : AW p l e R s m args below meth c D dA ad lo n nL A Q pc' ls (.int (x * y) :: rest) M) : AW p l e R s m args below meth c D dA ad lo n nL A Q pc ls (.int y :: .int x :: rest) M := by
  subst hn
  intro H locs la hP hS h
  exact lv_imul X.1 X.2.1 hd (k H locs la hP hS h)
theorem AW.iand {x y : Int32} (X : CX p s m args meth c cc nL own D dA ad lo n A)  (hd : decode cc pc = .ok (.iand, 1)) (hn : pc + 1 = pc') (k : AW p l e R s m args below meth c D dA ad lo n nL A Q pc' ls (.int (x &&& y) :: rest) M) : AW p l e R s m args below meth c D dA ad lo n nL A Q pc ls (.int y :: .int x :: rest) M := by
  subst hn
  intro H locs la hP hS h
  exact lv_iand X.1 X.2.1 hd (k H locs la hP hS h)
theorem AW.idiv {x y : Int32} (X : CX p s m args meth c cc nL own D dA ad lo n A) (hne : ¬ y = 0) (hd : decode cc pc = .ok (.idiv, 1)) (hn : pc + 1 = pc') (k : AW p l e R s m args below meth c D dA ad lo n nL A Q pc' ls (.int (x / y) :: rest) M) : AW p l e R s m args below meth c D dA ad lo n nL A Q pc ls (.int y :: .int x :: rest) M := by
  subst hn
  intro H locs la hP hS h
  exact lv_idiv X.1 X.2.1 hd hne (k H locs la hP hS h)
theorem AW.irem {x y : Int32} (X : CX p s m args meth c cc nL own D dA ad lo n A) (hne : ¬ y = 0) (hd : decode cc pc = .ok (.irem, 1)) (hn : pc + 1 = pc') (k : AW p l e R s m args below meth c D dA ad lo n nL A Q pc' ls (.int (x - x / y * y) :: rest) M) : AW p l e R s m args below meth c D dA ad lo n nL A Q pc ls (.int y :: .int x :: rest) M := by
  subst hn
  intro H locs la hP hS h
  exact lv_irem X.1 X.2.1 hd hne (k H locs la hP hS h)
theorem AW.ladd {x y : Int64} (X : CX p s m args meth c cc nL own D dA ad lo n A)  (hd : decode cc pc = .ok (.ladd, 1)) (hn : pc + 1 = pc') (k : AW p l e R s m args below meth c D dA ad lo n nL A Q pc' ls (.long (x + y) :: rest) M) : AW p l e R s m args below meth c D dA ad lo n nL A Q pc ls (.long y :: .long x :: rest) M := by
  subst hn
  intro H locs la hP hS h
  exact lv_ladd X.1 X.2.1 hd (k H locs la hP hS h)
theorem AW.lsub {x y : Int64} (X : CX p s m args meth c cc nL own D dA ad lo n A)  (hd : decode cc pc = .ok (.lsub, 1)) (hn : pc + 1 = pc') (k : AW p l e R s m args below meth c D dA ad lo n nL A Q pc' ls (.long (x - y) :: rest) M) : AW p l e R s m args below meth c D dA ad lo n nL A Q pc ls (.long y :: .long x :: rest) M := by
  subst hn
  intro H locs la hP hS h
  exact lv_lsub X.1 X.2.1 hd (k H locs la hP hS h)
theorem AW.lmul {x y : Int64} (X : CX p s m args meth c cc nL own D dA ad lo n A)  (hd : decode cc pc = .ok (.lmul, 1)) (hn : pc + 1 = pc') (k : AW p l e R s m args below meth c D dA ad lo n nL A Q pc' ls (.long (x * y) :: rest) M) : AW p l e R s m args below meth c D dA ad lo n nL A Q pc ls (.long y :: .long x :: rest) M := by
  subst hn
  intro H locs la hP hS h
  exact lv_lmul X.1 X.2.1 hd (k H locs la hP hS h)
theorem AW.ldiv {x y : Int64} (X : CX p s m args meth c cc nL own D dA ad lo n A) (hne : ¬ y = 0) (hd : decode cc pc = .ok (.ldiv, 1)) (hn : pc + 1 = pc') (k : AW p l e R s m args below meth c D dA ad lo n nL A Q pc' ls (.long (x / y) :: rest) M) : AW p l e R s m args below meth c D dA ad lo n nL A Q pc ls (.long y :: .long x :: rest) M := by
  subst hn
  intro H locs la hP hS h
  exact lv_ldiv X.1 X.2.1 hd hne (k H locs la hP hS h)
theorem AW.lcmp {x y : Int64} (X : CX p s m args meth c cc nL own D dA ad lo n A)  (hd : decode cc pc = .ok (.lcmp, 1)) (hn : pc + 1 = pc') (k : AW p l e R s m args below meth c D dA ad lo n nL A Q pc' ls (.int (lcp x y) :: rest) M) : AW p l e R s m args below meth c D dA ad lo n nL A Q pc ls (.long y :: .long x :: rest) M := by
  subst hn
  intro H locs la hP hS h
  exact W.lcmp X.1 X.2.1 hd (k H locs la hP hS h)
theorem AW.i2l {x : Int32} (X : CX p s m args meth c cc nL own D dA ad lo n A)  (hd : decode cc pc = .ok (.i2l, 1)) (hn : pc + 1 = pc') (k : AW p l e R s m args below meth c D dA ad lo n nL A Q pc' ls (.long x.toInt64 :: rest) M) : AW p l e R s m args below meth c D dA ad lo n nL A Q pc ls (.int x :: rest) M := by
  subst hn
  intro H locs la hP hS h
  exact lv_i2l X.1 X.2.1 hd rfl (k H locs la hP hS h)
theorem AW.l2i {x : Int64} (X : CX p s m args meth c cc nL own D dA ad lo n A)  (hd : decode cc pc = .ok (.l2i, 1)) (hn : pc + 1 = pc') (k : AW p l e R s m args below meth c D dA ad lo n nL A Q pc' ls (.int x.toInt32 :: rest) M) : AW p l e R s m args below meth c D dA ad lo n nL A Q pc ls (.long x :: rest) M := by
  subst hn
  intro H locs la hP hS h
  exact lv_l2i X.1 X.2.1 hd rfl (k H locs la hP hS h)
theorem AW.pop {v : Value} (X : CX p s m args meth c cc nL own D dA ad lo n A) (hc : v.category = 1) (hd : decode cc pc = .ok (.pop, 1)) (hn : pc + 1 = pc') (k : AW p l e R s m args below meth c D dA ad lo n nL A Q pc' ls rest M) : AW p l e R s m args below meth c D dA ad lo n nL A Q pc ls (v :: rest) M := by
  subst hn
  intro H locs la hP hS h
  exact lv_pop X.1 X.2.1 hd ((cv_cat ad v).trans hc) (k H locs la hP hS h)
theorem AW.dup {v : Value} (X : CX p s m args meth c cc nL own D dA ad lo n A) (hc : v.category = 1) (hd : decode cc pc = .ok (.dup, 1)) (hn : pc + 1 = pc') (k : AW p l e R s m args below meth c D dA ad lo n nL A Q pc' ls (v :: v :: rest) M) : AW p l e R s m args below meth c D dA ad lo n nL A Q pc ls (v :: rest) M := by
  subst hn
  intro H locs la hP hS h
  exact lv_dup X.1 X.2.1 hd ((cv_cat ad v).trans hc) (k H locs la hP hS h)
theorem AW.dup_x1 {v w : Value} (X : CX p s m args meth c cc nL own D dA ad lo n A) (hc : v.category = 1) (hc2 : w.category = 1) (hd : decode cc pc = .ok (.dup_x1, 1)) (hn : pc + 1 = pc') (k : AW p l e R s m args below meth c D dA ad lo n nL A Q pc' ls (v :: w :: v :: rest) M) : AW p l e R s m args below meth c D dA ad lo n nL A Q pc ls (v :: w :: rest) M := by
  subst hn
  intro H locs la hP hS h
  exact lv_dup_x1 X.1 X.2.1 hd ((cv_cat ad v).trans hc) ((cv_cat ad w).trans hc2) (k H locs la hP hS h)
theorem AW.dup2 {v w : Value} (X : CX p s m args meth c cc nL own D dA ad lo n A) (hc : v.category = 1) (hc2 : w.category = 1) (hd : decode cc pc = .ok (.dup2, 1)) (hn : pc + 1 = pc') (k : AW p l e R s m args below meth c D dA ad lo n nL A Q pc' ls (v :: w :: v :: w :: rest) M) : AW p l e R s m args below meth c D dA ad lo n nL A Q pc ls (v :: w :: rest) M := by
  subst hn
  intro H locs la hP hS h
  exact lv_dup2_11 X.1 X.2.1 hd ((cv_cat ad v).trans hc) ((cv_cat ad w).trans hc2) (k H locs la hP hS h)
theorem AW.goto {off : Int} (X : CX p s m args meth c cc nL own D dA ad lo n A) (hd : decode cc pc = .ok (.goto off, 3)) (ht : (pc : Int) + off = (pc' : Int)) (k : AW p l e R s m args below meth c D dA ad lo n nL A Q pc' ls rest M) : AW p l e R s m args below meth c D dA ad lo n nL A Q pc ls rest M := fun H locs la hP hS h => lv_goto X.1 X.2.1 hd ht (k H locs la hP hS h)
theorem AW.if_eq {x : Int32} {off : Int} {tgt : Nat} (X : CX p s m args meth c cc nL own D dA ad lo n A) (hd : decode cc pc = .ok (.ifCond .eq off, 3)) (ht : (pc : Int) + off = (tgt : Int)) (hn : pc + 3 = pc') (kt : x = 0 → AW p l e R s m args below meth c D dA ad lo n nL A Q tgt ls rest M) (kf : ¬ x = 0 → AW p l e R s m args below meth c D dA ad lo n nL A Q pc' ls rest M) : AW p l e R s m args below meth c D dA ad lo n nL A Q pc ls (.int x :: rest) M := by
  subst hn
  exact fun H locs la hP hS h => lv_if_eq X.1 X.2.1 hd ht (fun q => kt q H locs la hP hS h) (fun q => kf q H locs la hP hS h)
theorem AW.icmp_eq {x y : Int32} {off : Int} {tgt : Nat} (X : CX p s m args meth c cc nL own D dA ad lo n A) (hd : decode cc pc = .ok (.if_icmp .eq off, 3)) (ht : (pc : Int) + off = (tgt : Int)) (hn : pc + 3 = pc') (kt : x = y → AW p l e R s m args below meth c D dA ad lo n nL A Q tgt ls rest M) (kf : ¬ x = y → AW p l e R s m args below meth c D dA ad lo n nL A Q pc' ls rest M) : AW p l e R s m args below meth c D dA ad lo n nL A Q pc ls (.int y :: .int x :: rest) M := by
  subst hn
  exact fun H locs la hP hS h => lv_icmp_eq X.1 X.2.1 hd ht (fun q => kt q H locs la hP hS h) (fun q => kf q H locs la hP hS h)
theorem AW.if_ne {x : Int32} {off : Int} {tgt : Nat} (X : CX p s m args meth c cc nL own D dA ad lo n A) (hd : decode cc pc = .ok (.ifCond .ne off, 3)) (ht : (pc : Int) + off = (tgt : Int)) (hn : pc + 3 = pc') (kt : ¬ x = 0 → AW p l e R s m args below meth c D dA ad lo n nL A Q tgt ls rest M) (kf : x = 0 → AW p l e R s m args below meth c D dA ad lo n nL A Q pc' ls rest M) : AW p l e R s m args below meth c D dA ad lo n nL A Q pc ls (.int x :: rest) M := by
  subst hn
  exact fun H locs la hP hS h => lv_if_ne X.1 X.2.1 hd ht (fun q => kt q H locs la hP hS h) (fun q => kf q H locs la hP hS h)
theorem AW.icmp_ne {x y : Int32} {off : Int} {tgt : Nat} (X : CX p s m args meth c cc nL own D dA ad lo n A) (hd : decode cc pc = .ok (.if_icmp .ne off, 3)) (ht : (pc : Int) + off = (tgt : Int)) (hn : pc + 3 = pc') (kt : ¬ x = y → AW p l e R s m args below meth c D dA ad lo n nL A Q tgt ls rest M) (kf : x = y → AW p l e R s m args below meth c D dA ad lo n nL A Q pc' ls rest M) : AW p l e R s m args below meth c D dA ad lo n nL A Q pc ls (.int y :: .int x :: rest) M := by
  subst hn
  exact fun H locs la hP hS h => lv_icmp_ne X.1 X.2.1 hd ht (fun q => kt q H locs la hP hS h) (fun q => kf q H locs la hP hS h)
theorem AW.if_lt {x : Int32} {off : Int} {tgt : Nat} (X : CX p s m args meth c cc nL own D dA ad lo n A) (hd : decode cc pc = .ok (.ifCond .lt off, 3)) (ht : (pc : Int) + off = (tgt : Int)) (hn : pc + 3 = pc') (kt : x < 0 → AW p l e R s m args below meth c D dA ad lo n nL A Q tgt ls rest M) (kf : ¬ x < 0 → AW p l e R s m args below meth c D dA ad lo n nL A Q pc' ls rest M) : AW p l e R s m args below meth c D dA ad lo n nL A Q pc ls (.int x :: rest) M := by
  subst hn
  exact fun H locs la hP hS h => lv_if_lt X.1 X.2.1 hd ht (fun q => kt q H locs la hP hS h) (fun q => kf q H locs la hP hS h)
theorem AW.icmp_lt {x y : Int32} {off : Int} {tgt : Nat} (X : CX p s m args meth c cc nL own D dA ad lo n A) (hd : decode cc pc = .ok (.if_icmp .lt off, 3)) (ht : (pc : Int) + off = (tgt : Int)) (hn : pc + 3 = pc') (kt : x < y → AW p l e R s m args below meth c D dA ad lo n nL A Q tgt ls rest M) (kf : ¬ x < y → AW p l e R s m args below meth c D dA ad lo n nL A Q pc' ls rest M) : AW p l e R s m args below meth c D dA ad lo n nL A Q pc ls (.int y :: .int x :: rest) M := by
  subst hn
  exact fun H locs la hP hS h => lv_icmp_lt X.1 X.2.1 hd ht (fun q => kt q H locs la hP hS h) (fun q => kf q H locs la hP hS h)
theorem AW.if_ge {x : Int32} {off : Int} {tgt : Nat} (X : CX p s m args meth c cc nL own D dA ad lo n A) (hd : decode cc pc = .ok (.ifCond .ge off, 3)) (ht : (pc : Int) + off = (tgt : Int)) (hn : pc + 3 = pc') (kt : 0 ≤ x → AW p l e R s m args below meth c D dA ad lo n nL A Q tgt ls rest M) (kf : ¬ 0 ≤ x → AW p l e R s m args below meth c D dA ad lo n nL A Q pc' ls rest M) : AW p l e R s m args below meth c D dA ad lo n nL A Q pc ls (.int x :: rest) M := by
  subst hn
  exact fun H locs la hP hS h => lv_if_ge X.1 X.2.1 hd ht (fun q => kt q H locs la hP hS h) (fun q => kf q H locs la hP hS h)
theorem AW.icmp_ge {x y : Int32} {off : Int} {tgt : Nat} (X : CX p s m args meth c cc nL own D dA ad lo n A) (hd : decode cc pc = .ok (.if_icmp .ge off, 3)) (ht : (pc : Int) + off = (tgt : Int)) (hn : pc + 3 = pc') (kt : y ≤ x → AW p l e R s m args below meth c D dA ad lo n nL A Q tgt ls rest M) (kf : ¬ y ≤ x → AW p l e R s m args below meth c D dA ad lo n nL A Q pc' ls rest M) : AW p l e R s m args below meth c D dA ad lo n nL A Q pc ls (.int y :: .int x :: rest) M := by
  subst hn
  exact fun H locs la hP hS h => lv_icmp_ge X.1 X.2.1 hd ht (fun q => kt q H locs la hP hS h) (fun q => kf q H locs la hP hS h)
theorem AW.if_gt {x : Int32} {off : Int} {tgt : Nat} (X : CX p s m args meth c cc nL own D dA ad lo n A) (hd : decode cc pc = .ok (.ifCond .gt off, 3)) (ht : (pc : Int) + off = (tgt : Int)) (hn : pc + 3 = pc') (kt : 0 < x → AW p l e R s m args below meth c D dA ad lo n nL A Q tgt ls rest M) (kf : ¬ 0 < x → AW p l e R s m args below meth c D dA ad lo n nL A Q pc' ls rest M) : AW p l e R s m args below meth c D dA ad lo n nL A Q pc ls (.int x :: rest) M := by
  subst hn
  exact fun H locs la hP hS h => lv_if_gt X.1 X.2.1 hd ht (fun q => kt q H locs la hP hS h) (fun q => kf q H locs la hP hS h)
theorem AW.icmp_gt {x y : Int32} {off : Int} {tgt : Nat} (X : CX p s m args meth c cc nL own D dA ad lo n A) (hd : decode cc pc = .ok (.if_icmp .gt off, 3)) (ht : (pc : Int) + off = (tgt : Int)) (hn : pc + 3 = pc') (kt : y < x → AW p l e R s m args below meth c D dA ad lo n nL A Q tgt ls rest M) (kf : ¬ y < x → AW p l e R s m args below meth c D dA ad lo n nL A Q pc' ls rest M) : AW p l e R s m args below meth c D dA ad lo n nL A Q pc ls (.int y :: .int x :: rest) M := by
  subst hn
  exact fun H locs la hP hS h => lv_icmp_gt X.1 X.2.1 hd ht (fun q => kt q H locs la hP hS h) (fun q => kf q H locs la hP hS h)
theorem AW.if_le {x : Int32} {off : Int} {tgt : Nat} (X : CX p s m args meth c cc nL own D dA ad lo n A) (hd : decode cc pc = .ok (.ifCond .le off, 3)) (ht : (pc : Int) + off = (tgt : Int)) (hn : pc + 3 = pc') (kt : x ≤ 0 → AW p l e R s m args below meth c D dA ad lo n nL A Q tgt ls rest M) (kf : ¬ x ≤ 0 → AW p l e R s m args below meth c D dA ad lo n nL A Q pc' ls rest M) : AW p l e R s m args below meth c D dA ad lo n nL A Q pc ls (.int x :: rest) M := by
  subst hn
  exact fun H locs la hP hS h => lv_if_le X.1 X.2.1 hd ht (fun q => kt q H locs la hP hS h) (fun q => kf q H locs la hP hS h)
theorem AW.icmp_le {x y : Int32} {off : Int} {tgt : Nat} (X : CX p s m args meth c cc nL own D dA ad lo n A) (hd : decode cc pc = .ok (.if_icmp .le off, 3)) (ht : (pc : Int) + off = (tgt : Int)) (hn : pc + 3 = pc') (kt : x ≤ y → AW p l e R s m args below meth c D dA ad lo n nL A Q tgt ls rest M) (kf : ¬ x ≤ y → AW p l e R s m args below meth c D dA ad lo n nL A Q pc' ls rest M) : AW p l e R s m args below meth c D dA ad lo n nL A Q pc ls (.int y :: .int x :: rest) M := by
  subst hn
  exact fun H locs la hP hS h => lv_icmp_le X.1 X.2.1 hd ht (fun q => kt q H locs la hP hS h) (fun q => kf q H locs la hP hS h)
theorem AW.lookup {dflt : Int} {ps : Array (Int × Int)} {len : Nat} {x : Int32} {off : Int} (X : CX p s m args meth c cc nL own D dA ad lo n A) (hd : decode cc pc = .ok (.lookupswitch dflt ps, len)) (hp : (ps.toList.zip (ps.toList.drop 1)).all (fun (a, next) => a.1 < next.1) = true) (ho : Op.lookupswitch.offset ps.toList dflt x.toInt = off) (ht : (pc : Int) + off = (pc' : Int)) (k : AW p l e R s m args below meth c D dA ad lo n nL A Q pc' ls rest M) : AW p l e R s m args below meth c D dA ad lo n nL A Q pc ls (.int x :: rest) M := fun H locs la hP hS h => lv_lookup X.1 X.2.1 hd hp ho ht (k H locs la hP hS h)
theorem AW.tout {dflt a b : Int} {offs : Array Int} {len : Nat} {x : Int32} (X : CX p s m args meth c cc nL own D dA ad lo n A) (hd : decode cc pc = .ok (.tableswitch dflt a b offs, len)) (ho : x.toInt < a ∨ b < x.toInt) (ht : (pc : Int) + dflt = (pc' : Int)) (k : AW p l e R s m args below meth c D dA ad lo n nL A Q pc' ls rest M) : AW p l e R s m args below meth c D dA ad lo n nL A Q pc ls (.int x :: rest) M := fun H locs la hP hS h => lv_tableOut X.1 X.2.1 hd ho ht (k H locs la hP hS h)
theorem AW.tin {dflt a b off : Int} {offs : Array Int} {len : Nat} {x : Int32} (X : CX p s m args meth c cc nL own D dA ad lo n A) (hd : decode cc pc = .ok (.tableswitch dflt a b offs, len)) (h1 : ¬ x.toInt < a) (h2 : ¬ b < x.toInt) (ho : offs[(x.toInt - a).toNat]? = some off) (ht : (pc : Int) + off = (pc' : Int)) (k : AW p l e R s m args below meth c D dA ad lo n nL A Q pc' ls rest M) : AW p l e R s m args below meth c D dA ad lo n nL A Q pc ls (.int x :: rest) M := fun H locs la hP hS h => lv_tableIn X.1 X.2.1 hd h1 h2 ho ht (k H locs la hP hS h)
theorem AW.getf {a ix w ci N : Nat} {C : String} {T : u_T} {fs : List Value} {v : Value} (X : CX p s m args meth c cc nL own D dA ad lo n A) (k0 : Nat) (h1 : lo ≤ a) (h2 : a + (w + 1) ≤ lo + n) (he : cellF dA ad a (M a) = .inr (ci, fs)) (hc : vwCl[ci]? = some (C, T, N)) (hin : ∀ w ∈ u_ws C T N, w ∈ tblA) (hk : k0 < N) (hT : (T k0).1 = C) (hl : Cond.fieldLink own ix C (T k0).2.1 (T k0).2.2.1 ∈ tblA) (hv : fs[k0]? = some (cv ad v)) (hd : decode cc pc = .ok (.getfield ix, 3)) (hn : pc + 3 = pc') (k : AW p l e R s m args below meth c D dA ad lo n nL A Q pc' ls (v :: rest) M) : AW p l e R s m args below meth c D dA ad lo n nL A Q pc ls (.ref a :: rest) M := by
  subst hn
  intro H locs la hP hS h
  exact va_get X.1 X.2.1 X.2.2.2.2.1 hin X.2.2.2.1 X.2.2.2.2.2.2.1 hP (a - lo) (wl_at h1 h2 he) hc k0 hk (X.2.2.2.2.1 _ hl) (fun z hz => by rw [← hT]; exact hz) hv hd (k H locs la hP hS h)
theorem AW.putf {a ix w ci N : Nat} {C : String} {T : u_T} {fs : List Value} {v : Value} {ty : FieldType} {r : Nat → Int32} (X : CX p s m args meth c cc nL own D dA ad lo n A) (k0 : Nat) (h1 : lo ≤ a) (h2 : a + (w + 1) ≤ lo + n) (he : cellF dA ad a (M a) = .inr (ci, fs)) (he2 : cellF dA ad a r = .inr (ci, fs.set k0 v)) (hc : vwCl[ci]? = some (C, T, N)) (hin : ∀ w ∈ u_ws C T N, w ∈ tblA) (ty0 : Nat → FieldType) (hty : ∀ k, k < N → parseFieldDescriptor (T k).2.2.1 = some (ty0 k)) (hnm : ∀ a, a < N → ∀ b, b < N → a ≠ b → (T a).2.1 ≠ (T b).2.1) (hk : k0 < N) (hT : (T k0).1 = C) (hl : Cond.fieldLink own ix C (T k0).2.1 (T k0).2.2.1 ∈ tblA) (hfin : (T k0).2.2.2 = false) (hpd : parseFieldDescriptor (T k0).2.2.1 = some ty) (hna : narrow ty v = v) (hfit : fits ty v = true) (hlen : k0 < fs.length) (hcv : cv ad v = v) (hd : decode cc pc = .ok (.putfield ix, 3)) (hn : pc + 3 = pc') (k : AW p l e R s m args below meth c D dA ad lo n nL A Q pc' ls rest (msf M a r)) : AW p l e R s m args below meth c D dA ad lo n nL A Q pc ls (v :: .ref a :: rest) M := by
  subst hn
  intro H locs la hP hS h
  show W _ _ _ _ _ _ _ _ _ _ _ _ _ _ _ (F0 m pc la (cv ad v :: .ref (ad a) :: rest.map (cv ad)))
  rw [hcv]
  refine va_put X.1 X.2.1 X.2.2.2.2.1 hin ty0 hty hnm X.2.2.2.1 X.2.2.2.2.2.2.1 hP (X.2.2.2.2.2.2.2.1 M) hS (a - lo) (wl_at h1 h2 he) hc k0 hk (X.2.2.2.2.1 _ hl) (fun z hz => by rw [← hT]; exact hz) hfin hpd hna hfit hlen hd (fun H1 locs1 hP1 hD1 hS1 => ?_)
  rw [wl_set h1 h2 he2] at hP1
  exact k H1 locs1 la hP1 hS1 h
theorem AW.iald {a L : Nat} {i : Int32} (X : CX p s m args meth c cc nL own D dA ad lo n A) (t : tIA lo n L a) (hi : vp_in i L) (hd : decode cc pc = .ok (.iaload, 1)) (hn : pc + 1 = pc') (k : AW p l e R s m args below meth c D dA ad lo n nL A Q pc' ls (.int (M a i.toNatClampNeg) :: rest) M) : AW p l e R s m args below meth c D dA ad lo n nL A Q pc ls (.int i :: .ref a :: rest) M := by
  subst hn
  intro H locs la hP hS h
  exact va_iald X.1 X.2.1 X.2.2.2.2.2.2.1 hP (a - lo) 0 (wl_at (w := 0) t.1 t.2.1 (cI t dA ad (M a))) rfl hi hd (k H locs la hP hS h)
theorem AW.iast {a L : Nat} {i x : Int32} (X : CX p s m args meth c cc nL own D dA ad lo n A) (t : tIA lo n L a) (hi : vp_in i L) (hd : decode cc pc = .ok (.iastore, 1)) (hn : pc + 1 = pc') (k : AW p l e R s m args below meth c D dA ad lo n nL A Q pc' ls rest (ms M a i.toNatClampNeg x)) : AW p l e R s m args below meth c D dA ad lo n nL A Q pc ls (.int x :: .int i :: .ref a :: rest) M := by
  subst hn
  intro H locs la hP hS h
  refine va_iast X.1 X.2.1 X.2.2.2.2.2.2.1 hP (X.2.2.2.2.2.2.2.1 M) hS (a - lo) 0 (wl_at (w := 0) t.1 t.2.1 (cI t dA ad (M a))) rfl hi hd (fun H1 locs1 hP1 hD1 hS1 => ?_)
  rw [wl_set (w := 0) t.1 t.2.1 (cI t dA ad _)] at hP1
  exact k H1 locs1 la hP1 hS1 h
theorem AW.zald {a L : Nat} {i : Int32} (X : CX p s m args meth c cc nL own D dA ad lo n A) (t : tZA lo n L a) (hi : vp_in i L) (hd : decode cc pc = .ok (.baload, 1)) (hn : pc + 1 = pc') (k : AW p l e R s m args below meth c D dA ad lo n nL A Q pc' ls (.int (bz (nz (M a i.toNatClampNeg))) :: rest) M) : AW p l e R s m args below meth c D dA ad lo n nL A Q pc ls (.int i :: .ref a :: rest) M := by
  subst hn
  intro H locs la hP hS h
  exact va_zald X.1 X.2.1 X.2.2.2.2.2.2.1 hP (a - lo) 1 (wl_at (w := 0) t.1 t.2.1 (cZ t dA ad (M a))) rfl hi hd (k H locs la hP hS h)
theorem bzr_upd (r : Nat → Int32) (k : Nat) (b : Bool) : bzr (upd r k (bz b)) = upd (bzr r) k (bz b) := by
  funext j
  by_cases h : j = k
  · subst h; cases b <;> simp [bzr, upd] <;> decide
  · simp [bzr, upd, h]
theorem nar_bz (b : Bool) : vp_nar .boolean (bz b) = bz b := by cases b <;> rfl
theorem AW.zast {a L : Nat} {i : Int32} {b : Bool} (X : CX p s m args meth c cc nL own D dA ad lo n A) (t : tZA lo n L a) (hi : vp_in i L) (hd : decode cc pc = .ok (.bastore, 1)) (hn : pc + 1 = pc') (k : AW p l e R s m args below meth c D dA ad lo n nL A Q pc' ls rest (ms M a i.toNatClampNeg (bz b))) : AW p l e R s m args below meth c D dA ad lo n nL A Q pc ls (.int (bz b) :: .int i :: .ref a :: rest) M := by
  subst hn
  intro H locs la hP hS h
  refine va_zast X.1 X.2.1 X.2.2.2.2.2.2.1 hP (X.2.2.2.2.2.2.2.1 M) hS (a - lo) 1 (wl_at (w := 0) t.1 t.2.1 (cZ t dA ad (M a))) rfl hi hd (fun H1 locs1 hP1 hD1 hS1 => ?_)
  rw [nar_bz, ← bzr_upd, wl_set (w := 0) t.1 t.2.1 (cZ t dA ad _)] at hP1
  exact k H1 locs1 la hP1 hS1 h
theorem AW.aldC {a : Nat} {i : Int32} (X : CX p s m args meth c cc nL own D dA ad lo n A) (t : tCA lo n a) (hi : vp_in i 6) (hd : decode cc pc = .ok (.aaload, 1)) (hn : pc + 1 = pc') (k : AW p l e R s m args below meth c D dA ad lo n nL A Q pc' ls (.ref (a + 5 + 9 * i.toNatClampNeg) :: rest) M) : AW p l e R s m args below meth c D dA ad lo n nL A Q pc ls (.int i :: .ref a :: rest) M := by
  subst hn
  intro H locs la hP hS h
  exact va_aldq X.1 X.2.1 X.2.2.2.2.2.2.1 hP (a - lo) 2 (wl_at (w := 58) t.1 t.2.1 (cCA t dA ad (M a))) rfl hi hd (k H locs la hP hS h)
theorem AW.aldS {a L : Nat} {i : Int32} (X : CX p s m args meth c cc nL own D dA ad lo n A) (t : tSA lo n L a) (hi : vp_in i L) (hd : decode cc pc = .ok (.aaload, 1)) (hn : pc + 1 = pc') (k : AW p l e R s m args below meth c D dA ad lo n nL A Q pc' ls (.ref (if a = 652 then 260 + 65 * i.toNatClampNeg else 130 + 65 * i.toNatClampNeg) :: rest) M) : AW p l e R s m args below meth c D dA ad lo n nL A Q pc ls (.int i :: .ref a :: rest) M := by
  subst hn
  intro H locs la hP hS h
  exact va_aldq X.1 X.2.1 X.2.2.2.2.2.2.1 hP (a - lo) 3 (wl_at (w := 0) t.1 t.2.1 (cSA t dA ad (M a))) rfl hi hd (k H locs la hP hS h)
theorem AW.alen {a L : Nat} {v : Int32} (X : CX p s m args meth c cc nL own D dA ad lo n A) (t : tIA lo n L a) (hv : Int32.ofNat L = v) (hd : decode cc pc = .ok (.arraylength, 1)) (hn : pc + 1 = pc') (k : AW p l e R s m args below meth c D dA ad lo n nL A Q pc' ls (.int v :: rest) M) : AW p l e R s m args below meth c D dA ad lo n nL A Q pc ls (.ref a :: rest) M := by
  subst hn
  intro H locs la hP hS h
  exact va_alen X.1 X.2.1 X.2.2.2.2.2.2.1 hP (a - lo) 0 (wl_at (w := 0) t.1 t.2.1 (cI t dA ad (M a))) rfl hv hd (k H locs la hP hS h)
theorem AW.gsL {ix : Nat} (X : CX p s m args meth c cc nL own D dA ad lo n A) (hl : Cond.fieldLinkNest own ix "ShakerSweep" "SETTING_LEAST" "[I" "ShakerSweep" ∈ tblA) (hd : decode cc pc = .ok (.getstatic ix, 3)) (hn : pc + 3 = pc') (k : AW p l e R s m args below meth c D dA ad lo n nL A Q pc' ls (.ref 1000 :: rest) M) : AW p l e R s m args below meth c D dA ad lo n nL A Q pc ls rest M := by
  subst hn
  intro H locs la hP hS h
  exact va_getsN X.1 X.2.1 X.2.2.2.2.2.2.2.2.2.1.1 hS X.2.2.2.1 (X.2.2.2.2.1 _ hl) (fun _ h => h) hd (k H locs la hP hS h)
theorem AW.gsLi {i : Int32} (X : CX p s m args meth c cc nL own D dA ad lo n A) (hi : vp_in i 6) (hd : decode cc pc = .ok (.iaload, 1)) (hn : pc + 1 = pc') (k : AW p l e R s m args below meth c D dA ad lo n nL A Q pc' ls (.int (sLE i.toNatClampNeg) :: rest) M) : AW p l e R s m args below meth c D dA ad lo n nL A Q pc ls (.int i :: .ref 1000 :: rest) M := by
  subst hn
  intro H locs la hP hS h
  exact va_ti X.1 X.2.1 X.2.2.2.2.2.2.2.2.2.1.2 hS hi rfl hd (k H locs la hP hS h)
theorem AW.gsG {ix : Nat} (X : CX p s m args meth c cc nL own D dA ad lo n A) (hl : Cond.fieldLinkNest own ix "ShakerSweep" "SETTING_GREATEST" "[I" "ShakerSweep" ∈ tblA) (hd : decode cc pc = .ok (.getstatic ix, 3)) (hn : pc + 3 = pc') (k : AW p l e R s m args below meth c D dA ad lo n nL A Q pc' ls (.ref 1001 :: rest) M) : AW p l e R s m args below meth c D dA ad lo n nL A Q pc ls rest M := by
  subst hn
  intro H locs la hP hS h
  exact va_getsN X.1 X.2.1 X.2.2.2.2.2.2.2.2.2.2.1.1 hS X.2.2.2.1 (X.2.2.2.2.1 _ hl) (fun _ h => h) hd (k H locs la hP hS h)
theorem AW.gsGi {i : Int32} (X : CX p s m args meth c cc nL own D dA ad lo n A) (hi : vp_in i 6) (hd : decode cc pc = .ok (.iaload, 1)) (hn : pc + 1 = pc') (k : AW p l e R s m args below meth c D dA ad lo n nL A Q pc' ls (.int (sGR i.toNatClampNeg) :: rest) M) : AW p l e R s m args below meth c D dA ad lo n nL A Q pc ls (.int i :: .ref 1001 :: rest) M := by
  subst hn
  intro H locs la hP hS h
  exact va_ti X.1 X.2.1 X.2.2.2.2.2.2.2.2.2.2.1.2 hS hi rfl hd (k H locs la hP hS h)
theorem AW.mmax {x y : Int32} {ix : Nat} (X : CX p s m args meth c cc nL own D dA ad lo n A) (hR : 1 ≤ R.frames ∧ 21 ≤ R.locals) (hcat : (rest.map fun v => v.category).sum ≤ 8) (hl : Cond.methodLink own ix Lib.Math.max.name ∈ tblA) (hd : decode cc pc = .ok (.invokestatic ix, 3)) (hn : pc + 3 = pc') (k : AW p l e R s m args below meth c D dA ad lo n nL A Q pc' ls (.int (if x < y then y else x) :: rest) M) : AW p l e R s m args below meth c D dA ad lo n nL A Q pc ls (.int y :: .int x :: rest) M := by
  subst hn
  intro H locs la hP hS h
  exact va_mmax X.1 X.2.1 (X.2.2.1.trans h.1.symm) X.2.2.2.1 (X.2.2.2.2.1 _ hl) (X.2.2.2.2.1 _ mMaxS) (X.2.2.2.2.1 _ mMathI) (X.2.2.2.2.1 _ mMaxC) hR.1 (by rw [map_cat]; omega) (Nat.zero_le _) (Nat.zero_le _) hd (k H locs la hP hS h)
theorem AW.mmin {x y : Int32} {ix : Nat} (X : CX p s m args meth c cc nL own D dA ad lo n A) (hR : 1 ≤ R.frames ∧ 21 ≤ R.locals) (hcat : (rest.map fun v => v.category).sum ≤ 8) (hl : Cond.methodLink own ix Lib.Math.min.name ∈ tblA) (hd : decode cc pc = .ok (.invokestatic ix, 3)) (hn : pc + 3 = pc') (k : AW p l e R s m args below meth c D dA ad lo n nL A Q pc' ls (.int (if y < x then y else x) :: rest) M) : AW p l e R s m args below meth c D dA ad lo n nL A Q pc ls (.int y :: .int x :: rest) M := by
  subst hn
  intro H locs la hP hS h
  exact va_mmin X.1 X.2.1 (X.2.2.1.trans h.1.symm) X.2.2.2.1 (X.2.2.2.2.1 _ hl) (X.2.2.2.2.1 _ mMinS) (X.2.2.2.2.1 _ mMathI) (X.2.2.2.2.1 _ mMinC) hR.1 (by rw [map_cat]; omega) (Nat.zero_le _) (Nat.zero_le _) hd (k H locs la hP hS h)
theorem AW.mmaxL {x y : Int64} {ix : Nat} (X : CX p s m args meth c cc nL own D dA ad lo n A) (hR : 1 ≤ R.frames ∧ 23 ≤ R.locals) (hcat : (rest.map fun v => v.category).sum ≤ 8) (hl : Cond.methodLink own ix Lib.MathLoose.max_long.x ∈ tblA) (hd : decode cc pc = .ok (.invokestatic ix, 3)) (hn : pc + 3 = pc') (k : AW p l e R s m args below meth c D dA ad lo n nL A Q pc' ls (.long (if y < x then x else y) :: rest) M) : AW p l e R s m args below meth c D dA ad lo n nL A Q pc ls (.long y :: .long x :: rest) M := by
  subst hn
  intro H locs la hP hS h
  exact va_mmax_long X.1 X.2.1 (X.2.2.1.trans h.1.symm) X.2.2.2.1 (X.2.2.2.2.1 _ hl) (X.2.2.2.2.1 _ mMaxLS) (X.2.2.2.2.1 _ mMathI) (X.2.2.2.2.1 _ mMaxLC) hR.1 (by rw [map_cat]; omega) (Nat.zero_le _) (Nat.zero_le _) hd (k H locs la hP hS h)
theorem AW.mminL {x y : Int64} {ix : Nat} (X : CX p s m args meth c cc nL own D dA ad lo n A) (hR : 1 ≤ R.frames ∧ 23 ≤ R.locals) (hcat : (rest.map fun v => v.category).sum ≤ 8) (hl : Cond.methodLink own ix Lib.MathLoose.min_long.x ∈ tblA) (hd : decode cc pc = .ok (.invokestatic ix, 3)) (hn : pc + 3 = pc') (k : AW p l e R s m args below meth c D dA ad lo n nL A Q pc' ls (.long (if y < x then y else x) :: rest) M) : AW p l e R s m args below meth c D dA ad lo n nL A Q pc ls (.long y :: .long x :: rest) M := by
  subst hn
  intro H locs la hP hS h
  exact va_mmin_long X.1 X.2.1 (X.2.2.1.trans h.1.symm) X.2.2.2.1 (X.2.2.2.2.1 _ hl) (X.2.2.2.2.1 _ mMinLS) (X.2.2.2.2.1 _ mMathI) (X.2.2.2.2.1 _ mMinLC) hR.1 (by rw [map_cat]; omega) (Nat.zero_le _) (Nat.zero_le _) hd (k H locs la hP hS h)
theorem AW.acopy {a b L L2 : Nat} {sp dp z : Int32} {ix : Nat} (X : CX p s m args meth c cc nL own D dA ad lo n A) (ta : tIA lo n L a) (tb : tIA lo n L2 b) (hR : 1 ≤ R.frames ∧ 8 + (nativeFrameWords "java/lang/System" "arraycopy" 5 + 11) ≤ R.locals) (hcat : (rest.map fun v => v.category).sum ≤ 8) (h1 : ¬ sp < 0) (h2 : ¬ dp < 0) (h3 : ¬ z < 0) (h4 : sp.toNatClampNeg + z.toNatClampNeg ≤ L) (h5 : dp.toNatClampNeg + z.toNatClampNeg ≤ L2) (hl : Cond.methodLink own ix arraycopyName ∈ tblA) (hd : decode cc pc = .ok (.invokestatic ix, 3)) (hn : pc + 3 = pc') (k : AW p l e R s m args below meth c D dA ad lo n nL A Q pc' ls rest (msf M b (va_cpy (M a) (M b) sp.toNatClampNeg dp.toNatClampNeg z.toNatClampNeg))) : AW p l e R s m args below meth c D dA ad lo n nL A Q pc ls (.int z :: .int dp :: .ref b :: .int sp :: .ref a :: rest) M := by
  subst hn
  intro H locs la hP hS h
  refine va_copyi X.1 X.2.1 (X.2.2.1.trans h.1.symm) X.2.2.2.1 (X.2.2.2.2.1 _ hl) (X.2.2.2.2.1 _ mAcN) (X.2.2.2.2.1 _ mAcS) (X.2.2.2.2.1 _ mSysI) X.2.2.2.2.2.2.1 hP (X.2.2.2.2.2.2.2.1 M) hS (a - lo) (b - lo) 0 0 (ty := .int) (wl_at (w := 0) ta.1 ta.2.1 (cI ta dA ad (M a))) (wl_at (w := 0) tb.1 tb.2.1 (cI tb dA ad (M b))) rfl rfl rfl h1 h2 h3 h4 h5 (fun _ _ => rfl) hR.1 (by rw [map_cat]; omega) hd (fun H1 locs1 hP1 hD1 hS1 => ?_)
  rw [wl_set (w := 0) tb.1 tb.2.1 (cI tb dA ad _)] at hP1
  exact k H1 locs1 la hP1 hS1 h
end AWR
end
section
/-! CONTRACTS over the abstract memory: MC says of a method that it returns rv and turns the memory M into M' -/
def MQc (D : va_G) (dA : Nat → ClassId) (ad : Nat → Nat) (lo n : Nat) (rv : Option Value) (M' : MM) (A : Nat → Prop) : Array Value → State → Outcome → State → Prop := fun _ st oc t => (oc = .returned rv ∧ va_P D vwCl (wl dA ad lo n M') t.heap) ∧ va_F A st t
def NW (U : State) : Prop := ∀ w ∈ tblA, isNest w = true → va_Nw w U
def MPc (D : va_G) (dA : Nat → ClassId) (ad : Nat → Nat) (lo n sz : Nat) (M : MM) (U : State) : Prop := U.heap.size = sz ∧ va_P D vwCl (wl dA ad lo n M) U.heap ∧ va_K D vwCl (tysA dA) U ∧ va_D (fun _ => True) (wl dA ad lo n M) ∧ SF ad (va_A (wl dA ad lo n M) sz) U U.heap ∧ NW U
def MC (y : MethodName) (cc : ByteArray) (mL : Nat) (ret : Option FieldType) (fr lc lo n : Nat) (av : List Value) (M : MM) (rv : Option Value) (M' : MM) : Prop := ∀ (l : Launch) (D : va_G) (dA : Nat → ClassId) (ad : Nat → Nat) (sz : Nat), Met l y (Cond.code y cc mL ret :: tblG) { frames := fr, cells := 0, slots := 0, locals := lc } (va_Pc (av.map (cv ad)) (MPc D dA ad lo n sz M)) (MQc D dA ad lo n rv M' (va_A (wl dA ad lo n M) sz)) 0 0 (va_A (wl dA ad lo n M) sz)
theorem lv_args_cv (ad : Nat → Nat) : ∀ (av : List Value) (i : Nat), lv_args i (av.map (cv ad)) = cvl ad (lv_args i av)
  | [], _ => rfl
  | v :: av, i => by
    simp only [List.map_cons, lv_args, cv_cat, cvl]
    rw [lv_args_cv ad av]
    rfl
theorem nestOn {w : Cond} (h : isNest w = true) : w.onTables = true := by cases w <;> first | rfl | (exact absurd h Bool.false_ne_true)
theorem nestWarm {w : Cond} (h : isNest w = true) {s U : State} (hW : s.WarmedH U.vm) (hZ : va_Nw w s) : va_Nw w U := by
  cases w <;> first | exact va_Nw.warmM hW hZ | exact va_Nw.warmF hW hZ | exact absurd h Bool.false_ne_true
theorem MC.of {y : MethodName} {cc : ByteArray} {mL : Nat} {ret : Option FieldType} {fr lc lo n : Nat} {av : List Value} {M : MM} {rv : Option Value} {M' : MM} {ls0 : List (Nat × Value)} (hy : plainName y.cls = true) (hls : lv_args 0 av = ls0) (hlen : ∀ ad, (lg_sl (av.map (cv ad))).length ≤ mL)
    (K : ∀ (p : Program) (l : Launch) (e : Env) (s : State) (m : MethodId) (args : Array Value) (below : List Frame) (meth : Method) (c : Code) (D : va_G) (dA : Nat → ClassId) (ad : Nat → Nat) (A : Nat → Prop), CX p s m args meth c cc mL y.cls D dA ad lo n A → meth.sig.returnType = ret → AW p l e { frames := fr, cells := 0, slots := 0, locals := lc } s m args below meth c D dA ad lo n mL A (MQ below (MQc D dA ad lo n rv M' A) args s 0 0 A) 0 ls0 [] M) : MC y cc mL ret fr lc lo n av M rv M' := by
  intro l D dA ad sz
  refine Met.ofW (cc := cc) (maxL := mL) (ret := ret) hy rfl ?_
  intro p e s m args below meth c s₁ B hml hv
  obtain ⟨rfl, hsz, hP, hK, hD0, hSF, hNW⟩ := hv
  have hts0 := atoms_spec (ws := Cond.code y cc mL ret :: tblG) B.pre
  have hts : ∀ w ∈ tblA, w.before (av.map (cv ad)).toArray s = true := fun w hw => by
    obtain ⟨h1, h2⟩ := List.mem_filter.mp hw
    rcases Bool.or_eq_true _ _ ▸ h2 with h3 | h3
    · exact hts0 w (List.mem_cons_of_mem _ (List.mem_filter.mpr ⟨h1, h3⟩))
    · exact va_Nw.use (nestOn h3) (hNW w hw h3)
  subst hsz
  have hD := hD0.self (sz := s.heap.size)
  generalize hAe : va_A (wl dA ad lo n M) s.heap.size = A at hD hSF ⊢
  have hA : ∀ q : Nat, s.heap.size ≤ q → A q := fun q h => by rw [← hAe]; exact Or.inr h
  have X : CX p s m (av.map (cv ad)).toArray meth c cc mL y.cls D dA ad lo n A := ⟨B.exec, B.bytes, hml, findClass_of_methodNamed B.named, hts, B.notSynchronized, hK, fun M1 => wl_D hD M1, hA, hSF⟩
  have hl := lv_entry (av.map (cv ad)) (n := mL) (hlen ad)
  rw [lg_entry_eq]
  generalize (lg_sl (av.map (cv ad)) ++ List.replicate (mL - (lg_sl (av.map (cv ad))).length) Slot.unset).toArray = la at hl ⊢
  rw [lv_args_cv, hls] at hl
  exact K p l e s m _ below meth c D dA ad A X B.returns s.heap [] la hP va_S.rf hl
theorem tblIn {y : MethodName} {cc : ByteArray} {mL : Nat} {ret : Option FieldType} (h : Cond.code y cc mL ret ∈ tblA) : GoodIn tblA (Cond.code y cc mL ret :: tblG) := fun w hw => by
  rcases List.mem_cons.mp hw with e | h2
  · subst e
    exact ⟨h, good_of_word rfl⟩
  · obtain ⟨h3, h4⟩ := List.mem_filter.mp h2
    exact ⟨List.mem_filter.mpr ⟨h3, by rw [h4]; rfl⟩, good_of_word h4⟩
/-- what the tables say of a method that is called -/
def YV (y : MethodName) (cc : ByteArray) (mL : Nat) (ret : Option FieldType) (na : Nat) : Prop := Cond.instanceMethod y ∈ tblA ∧ Cond.selects y.cls y y ∈ tblA ∧ Cond.initialized y.cls ∈ tblA ∧ Cond.code y cc mL ret ∈ tblA ∧ (y.cls ≠ "java/lang/invoke/MethodHandle" ∧ y.cls ≠ "java/lang/invoke/VarHandle" ∧ (parseMethodDescriptor y.desc).map (fun d => d.parameters.length) = some na)
def YS (y : MethodName) (cc : ByteArray) (mL : Nat) (ret : Option FieldType) (na : Nat) : Prop := Cond.static y ∈ tblA ∧ Cond.initialized y.cls ∈ tblA ∧ Cond.code y cc mL ret ∈ tblA ∧ (y.cls ≠ "java/lang/invoke/MethodHandle" ∧ y.cls ≠ "java/lang/invoke/VarHandle" ∧ (parseMethodDescriptor y.desc).map (fun d => d.parameters.length) = some na)
section AWC
variable {p : Program} {l : Launch} {e : Env} {R : Room} {s : State} {m : MethodId} {args : Array Value} {below : List Frame} {meth : Method} {c : Code} {D : va_G} {dA : Nat → ClassId} {ad : Nat → Nat} {lo n nL : Nat} {A : Nat → Prop} {Q : State → Prop} {cc : ByteArray} {own : String}
variable {pc pc' : Nat} {ls ls' : List (Nat × Value)} {rest st : List Value} {M M' : MM} {y : MethodName} {cy : ByteArray} {mL fr lc na ix : Nat} {ret : Option FieldType} {As : List Value} {rv : Option Value}
theorem MPc.blind {D : va_G} {dA : Nat → ClassId} {ad : Nat → Nat} {lo n sz : Nat} {M : MM} {av : List Value} : FrameBlind (va_Pc av (MPc D dA ad lo n sz M)) := fun a U g mk q => by
  obtain ⟨q0, q1, qP, qK, qD, qS, qN⟩ := q
  exact ⟨q0, q1, qP, va_K.moved (u := U) (U := U.calling g mk a) (Vm.Alike.refl U.vm) qK, qD, qS.step (u := U) (U := U.calling g mk a) (Vm.Alike.refl U.vm) (fun _ _ _ => rfl) (fun _ h => h), fun w hw hn => va_Nw.same (u := U) (U := U.calling g mk a) (nestOn hn) rfl (qN w hw hn)⟩
theorem CX.pre (X : CX p s m args meth c cc nL own D dA ad lo n A) {H : Heap} {locs : List Loc} (hP : va_P D vwCl (wl dA ad lo n M) H) (hS : va_S A s.heap H locs) (av : List Value) : ∀ U : State, U.heap = H → s.WarmedH U.vm → va_Pc av (MPc D dA ad lo n H.size M) av.toArray U := fun U hU hW => by
  refine ⟨rfl, by rw [hU], by rw [hU]; exact hP, va_K.moved hW.alike X.2.2.2.2.2.2.1, (X.2.2.2.2.2.2.2.1 M).weaken (fun _ _ _ _ => trivial), ?_, fun w hw hn => nestWarm hn hW (va_Nw.of (nestOn hn) (X.2.2.2.2.1 w hw))⟩
  rw [hU]
  refine X.2.2.2.2.2.2.2.2.2.step hW.alike (fun q h1 h2 => hS.2.1 q h1 h2) (fun q h => ?_)
  rcases h with ⟨k, E, h⟩ | h
  · exact (X.2.2.2.2.2.2.2.1 M).2 k (q, E) h
  · exact X.2.2.2.2.2.2.2.2.1 q (Nat.le_trans hS.1 h)
theorem AW.back (X : CX p s m args meth c cc nL own D dA ad lo n A) {H : Heap} {locs : List Loc} {la : Array Slot} {av : List Value} {a : Array Value} (hS : va_S A s.heap H locs) (h : lv_has la nL (cvl ad ls)) (hcv : rv.map (cv ad) = rv)
    (hr : va_Run p l e R s m args below meth c H locs 0 0 0 0 (F0 m pc la av) (rest.map (cv ad)) (MQc D dA ad lo n rv M' (va_A (wl dA ad lo n M) H.size) a) (va_A (wl dA ad lo n M) H.size)) (k : AW p l e R s m args below meth c D dA ad lo n nL A Q (pc + 3) ls (rv.toList ++ rest) M') : W p l e R s m args below meth c H locs 0 0 Q (F0 m pc la av) := by
  have hF : ∀ q, va_A (wl dA ad lo n M) H.size q → A q := fun q z => by
    rcases z with ⟨k, E, z⟩ | z
    · exact (X.2.2.2.2.2.2.2.1 M).2 k (q, E) z
    · exact X.2.2.2.2.2.2.2.2.1 q (Nat.le_trans hS.1 z)
  intro T hT Xs
  obtain ⟨v, st₀, t, T', L, h0, X', hL, e1, e2, ⟨⟨hv, hP1⟩, hz, hk⟩, stp⟩ := hr T hT Xs
  cases hv
  rw [h0] at hz hk
  have hst : (rv.toList ++ rest.map (cv ad)) = (rv.toList ++ rest).map (cv ad) := by
    rw [List.map_append]
    congr 1
    cases rv with
    | none => rfl
    | some w => simp only [Option.map_some, Option.some.injEq] at hcv; simp [hcv]
  rw [hst] at stp
  obtain ⟨t2, a1, b1⟩ := k T'.heap (locs ++ L) la (by rw [e1]; exact hP1) ⟨Nat.le_trans hS.1 (by rw [e1]; exact hz), fun q h1 h2 => by rw [e1, hk q (Nat.lt_of_lt_of_le h1 hS.1) (fun z => h2 (hF q z))]; exact hS.2.1 q h1 h2, fun q hq => by
      rcases List.mem_append.mp hq with h | h
      · exact hS.2.2 q h
      · exact hF _ (hL q h)⟩ h T' rfl X'
  exact ⟨t2, stp t2 a1, b1⟩
theorem AW.callV {a w ci : Nat} {fs : List Value} {q : vw_C} (X : CX p s m args meth c cc nL own D dA ad lo n A) (hM : MC y cy mL ret fr lc lo n (.ref a :: As) M rv M') (Y : YV y cy mL ret na) (h1 : lo ≤ a) (h2 : a + (w + 1) ≤ lo + n) (he : cellF dA ad a (M a) = .inr (ci, fs)) (hc : vwCl[ci]? = some q) (hq : q.1 = y.cls) (hl : Cond.methodLink own ix y ∈ tblA) (hR : fr + 1 ≤ R.frames ∧ 8 + (mL + 11) + lc ≤ R.locals) (hna : As.length = na) (hcat : (rest.map fun v => v.category).sum ≤ 8) (hcv : rv.map (cv ad) = rv) (hst : st = As.reverse ++ .ref a :: rest) (hd : decode cc pc = .ok (.invokevirtual ix, 3)) (hn : pc + 3 = pc') (k : AW p l e R s m args below meth c D dA ad lo n nL A Q pc' ls (rv.toList ++ rest) M') : AW p l e R s m args below meth c D dA ad lo n nL A Q pc ls st M := by
  subst hn hst
  intro H locs la hP hS h
  have hwa := X.2.2.2.2.1
  have hG := tblIn Y.2.2.2.1
  refine AW.back X (M := M) (M' := M') (rv := rv) (rest := rest) (a := (Value.ref (ad a) :: As.map (cv ad)).toArray) hS h hcv ?_ k
  refine va_runV (C := y.cls) (ret := ret) (maxL := mL) (bytes := cy) (own := own) (index := ix) (As := As.map (cv ad)) (rest := rest.map (cv ad)) (n := na) ⟨X.1, X.2.1, X.2.2.1, X.2.2.2.1, hwa⟩ (hM l D dA ad H.size) ?_ ⟨MPc.blind, ?_, X.pre hP hS _⟩ rfl (by rw [List.length_map]; exact hna) h.1 (by simp [cv]) (lv_room (by rw [map_cat]; exact hcat)) hd ⟨Nat.zero_le _, Nat.zero_le _⟩
  · exact ⟨callB_of na hwa hG rfl rfl rfl (hwa _ Y.2.2.1) (hwa _ hl) Y.2.2.2.2 hR, hwa _ Y.1, hwa _ Y.2.1⟩
  · have := va_recv X.2.2.2.2.2.2.1 hP hc (wl_at h1 h2 he)
    rw [hq] at this
    exact this
theorem AW.callS (X : CX p s m args meth c cc nL own D dA ad lo n A) (hM : MC y cy mL ret fr lc lo n As M rv M') (Y : YS y cy mL ret na) (hl : Cond.methodLink own ix y ∈ tblA) (hR : fr + 1 ≤ R.frames ∧ 8 + (mL + 11) + lc ≤ R.locals) (hna : As.length = na) (hcat : (rest.map fun v => v.category).sum ≤ 8) (hcv : rv.map (cv ad) = rv) (hst : st = As.reverse ++ rest) (hd : decode cc pc = .ok (.invokestatic ix, 3)) (hn : pc + 3 = pc') (k : AW p l e R s m args below meth c D dA ad lo n nL A Q pc' ls (rv.toList ++ rest) M') : AW p l e R s m args below meth c D dA ad lo n nL A Q pc ls st M := by
  subst hn hst
  intro H locs la hP hS h
  have hwa := X.2.2.2.2.1
  have hG := tblIn Y.2.2.1
  refine AW.back X (M := M) (M' := M') (rv := rv) (rest := rest) (a := (As.map (cv ad)).toArray) hS h hcv ?_ k
  refine va_runS (ret := ret) (maxL := mL) (bytes := cy) (own := own) (index := ix) (As := As.map (cv ad)) (rest := rest.map (cv ad)) (n := na) ⟨X.1, X.2.1, X.2.2.1, X.2.2.2.1, hwa⟩ (hM l D dA ad H.size) ?_ ⟨MPc.blind, X.pre hP hS _⟩ rfl (by rw [List.length_map]; exact hna) h.1 (by simp) (lv_room (by rw [map_cat]; exact hcat)) hd ⟨Nat.zero_le _, Nat.zero_le _⟩
  exact ⟨callB_of na hwa hG rfl rfl rfl (hwa _ Y.2.1) (hwa _ hl) Y.2.2.2 hR, hwa _ Y.1⟩
theorem AW.callN {host : String} (X : CX p s m args meth c cc nL own D dA ad lo n A) (hM : MC y cy mL ret fr lc lo n As M rv M') (Y : YS y cy mL ret na) (hl : Cond.methodLinkNest own ix y host ∈ tblA) (hR : fr + 1 ≤ R.frames ∧ 8 + (mL + 11) + lc ≤ R.locals) (hna : As.length = na) (hcat : (rest.map fun v => v.category).sum ≤ 8) (hcv : rv.map (cv ad) = rv) (hst : st = As.reverse ++ rest) (hd : decode cc pc = .ok (.invokestatic ix, 3)) (hn : pc + 3 = pc') (k : AW p l e R s m args below meth c D dA ad lo n nL A Q pc' ls (rv.toList ++ rest) M') : AW p l e R s m args below meth c D dA ad lo n nL A Q pc ls st M := by
  subst hn hst
  intro H locs la hP hS h
  have hwa := X.2.2.2.2.1
  have hG := tblIn Y.2.2.1
  refine AW.back X (M := M) (M' := M') (rv := rv) (rest := rest) (a := (As.map (cv ad)).toArray) hS h hcv ?_ k
  refine va_runSN (ret := ret) (maxL := mL) (bytes := cy) (own := own) (index := ix) (As := As.map (cv ad)) (rest := rest.map (cv ad)) (n := na) ⟨X.1, X.2.1, X.2.2.1, X.2.2.2.1, hwa⟩ (hM l D dA ad H.size) ⟨va_cnB na hwa hG rfl rfl rfl (va_Nw.of rfl (hwa _ hl)) (hwa _ Y.2.1) Y.2.2.2 hR, hwa _ Y.1, trivial⟩ ⟨MPc.blind, X.pre hP hS _⟩ rfl (by rw [List.length_map]; exact hna) h.1 (by simp) (lv_room (by rw [map_cat]; exact hcat)) hd ⟨Nat.zero_le _, Nat.zero_le _⟩
theorem AW.iret {v : Int32} (X : CX p s m args meth c cc nL own D dA ad lo n A) (hr : meth.sig.returnType = some .int) (hd : decode cc pc = .ok (.ireturn, 1)) : AW p l e R s m args below meth c D dA ad lo n nL A (MQ below (MQc D dA ad lo n (some (.int v)) M A) args s 0 0 A) pc ls [.int v] M := fun H locs la hP hS h =>
  W.iret X.1 X.2.1 hr (fun t ht hW => ⟨⟨rfl, by rw [ht]; exact hP⟩, hS.F ht⟩) hS.2.2 hd (hlocks := X.2.2.2.2.2.1)
theorem AW.zret {b : Bool} (X : CX p s m args meth c cc nL own D dA ad lo n A) (hr : meth.sig.returnType = some .boolean) (hd : decode cc pc = .ok (.ireturn, 1)) : AW p l e R s m args below meth c D dA ad lo n nL A (MQ below (MQc D dA ad lo n (some (.int (bz b))) M A) args s 0 0 A) pc ls [.int (bz b)] M := fun H locs la hP hS h =>
  W.zret X.1 X.2.1 hr (by cases b <;> rfl) (fun t ht hW => ⟨⟨rfl, by rw [ht]; exact hP⟩, hS.F ht⟩) hS.2.2 hd (hlocks := X.2.2.2.2.2.1)
theorem AW.lret {v : Int64} (X : CX p s m args meth c cc nL own D dA ad lo n A) (hr : meth.sig.returnType = some .long) (hd : decode cc pc = .ok (.lreturn, 1)) : AW p l e R s m args below meth c D dA ad lo n nL A (MQ below (MQc D dA ad lo n (some (.long v)) M A) args s 0 0 A) pc ls [.long v] M := fun H locs la hP hS h =>
  W.lret X.1 X.2.1 hr (fun t ht hW => ⟨⟨rfl, by rw [ht]; exact hP⟩, hS.F ht⟩) hS.2.2 hd (hlocks := X.2.2.2.2.2.1)
theorem AW.vret (X : CX p s m args meth c cc nL own D dA ad lo n A) (hr : meth.sig.returnType = none) (hd : decode cc pc = .ok (.return_, 1)) : AW p l e R s m args below meth c D dA ad lo n nL A (MQ below (MQc D dA ad lo n none M A) args s 0 0 A) pc ls [] M := fun H locs la hP hS h =>
  W.vret X.1 X.2.1 hr (fun t ht hW => ⟨⟨rfl, by rw [ht]; exact hP⟩, hS.F ht⟩) hS.2.2 hd (hlocks := X.2.2.2.2.2.1)
end AWC
end
