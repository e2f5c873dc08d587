section
-- ===== PART A: goes FIRST, ahead of the names: the tables' words, and 'selects' of the private methods out of them =====
/-- a private method of a class that the tables say can be made, by its rows of tables_1 -/
def lw_okq (q : MethodName × Nat) : Prop := (q.1.cls ≠ "java/lang/invoke/MethodHandle" ∧ q.1.cls ≠ "java/lang/invoke/VarHandle") ∧ Cond.instantiable q.1.cls q.2 ∈ tables_1 ∧ Cond.privateMethod q.1 ∈ tables_1 ∧ Cond.instanceMethod q.1 ∈ tables_1
theorem lw_p0 : lw_okq (⟨"SealBook", "isTold", "(I)Z"⟩, 12) := ⟨⟨by decide +kernel, by decide +kernel⟩, List.mem_of_getElem? (i := 20) (by decide +kernel), List.mem_of_getElem? (i := 487) (by decide +kernel), List.mem_of_getElem? (i := 488) (by decide +kernel)⟩
theorem lw_p1 : lw_okq (⟨"SealBook$Ledger", "canBeSecond", "(III)Z"⟩, 17) := ⟨⟨by decide +kernel, by decide +kernel⟩, List.mem_of_getElem? (i := 116) (by decide +kernel), List.mem_of_getElem? (i := 495) (by decide +kernel), List.mem_of_getElem? (i := 496) (by decide +kernel)⟩
theorem lw_p2 : lw_okq (⟨"SealBook$Ledger", "place", "(I)V"⟩, 17) := ⟨⟨by decide +kernel, by decide +kernel⟩, List.mem_of_getElem? (i := 116) (by decide +kernel), List.mem_of_getElem? (i := 499) (by decide +kernel), List.mem_of_getElem? (i := 500) (by decide +kernel)⟩
theorem lw_p3 : lw_okq (⟨"SealBook$Ledger", "comesAhead", "(II)Z"⟩, 17) := ⟨⟨by decide +kernel, by decide +kernel⟩, List.mem_of_getElem? (i := 116) (by decide +kernel), List.mem_of_getElem? (i := 503) (by decide +kernel), List.mem_of_getElem? (i := 504) (by decide +kernel)⟩
theorem lw_p4 : lw_okq (⟨"SealBook", "canAsk", "(IIIII)Z"⟩, 12) := ⟨⟨by decide +kernel, by decide +kernel⟩, List.mem_of_getElem? (i := 20) (by decide +kernel), List.mem_of_getElem? (i := 527) (by decide +kernel), List.mem_of_getElem? (i := 528) (by decide +kernel)⟩
theorem lw_p5 : lw_okq (⟨"SealBook$Judge", "lawAt", "(II)LSealBook$Law;"⟩, 8) := ⟨⟨by decide +kernel, by decide +kernel⟩, List.mem_of_getElem? (i := 195) (by decide +kernel), List.mem_of_getElem? (i := 554) (by decide +kernel), List.mem_of_getElem? (i := 555) (by decide +kernel)⟩
theorem lw_p6 : lw_okq (⟨"SealBook$Feasts", "isKept", "(II)Z"⟩, 4) := ⟨⟨by decide +kernel, by decide +kernel⟩, List.mem_of_getElem? (i := 28) (by decide +kernel), List.mem_of_getElem? (i := 569) (by decide +kernel), List.mem_of_getElem? (i := 570) (by decide +kernel)⟩
theorem lw_p7 : lw_okq (⟨"SealBook$Judge", "perform", "(LSealBook$Marks;LSealBook$Law;IIIIZ)V"⟩, 8) := ⟨⟨by decide +kernel, by decide +kernel⟩, List.mem_of_getElem? (i := 195) (by decide +kernel), List.mem_of_getElem? (i := 573) (by decide +kernel), List.mem_of_getElem? (i := 574) (by decide +kernel)⟩
theorem lw_p8 : lw_okq (⟨"SealBook$Judge", "applyRules", "(LSealBook$Marks;LSealBook$Law;IIII)V"⟩, 8) := ⟨⟨by decide +kernel, by decide +kernel⟩, List.mem_of_getElem? (i := 195) (by decide +kernel), List.mem_of_getElem? (i := 581) (by decide +kernel), List.mem_of_getElem? (i := 582) (by decide +kernel)⟩
theorem lw_p9 : lw_okq (⟨"SealBook$Judge", "ask", "(LSealBook$Law;IIII)I"⟩, 8) := ⟨⟨by decide +kernel, by decide +kernel⟩, List.mem_of_getElem? (i := 195) (by decide +kernel), List.mem_of_getElem? (i := 585) (by decide +kernel), List.mem_of_getElem? (i := 586) (by decide +kernel)⟩
theorem lw_p10 : lw_okq (⟨"SealBook$Judge", "askOperand", "(IIII)I"⟩, 8) := ⟨⟨by decide +kernel, by decide +kernel⟩, List.mem_of_getElem? (i := 195) (by decide +kernel), List.mem_of_getElem? (i := 599) (by decide +kernel), List.mem_of_getElem? (i := 600) (by decide +kernel)⟩
theorem lw_p11 : lw_okq (⟨"SealBook$Judge", "applyEffects", "(LSealBook$Marks;LSealBook$Law;IIIIZ)V"⟩, 8) := ⟨⟨by decide +kernel, by decide +kernel⟩, List.mem_of_getElem? (i := 195) (by decide +kernel), List.mem_of_getElem? (i := 603) (by decide +kernel), List.mem_of_getElem? (i := 604) (by decide +kernel)⟩
theorem lw_p12 : lw_okq (⟨"SealBook", "canTrace", "(III)Z"⟩, 12) := ⟨⟨by decide +kernel, by decide +kernel⟩, List.mem_of_getElem? (i := 20) (by decide +kernel), List.mem_of_getElem? (i := 624) (by decide +kernel), List.mem_of_getElem? (i := 625) (by decide +kernel)⟩
theorem lw_p13 : lw_okq (⟨"SealBook$Trace", "noteReached", "(II)V"⟩, 6) := ⟨⟨by decide +kernel, by decide +kernel⟩, List.mem_of_getElem? (i := 248) (by decide +kernel), List.mem_of_getElem? (i := 637) (by decide +kernel), List.mem_of_getElem? (i := 638) (by decide +kernel)⟩
theorem lw_p14 : lw_okq (⟨"SealBook$Trace", "noteThing", "(III)V"⟩, 6) := ⟨⟨by decide +kernel, by decide +kernel⟩, List.mem_of_getElem? (i := 248) (by decide +kernel), List.mem_of_getElem? (i := 641) (by decide +kernel), List.mem_of_getElem? (i := 642) (by decide +kernel)⟩
theorem lw_p15 : lw_okq (⟨"SealBook$Trace", "isStep", "(II)Z"⟩, 6) := ⟨⟨by decide +kernel, by decide +kernel⟩, List.mem_of_getElem? (i := 248) (by decide +kernel), List.mem_of_getElem? (i := 670) (by decide +kernel), List.mem_of_getElem? (i := 671) (by decide +kernel)⟩
def lw_privs_1 : List (MethodName × Nat) := [(⟨"SealBook", "isTold", "(I)Z"⟩, 12), (⟨"SealBook$Ledger", "canBeSecond", "(III)Z"⟩, 17), (⟨"SealBook$Ledger", "place", "(I)V"⟩, 17), (⟨"SealBook$Ledger", "comesAhead", "(II)Z"⟩, 17), (⟨"SealBook", "canAsk", "(IIIII)Z"⟩, 12), (⟨"SealBook$Judge", "lawAt", "(II)LSealBook$Law;"⟩, 8), (⟨"SealBook$Feasts", "isKept", "(II)Z"⟩, 4), (⟨"SealBook$Judge", "perform", "(LSealBook$Marks;LSealBook$Law;IIIIZ)V"⟩, 8), (⟨"SealBook$Judge", "applyRules", "(LSealBook$Marks;LSealBook$Law;IIII)V"⟩, 8), (⟨"SealBook$Judge", "ask", "(LSealBook$Law;IIII)I"⟩, 8), (⟨"SealBook$Judge", "askOperand", "(IIII)I"⟩, 8), (⟨"SealBook$Judge", "applyEffects", "(LSealBook$Marks;LSealBook$Law;IIIIZ)V"⟩, 8), (⟨"SealBook", "canTrace", "(III)Z"⟩, 12), (⟨"SealBook$Trace", "noteReached", "(II)V"⟩, 6), (⟨"SealBook$Trace", "noteThing", "(III)V"⟩, 6), (⟨"SealBook$Trace", "isStep", "(II)Z"⟩, 6)]
theorem lw_r1 : ∀ q ∈ lw_privs_1, lw_okq q := List.forall_mem_cons.mpr ⟨lw_p0, List.forall_mem_cons.mpr ⟨lw_p1, List.forall_mem_cons.mpr ⟨lw_p2, List.forall_mem_cons.mpr ⟨lw_p3, List.forall_mem_cons.mpr ⟨lw_p4, List.forall_mem_cons.mpr ⟨lw_p5, List.forall_mem_cons.mpr ⟨lw_p6, List.forall_mem_cons.mpr ⟨lw_p7, List.forall_mem_cons.mpr ⟨lw_p8, List.forall_mem_cons.mpr ⟨lw_p9, List.forall_mem_cons.mpr ⟨lw_p10, List.forall_mem_cons.mpr ⟨lw_p11, List.forall_mem_cons.mpr ⟨lw_p12, List.forall_mem_cons.mpr ⟨lw_p13, List.forall_mem_cons.mpr ⟨lw_p14, List.forall_mem_cons.mpr ⟨lw_p15, fun _ h => absurd h List.not_mem_nil⟩⟩⟩⟩⟩⟩⟩⟩⟩⟩⟩⟩⟩⟩⟩⟩
theorem lw_p16 : lw_okq (⟨"SealBook$LawReader", "put", "(I)V"⟩, 7) := ⟨⟨by decide +kernel, by decide +kernel⟩, List.mem_of_getElem? (i := 48) (by decide +kernel), List.mem_of_getElem? (i := 756) (by decide +kernel), List.mem_of_getElem? (i := 757) (by decide +kernel)⟩
theorem lw_p17 : lw_okq (⟨"SealBook$LawReader", "readKind", "(I)I"⟩, 7) := ⟨⟨by decide +kernel, by decide +kernel⟩, List.mem_of_getElem? (i := 48) (by decide +kernel), List.mem_of_getElem? (i := 772) (by decide +kernel), List.mem_of_getElem? (i := 773) (by decide +kernel)⟩
theorem lw_p18 : lw_okq (⟨"SealBook$LawReader", "sign", "()I"⟩, 7) := ⟨⟨by decide +kernel, by decide +kernel⟩, List.mem_of_getElem? (i := 48) (by decide +kernel), List.mem_of_getElem? (i := 776) (by decide +kernel), List.mem_of_getElem? (i := 777) (by decide +kernel)⟩
theorem lw_p19 : lw_okq (⟨"SealBook$LawReader", "fail", "(I)V"⟩, 7) := ⟨⟨by decide +kernel, by decide +kernel⟩, List.mem_of_getElem? (i := 48) (by decide +kernel), List.mem_of_getElem? (i := 783) (by decide +kernel), List.mem_of_getElem? (i := 784) (by decide +kernel)⟩
theorem lw_p20 : lw_okq (⟨"SealBook$LawReader", "expect", "(I)V"⟩, 7) := ⟨⟨by decide +kernel, by decide +kernel⟩, List.mem_of_getElem? (i := 48) (by decide +kernel), List.mem_of_getElem? (i := 787) (by decide +kernel), List.mem_of_getElem? (i := 788) (by decide +kernel)⟩
theorem lw_p21 : lw_okq (⟨"SealBook$LawReader", "goesOn", "(I)Z"⟩, 7) := ⟨⟨by decide +kernel, by decide +kernel⟩, List.mem_of_getElem? (i := 48) (by decide +kernel), List.mem_of_getElem? (i := 791) (by decide +kernel), List.mem_of_getElem? (i := 792) (by decide +kernel)⟩
theorem lw_p22 : lw_okq (⟨"SealBook$LawReader", "readCondition", "(I)V"⟩, 7) := ⟨⟨by decide +kernel, by decide +kernel⟩, List.mem_of_getElem? (i := 48) (by decide +kernel), List.mem_of_getElem? (i := 795) (by decide +kernel), List.mem_of_getElem? (i := 796) (by decide +kernel)⟩
theorem lw_p23 : lw_okq (⟨"SealBook$LawReader", "readPart", "(I)V"⟩, 7) := ⟨⟨by decide +kernel, by decide +kernel⟩, List.mem_of_getElem? (i := 48) (by decide +kernel), List.mem_of_getElem? (i := 799) (by decide +kernel), List.mem_of_getElem? (i := 800) (by decide +kernel)⟩
theorem lw_p24 : lw_okq (⟨"SealBook$LawReader", "readPiece", "(I)V"⟩, 7) := ⟨⟨by decide +kernel, by decide +kernel⟩, List.mem_of_getElem? (i := 48) (by decide +kernel), List.mem_of_getElem? (i := 803) (by decide +kernel), List.mem_of_getElem? (i := 804) (by decide +kernel)⟩
theorem lw_p25 : lw_okq (⟨"SealBook$LawReader", "mayOpen", "(I)Z"⟩, 7) := ⟨⟨by decide +kernel, by decide +kernel⟩, List.mem_of_getElem? (i := 48) (by decide +kernel), List.mem_of_getElem? (i := 807) (by decide +kernel), List.mem_of_getElem? (i := 808) (by decide +kernel)⟩
theorem lw_p26 : lw_okq (⟨"SealBook$LawReader", "readOperand", "(I)V"⟩, 7) := ⟨⟨by decide +kernel, by decide +kernel⟩, List.mem_of_getElem? (i := 48) (by decide +kernel), List.mem_of_getElem? (i := 811) (by decide +kernel), List.mem_of_getElem? (i := 812) (by decide +kernel)⟩
theorem lw_p27 : lw_okq (⟨"SealBook$LawReader", "readMark", "()I"⟩, 7) := ⟨⟨by decide +kernel, by decide +kernel⟩, List.mem_of_getElem? (i := 48) (by decide +kernel), List.mem_of_getElem? (i := 819) (by decide +kernel), List.mem_of_getElem? (i := 820) (by decide +kernel)⟩
theorem lw_p28 : lw_okq (⟨"SealBook$LawReader", "readNumber", "()I"⟩, 7) := ⟨⟨by decide +kernel, by decide +kernel⟩, List.mem_of_getElem? (i := 48) (by decide +kernel), List.mem_of_getElem? (i := 824) (by decide +kernel), List.mem_of_getElem? (i := 825) (by decide +kernel)⟩
theorem lw_p29 : lw_okq (⟨"SealBook$LawReader", "readEffects", "()V"⟩, 7) := ⟨⟨by decide +kernel, by decide +kernel⟩, List.mem_of_getElem? (i := 48) (by decide +kernel), List.mem_of_getElem? (i := 828) (by decide +kernel), List.mem_of_getElem? (i := 829) (by decide +kernel)⟩
theorem lw_p30 : lw_okq (⟨"SealBook$LawReader", "readEffect", "(I)V"⟩, 7) := ⟨⟨by decide +kernel, by decide +kernel⟩, List.mem_of_getElem? (i := 48) (by decide +kernel), List.mem_of_getElem? (i := 832) (by decide +kernel), List.mem_of_getElem? (i := 833) (by decide +kernel)⟩
def lw_privs_2 : List (MethodName × Nat) := [(⟨"SealBook$LawReader", "put", "(I)V"⟩, 7), (⟨"SealBook$LawReader", "readKind", "(I)I"⟩, 7), (⟨"SealBook$LawReader", "sign", "()I"⟩, 7), (⟨"SealBook$LawReader", "fail", "(I)V"⟩, 7), (⟨"SealBook$LawReader", "expect", "(I)V"⟩, 7), (⟨"SealBook$LawReader", "goesOn", "(I)Z"⟩, 7), (⟨"SealBook$LawReader", "readCondition", "(I)V"⟩, 7), (⟨"SealBook$LawReader", "readPart", "(I)V"⟩, 7), (⟨"SealBook$LawReader", "readPiece", "(I)V"⟩, 7), (⟨"SealBook$LawReader", "mayOpen", "(I)Z"⟩, 7), (⟨"SealBook$LawReader", "readOperand", "(I)V"⟩, 7), (⟨"SealBook$LawReader", "readMark", "()I"⟩, 7), (⟨"SealBook$LawReader", "readNumber", "()I"⟩, 7), (⟨"SealBook$LawReader", "readEffects", "()V"⟩, 7), (⟨"SealBook$LawReader", "readEffect", "(I)V"⟩, 7)]
theorem lw_r2 : ∀ q ∈ lw_privs_2, lw_okq q := List.forall_mem_cons.mpr ⟨lw_p16, List.forall_mem_cons.mpr ⟨lw_p17, List.forall_mem_cons.mpr ⟨lw_p18, List.forall_mem_cons.mpr ⟨lw_p19, List.forall_mem_cons.mpr ⟨lw_p20, List.forall_mem_cons.mpr ⟨lw_p21, List.forall_mem_cons.mpr ⟨lw_p22, List.forall_mem_cons.mpr ⟨lw_p23, List.forall_mem_cons.mpr ⟨lw_p24, List.forall_mem_cons.mpr ⟨lw_p25, List.forall_mem_cons.mpr ⟨lw_p26, List.forall_mem_cons.mpr ⟨lw_p27, List.forall_mem_cons.mpr ⟨lw_p28, List.forall_mem_cons.mpr ⟨lw_p29, List.forall_mem_cons.mpr ⟨lw_p30, fun _ h => absurd h List.not_mem_nil⟩⟩⟩⟩⟩⟩⟩⟩⟩⟩⟩⟩⟩⟩⟩
def lw_privs : List (MethodName × Nat) := lw_privs_1 ++ (lw_privs_2)
def lw_tbl : List Cond := k2_sels lw_privs ++ tables_1
theorem lw_privs_ok : ∀ q ∈ lw_privs, lw_okq q := by
  show ∀ q ∈ lw_privs_1 ++ (lw_privs_2), lw_okq q
  exact List.forall_mem_append.mpr ⟨lw_r1, lw_r2⟩

/-! the classes, their fields (names of the claim's own listing) -/
def am_R0 : String := "SealBook$Feasts"
def am_T0L : List (String × String × String × Bool) := [("SealBook$Feasts", "month", "[I", true), ("SealBook$Feasts", "first", "[I", true), ("SealBook$Feasts", "length", "[I", true), ("SealBook$Feasts", "size", "I", false)]
def am_T0 : u_T := fun k => am_T0L.getD k ("", "", "I", false)
def am_R1 : String := "SealBook$Judge"
def am_T1L : List (String × String × String × Bool) := [("SealBook$Judge", "commonOfFirst", "LSealBook$Law;", true), ("SealBook$Judge", "commonOfSecond", "LSealBook$Law;", true), ("SealBook$Judge", "feastOfFirst", "LSealBook$Law;", true), ("SealBook$Judge", "feastOfSecond", "LSealBook$Law;", true), ("SealBook$Judge", "ledger", "LSealBook$Ledger;", true), ("SealBook$Judge", "feasts", "LSealBook$Feasts;", true), ("SealBook$Judge", "ahead", "LSealBook$Marks;", true), ("SealBook$Judge", "stack", "[I", true)]
def am_T1 : u_T := fun k => am_T1L.getD k ("", "", "I", false)
def am_R2 : String := "SealBook$Kitchens"
def am_T2L : List (String × String × String × Bool) := [("SealBook$Kitchens", "school", "[I", true), ("SealBook$Kitchens", "overseer", "[I", true), ("SealBook$Kitchens", "x", "[I", true), ("SealBook$Kitchens", "y", "[I", true), ("SealBook$Kitchens", "trusted", "[Z", true), ("SealBook$Kitchens", "shortest", "[I", true), ("SealBook$Kitchens", "stops", "[I", true), ("SealBook$Kitchens", "stopCount", "I", false), ("SealBook$Kitchens", "size", "I", false)]
def am_T2 : u_T := fun k => am_T2L.getD k ("", "", "I", false)
def am_R3 : String := "SealBook$Law"
def am_T3L : List (String × String × String × Bool) := [("SealBook$Law", "kind", "[I", true), ("SealBook$Law", "stepsTo", "[I", true), ("SealBook$Law", "effectsTo", "[I", true), ("SealBook$Law", "step", "[I", true), ("SealBook$Law", "effect", "[I", true), ("SealBook$Law", "ruleCount", "I", false), ("SealBook$Law", "steps", "I", false), ("SealBook$Law", "effects", "I", false)]
def am_T3 : u_T := fun k => am_T3L.getD k ("", "", "I", false)
def am_R4 : String := "SealBook$LawReader"
def am_T4L : List (String × String × String × Bool) := [("SealBook$LawReader", "tape", "[I", true), ("SealBook$LawReader", "read", "LSealBook$Law;", true), ("SealBook$LawReader", "bytes", "I", false), ("SealBook$LawReader", "end", "I", false), ("SealBook$LawReader", "at", "I", false), ("SealBook$LawReader", "fault", "I", false), ("SealBook$LawReader", "operands", "I", false)]
def am_T4 : u_T := fun k => am_T4L.getD k ("", "", "I", false)
def am_R5 : String := "SealBook$Ledger"
def am_T5L : List (String × String × String × Bool) := [("SealBook$Ledger", "bornWith", "[I", true), ("SealBook$Ledger", "kind", "[I", true), ("SealBook$Ledger", "first", "[I", true), ("SealBook$Ledger", "second", "[I", true), ("SealBook$Ledger", "minute", "[I", true), ("SealBook$Ledger", "sure", "[Z", true), ("SealBook$Ledger", "told", "[I", true), ("SealBook$Ledger", "struck", "[I", true), ("SealBook$Ledger", "mistakeThing", "[I", true), ("SealBook$Ledger", "mistakeMark", "[I", true), ("SealBook$Ledger", "mistakeMinute", "[I", true), ("SealBook$Ledger", "mistakeTold", "[I", true), ("SealBook$Ledger", "order", "[I", true), ("SealBook$Ledger", "events", "I", false), ("SealBook$Ledger", "things", "I", false), ("SealBook$Ledger", "acts", "I", false), ("SealBook$Ledger", "mistakes", "I", false)]
def am_T5 : u_T := fun k => am_T5L.getD k ("", "", "I", false)
def am_R6 : String := "SealBook$Lots"
def am_T6L : List (String × String × String × Bool) := [("SealBook$Lots", "kitchens", "LSealBook$Kitchens;", true), ("SealBook$Lots", "madeIn", "[I", true), ("SealBook$Lots", "made", "[I", true), ("SealBook$Lots", "wasIn", "[I", true), ("SealBook$Lots", "there", "[I", true), ("SealBook$Lots", "passLot", "[I", true), ("SealBook$Lots", "passFrom", "[I", true), ("SealBook$Lots", "passTo", "[I", true), ("SealBook$Lots", "passUnits", "[I", true), ("SealBook$Lots", "passSealed", "[Z", true), ("SealBook$Lots", "all", "[I", true), ("SealBook$Lots", "least", "[I", true), ("SealBook$Lots", "most", "[I", true), ("SealBook$Lots", "size", "I", false), ("SealBook$Lots", "passes", "I", false)]
def am_T6 : u_T := fun k => am_T6L.getD k ("", "", "I", false)
def am_R7 : String := "SealBook$Marks"
def am_T7L : List (String × String × String × Bool) := [("SealBook$Marks", "value", "[I", true), ("SealBook$Marks", "earliest", "[I", true), ("SealBook$Marks", "latest", "[I", true)]
def am_T7 : u_T := fun k => am_T7L.getD k ("", "", "I", false)
def am_R8 : String := "SealBook$Trace"
def am_T8L : List (String × String × String × Bool) := [("SealBook$Trace", "ledger", "LSealBook$Ledger;", true), ("SealBook$Trace", "judge", "LSealBook$Judge;", true), ("SealBook$Trace", "with", "LSealBook$Marks;", true), ("SealBook$Trace", "without", "LSealBook$Marks;", true), ("SealBook$Trace", "reachedBy", "[I", true), ("SealBook$Trace", "steps", "[I", true)]
def am_T8 : u_T := fun k => am_T8L.getD k ("", "", "I", false)
def am_R9 : String := "SealBook$Visitors"
def am_T9L : List (String × String × String × Bool) := [("SealBook$Visitors", "school", "[I", true), ("SealBook$Visitors", "weight", "[I", true), ("SealBook$Visitors", "sayHas", "[I", true), ("SealBook$Visitors", "sayHasNot", "[I", true), ("SealBook$Visitors", "size", "I", false)]
def am_T9 : u_T := fun k => am_T9L.getD k ("", "", "I", false)
def am_R10 : String := "SealBook$Visits"
def am_T10L : List (String × String × String × Bool) := [("SealBook$Visits", "kitchens", "LSealBook$Kitchens;", true), ("SealBook$Visits", "visitors", "LSealBook$Visitors;", true), ("SealBook$Visits", "two", "[I", true), ("SealBook$Visits", "day", "[I", true), ("SealBook$Visits", "lastVisitor", "[I", true), ("SealBook$Visits", "lastDay", "[I", true), ("SealBook$Visits", "choices", "[I", true), ("SealBook$Visits", "size", "I", false), ("SealBook$Visits", "chance", "I", false), ("SealBook$Visits", "patience", "I", false)]
def am_T10 : u_T := fun k => am_T10L.getD k ("", "", "I", false)
def am_R11 : String := "SealBook"
def am_T11L : List (String × String × String × Bool) := [("SealBook", "feasts", "LSealBook$Feasts;", true), ("SealBook", "reader", "LSealBook$LawReader;", true), ("SealBook", "ledger", "LSealBook$Ledger;", true), ("SealBook", "judge", "LSealBook$Judge;", true), ("SealBook", "trace", "LSealBook$Trace;", true), ("SealBook", "held", "LSealBook$Marks;", true), ("SealBook", "heldByOther", "LSealBook$Marks;", true), ("SealBook", "kitchens", "LSealBook$Kitchens;", true), ("SealBook", "lots", "LSealBook$Lots;", true), ("SealBook", "visitors", "LSealBook$Visitors;", true), ("SealBook", "visits", "LSealBook$Visits;", true), ("SealBook", "minuteNow", "I", false)]
def am_T11 : u_T := fun k => am_T11L.getD k ("", "", "I", false)
def am_cl : List vw_C := [(am_R0, am_T0, 4), (am_R1, am_T1, 8), (am_R2, am_T2, 9), (am_R3, am_T3, 8), (am_R4, am_T4, 7), (am_R5, am_T5, 17), (am_R6, am_T6, 15), (am_R7, am_T7, 3), (am_R8, am_T8, 6), (am_R9, am_T9, 5), (am_R10, am_T10, 10), (am_R11, am_T11, 12)]
def am_names : List String := ["SealBook$Feasts", "SealBook$Judge", "SealBook$Kitchens", "SealBook$Law", "SealBook$LawReader", "SealBook$Ledger", "SealBook$Lots", "SealBook$Marks", "SealBook$Trace", "SealBook$Visitors", "SealBook$Visits", "SealBook", "SealBookLaw"]
def am_RC (o : Nat) : String := am_names.getD o ""
/-- the slots of a fresh object: 0 a number, 1 null, a + 2 the place a -/
def am_fresh : List (List Nat) := [[1, 1, 1, 0], [1, 1, 1, 1, 1, 1, 1, 1], [1, 1, 1, 1, 1, 1, 1, 0, 0], [1, 1, 1, 1, 1, 0, 0, 0], [1, 1, 0, 0, 0, 0, 0], [1, 1, 1, 1, 1, 1, 1, 1, 1, 1, 1, 1, 1, 0, 0, 0, 0], [1, 1, 1, 1, 1, 1, 1, 1, 1, 1, 1, 1, 1, 0, 0], [1, 1, 1], [1, 1, 1, 1, 1, 1], [1, 1, 1, 1, 0], [1, 1, 1, 1, 1, 1, 1, 0, 0, 0], [1, 1, 1, 1, 1, 1, 1, 1, 1, 1, 1, 0]]
/-- methods: class, name, descriptor, locals, arguments (the receiver apart), static, what it answers; places of its words in lw_tbl: code, instance or static, selects -/
def am_M_0 : List (Nat × String × String × Nat × Nat × Bool × Option FieldType) := [(0, "<init>", "()V", 1, 0, false, none), (0, "beginOf", "(I)I", 1, 1, true, some .int), (0, "monthOf", "(I)I", 3, 1, true, some .int), (0, "has", "(I)Z", 3, 1, false, some .boolean), (0, "isKept", "(II)Z", 6, 2, false, some .boolean), (1, "<init>", "(LSealBook$Ledger;LSealBook$Feasts;)V", 3, 2, false, none), (1, "lawOf", "(IZ)LSealBook$Law;", 3, 2, false, some (.object "SealBook$Law")), (1, "lawAt", "(II)LSealBook$Law;", 4, 2, false, some (.object "SealBook$Law")), (1, "tellWhatIs", "(LSealBook$Marks;III)V", 7, 4, false, none), (1, "play", "(LSealBook$Marks;II)V", 6, 3, false, none), (1, "cleanse", "(LSealBook$Marks;III)V", 5, 4, false, none), (1, "perform", "(LSealBook$Marks;LSealBook$Law;IIIIZ)V", 9, 7, false, none), (1, "applyRules", "(LSealBook$Marks;LSealBook$Law;IIII)V", 9, 6, false, none), (1, "applyEffects", "(LSealBook$Marks;LSealBook$Law;IIIIZ)V", 13, 7, false, none), (1, "ask", "(LSealBook$Law;IIII)I", 10, 5, false, some .int), (1, "askOperand", "(IIII)I", 11, 4, false, some .int), (2, "<init>", "()V", 1, 0, false, none), (3, "<init>", "()V", 1, 0, false, none), (3, "empty", "()V", 1, 0, false, none), (3, "become", "(LSealBook$Law;)V", 2, 1, false, none), (3, "addStep", "(III)V", 4, 3, false, none), (3, "addEffect", "(I)V", 2, 1, false, none), (3, "addRule", "(I)V", 2, 1, false, none), (3, "stepsFrom", "(I)I", 2, 1, false, some .int), (3, "effectsFrom", "(I)I", 2, 1, false, some .int), (4, "<init>", "()V", 1, 0, false, none), (4, "append", "(IIIII)I", 6, 5, false, some .int), (4, "put", "(I)V", 3, 1, false, none), (4, "readTape", "(I)I", 4, 1, false, some .int), (4, "readKind", "(I)I", 3, 1, false, some .int), (4, "readCondition", "(I)V", 3, 1, false, none), (4, "readPart", "(I)V", 3, 1, false, none), (4, "readPiece", "(I)V", 4, 1, false, none), (4, "mayOpen", "(I)Z", 2, 1, false, some .boolean), (4, "readOperand", "(I)V", 3, 1, false, none), (4, "readMark", "()I", 2, 0, false, some .int), (4, "readNumber", "()I", 4, 0, false, some .int), (4, "readEffects", "()V", 2, 0, false, none), (4, "readEffect", "(I)V", 5, 1, false, none), (4, "kindOf", "(I)I", 1, 1, true, some .int), (4, "sign", "()I", 1, 0, false, some .int), (4, "goesOn", "(I)Z", 2, 1, false, some .boolean), (4, "expect", "(I)V", 2, 1, false, none), (4, "fail", "(I)V", 2, 1, false, none), (5, "<init>", "()V", 1, 0, false, none), (5, "addThing", "(I)I", 2, 1, false, some .int), (5, "addAct", "(IIIIZI)I", 7, 6, false, some .int), (5, "canBeSecond", "(III)Z", 4, 3, false, some .boolean), (5, "addMistake", "(IIII)I", 5, 4, false, some .int), (5, "place", "(I)V", 4, 1, false, none), (5, "comesAhead", "(II)Z", 4, 2, false, some .boolean), (5, "isMistake", "(I)Z", 2, 1, false, some .boolean), (5, "minuteOf", "(I)I", 2, 1, false, some .int), (5, "isKnown", "(II)Z", 4, 2, false, some .boolean), (5, "otherThing", "(II)I", 3, 2, false, some .int), (6, "<init>", "(LSealBook$Kitchens;)V", 2, 1, false, none), (7, "<init>", "()V", 1, 0, false, none), (7, "begin", "(LSealBook$Ledger;)V", 4, 1, false, none), (7, "put", "(III)V", 4, 3, false, none), (7, "join", "(IIII)V", 6, 4, false, none)]
def am_M_1 : List (Nat × String × String × Nat × Nat × Bool × Option FieldType) := [(7, "copyThing", "(LSealBook$Marks;I)V", 4, 2, false, none), (7, "joinThing", "(LSealBook$Marks;I)V", 4, 2, false, none), (7, "unlike", "(LSealBook$Marks;I)I", 5, 2, false, some .int), (8, "<init>", "(LSealBook$Ledger;LSealBook$Judge;)V", 3, 2, false, none), (8, "follow", "(IIII)V", 7, 4, false, none), (8, "noteReached", "(II)V", 3, 2, false, none), (8, "noteThing", "(III)V", 4, 3, false, none), (8, "otherwise", "(I)I", 2, 1, false, some .int), (8, "walkBack", "(II)I", 7, 2, false, some .int), (8, "isStep", "(II)Z", 4, 2, false, some .boolean), (8, "cleansings", "(III)I", 5, 3, false, some .int), (9, "<init>", "()V", 1, 0, false, none), (10, "<init>", "(LSealBook$Kitchens;LSealBook$Visitors;)V", 4, 2, false, none), (11, "<init>", "()V", 1, 0, false, none), (11, "now", "(I)Z", 2, 1, false, some .boolean), (11, "feed", "(IIIII)I", 6, 5, false, some .int), (11, "law", "(IZI)I", 5, 3, false, some .int), (11, "rules", "(IZ)I", 3, 2, false, some .int), (11, "thing", "(I)I", 2, 1, false, some .int), (11, "act", "(IIIIZ)I", 6, 5, false, some .int), (11, "mistake", "(III)I", 4, 3, false, some .int), (11, "mark", "(IIIII)I", 6, 5, false, some .int), (11, "leads", "(IIII)I", 5, 4, false, some .int), (11, "reached", "(III)I", 4, 3, false, some .int), (11, "way", "(IIII)I", 6, 4, false, some .int), (11, "mend", "(III)I", 4, 3, false, some .int), (11, "isIn", "(II)Z", 2, 2, true, some .boolean), (11, "isMinute", "(I)Z", 1, 1, true, some .boolean), (11, "isTold", "(I)Z", 2, 1, false, some .boolean), (11, "canAsk", "(IIIII)Z", 6, 5, false, some .boolean), (11, "canTrace", "(III)Z", 4, 3, false, some .boolean), (12, "cell", "([II)I", 2, 2, true, some .int), (12, "pick", "(II)I", 2, 2, true, some .int), (12, "put", "(LSealBook;IZLjava/lang/String;)I", 7, 4, true, some .int), (12, "goes", "(III[I)V", 7, 4, true, none), (12, "law", "([I)Z", 22, 1, true, some .boolean)]
def am_M : List (Nat × String × String × Nat × Nat × Bool × Option FieldType) := am_M_0 ++ (am_M_1)
def am_MP_0 : List (Nat × Nat × Nat) := [(1031, 1030, 0), (3087, 3086, 0), (3084, 3083, 0), (3081, 3079, 3080), (3091, 3090, 6), (1198, 1197, 0), (2232, 2230, 2231), (3076, 3075, 5), (3053, 3051, 3052), (3070, 3068, 3069), (3208, 3206, 3207), (3095, 3094, 7), (3103, 3102, 8), (3125, 3124, 11), (3107, 3106, 9), (3121, 3120, 10), (2042, 2041, 0), (1057, 1056, 0), (4050, 4048, 4049), (4126, 4124, 4125), (4097, 4095, 4096), (4118, 4116, 4117), (4122, 4120, 4121), (3111, 3109, 3110), (3129, 3127, 3128), (1051, 1050, 0), (4034, 4032, 4033), (4038, 4037, 16), (4046, 4044, 4045), (4054, 4053, 17), (4077, 4076, 22), (4081, 4080, 23), (4085, 4084, 24), (4089, 4088, 25), (4093, 4092, 26), (4101, 4100, 27), (4106, 4105, 28), (4110, 4109, 29), (4114, 4113, 30), (4061, 4060, 0), (4058, 4057, 18), (4073, 4072, 21), (4069, 4068, 20), (4065, 4064, 19), (1119, 1118, 0), (3000, 2238, 2239), (3013, 3011, 3012), (3017, 3016, 1), (3041, 3039, 3040), (3021, 3020, 2), (3025, 3024, 3), (3033, 3031, 3032), (3029, 3027, 3028), (3066, 3064, 3065), (3196, 3194, 3195), (2074, 2073, 0), (1206, 1205, 0), (3057, 3055, 3056), (3061, 3059, 3060), (3133, 3131, 3132)]
def am_MP_1 : List (Nat × Nat × Nat) := [(3099, 3097, 3098), (3137, 3135, 3136), (3171, 3169, 3170), (2011, 2010, 0), (3150, 3148, 3149), (3159, 3158, 13), (3163, 3162, 14), (3167, 3165, 3166), (3188, 3186, 3187), (3192, 3191, 15), (3204, 3202, 3203), (2124, 2123, 0), (2145, 2144, 0), (1023, 1022, 0), (2217, 2215, 2216), (4030, 4028, 4029), (4042, 4040, 4041), (2228, 2226, 2227), (2236, 2234, 2235), (3005, 3003, 3004), (3037, 3035, 3036), (3045, 3043, 3044), (3142, 3140, 3141), (3180, 3178, 3179), (3184, 3182, 3183), (3200, 3198, 3199), (2224, 2223, 0), (2220, 2219, 0), (3009, 3008, 0), (3049, 3048, 4), (3146, 3145, 12), (3211, 3210, 0), (3214, 3213, 0), (3218, 3217, 0), (4132, 4131, 0), (0, 0, 0)]
def am_MP : List (Nat × Nat × Nat) := am_MP_0 ++ (am_MP_1)
def am_C_0 : List (ByteArray) := [prog_2_method_1_code, prog_2_method_2_code, prog_2_method_3_code, prog_2_method_5_code, prog_2_method_6_code, prog_3_method_1_code, prog_3_method_2_code, prog_3_method_3_code, prog_3_method_4_code, prog_3_method_5_code, prog_3_method_6_code, prog_3_method_7_code, prog_3_method_8_code, prog_3_method_9_code, prog_3_method_10_code, prog_3_method_11_code, prog_4_method_1_code, prog_5_method_1_code, prog_5_method_2_code, prog_5_method_3_code, prog_5_method_4_code, prog_5_method_5_code, prog_5_method_6_code, prog_5_method_7_code, prog_5_method_8_code, prog_6_method_1_code, prog_6_method_2_code, prog_6_method_3_code, prog_6_method_4_code, prog_6_method_5_code, prog_6_method_6_code, prog_6_method_7_code, prog_6_method_8_code, prog_6_method_9_code, prog_6_method_10_code, prog_6_method_11_code, prog_6_method_12_code, prog_6_method_13_code, prog_6_method_14_code, prog_6_method_15_code, prog_6_method_16_code, prog_6_method_17_code, prog_6_method_18_code, prog_6_method_19_code, prog_7_method_1_code, prog_7_method_2_code, prog_7_method_3_code, prog_7_method_4_code, prog_7_method_6_code, prog_7_method_7_code, prog_7_method_8_code, prog_7_method_9_code, prog_7_method_10_code, prog_7_method_11_code, prog_7_method_12_code, prog_8_method_1_code, prog_9_method_1_code, prog_9_method_2_code, prog_9_method_3_code, prog_9_method_4_code]
def am_C_1 : List (ByteArray) := [prog_9_method_5_code, prog_9_method_6_code, prog_9_method_7_code, prog_10_method_1_code, prog_10_method_2_code, prog_10_method_3_code, prog_10_method_4_code, prog_10_method_5_code, prog_10_method_6_code, prog_10_method_7_code, prog_10_method_8_code, prog_11_method_1_code, prog_12_method_1_code, prog_1_method_1_code, prog_1_method_2_code, prog_1_method_6_code, prog_1_method_7_code, prog_1_method_8_code, prog_1_method_9_code, prog_1_method_10_code, prog_1_method_12_code, prog_1_method_13_code, prog_1_method_16_code, prog_1_method_17_code, prog_1_method_18_code, prog_1_method_19_code, prog_1_method_39_code, prog_1_method_40_code, prog_1_method_41_code, prog_1_method_43_code, prog_1_method_44_code, method_2_code, method_3_code, method_4_code, method_5_code, code]
def am_C : List (ByteArray) := am_C_0 ++ (am_C_1)
/-- links: own class, index, what is meant (a field: 100 times its class and its slot; a method, a class: its number; a number), place in lw_tbl -/
def am_lF_0 : List (Nat × Nat × Nat × Nat) := [(0, 9, 0, 1033), (0, 13, 1, 1034), (0, 16, 2, 1035), (0, 23, 3, 1036), (3, 9, 300, 1059), (3, 13, 301, 1061), (3, 16, 302, 1063), (3, 19, 303, 1065), (3, 22, 304, 1067), (3, 25, 305, 1069), (3, 29, 306, 1072), (3, 32, 307, 1073), (4, 11, 400, 1091), (4, 18, 401, 1092), (4, 22, 402, 1094), (4, 33, 403, 1096), (4, 36, 404, 1097), (4, 39, 405, 1098), (4, 42, 406, 1099), (5, 9, 500, 1121), (5, 15, 501, 1123), (5, 18, 502, 1125), (5, 21, 503, 1128), (5, 24, 504, 1131), (5, 27, 505, 1133), (5, 31, 506, 1135), (5, 34, 507, 1136), (5, 37, 508, 1137), (5, 40, 509, 1140), (5, 43, 510, 1142), (5, 46, 511, 1144), (5, 49, 512, 1145), (5, 74, 513, 1150), (5, 52, 514, 1151), (5, 60, 515, 1155), (5, 71, 516, 1156), (7, 9, 700, 1208), (7, 15, 701, 1211), (7, 18, 702, 1213), (1, 12, 100, 1222), (1, 18, 101, 1223), (1, 21, 102, 1224), (1, 24, 103, 1225), (1, 40, 104, 1226), (1, 44, 105, 1227), (1, 30, 106, 1228), (1, 36, 107, 1229), (8, 28, 800, 2015), (8, 32, 801, 2016), (8, 12, 802, 2017), (8, 18, 803, 2018), (8, 21, 804, 2019), (8, 25, 805, 2021), (2, 9, 200, 2044), (2, 15, 201, 2045), (2, 18, 202, 2046), (2, 21, 203, 2047), (2, 24, 204, 2048), (2, 28, 205, 2049), (2, 31, 206, 2050), (6, 49, 600, 2076), (6, 9, 601, 2077), (6, 15, 602, 2078), (6, 18, 603, 2079), (6, 21, 604, 2080), (6, 24, 605, 2081), (6, 27, 606, 2082), (6, 30, 607, 2083), (6, 33, 608, 2084), (6, 36, 609, 2085), (6, 40, 610, 2086), (6, 43, 611, 2087), (6, 46, 612, 2088), (9, 9, 900, 2126), (9, 15, 901, 2127), (9, 18, 902, 2128), (9, 21, 903, 2129), (10, 34, 1000, 2147), (10, 38, 1001, 2148), (10, 9, 1002, 2149), (10, 15, 1003, 2150), (10, 18, 1004, 2151), (10, 21, 1005, 2152), (10, 24, 1006, 2153), (10, 27, 1008, 2154), (10, 31, 1009, 2155), (11, 10, 1100, 2177), (11, 19, 1101, 2178), (11, 26, 1102, 2179), (11, 35, 1103, 2180), (11, 44, 1104, 2181), (11, 51, 1105, 2182), (11, 55, 1106, 2183), (11, 61, 1107, 2184), (11, 70, 1108, 2185), (11, 77, 1109, 2186), (11, 86, 1110, 2187), (11, 90, 1111, 2188)]
def am_lF : List (Nat × Nat × Nat × Nat) := am_lF_0
def am_lN_0 : List (Nat × Nat × Nat × Nat) := [(1, 137, 300, 1060), (1, 161, 301, 1062), (1, 148, 302, 1064), (1, 164, 303, 1066), (1, 151, 304, 1068), (1, 52, 305, 1070), (11, 140, 305, 1071), (11, 130, 401, 1093), (11, 120, 402, 1095), (7, 27, 500, 1122), (1, 109, 501, 1124), (8, 77, 502, 1126), (1, 112, 502, 1127), (8, 84, 503, 1129), (1, 115, 503, 1130), (1, 102, 504, 1132), (1, 118, 505, 1134), (8, 70, 508, 1138), (1, 89, 508, 1139), (1, 92, 509, 1141), (1, 95, 510, 1143), (8, 49, 512, 1146), (1, 71, 512, 1147), (8, 46, 513, 1148), (1, 66, 513, 1149), (7, 21, 514, 1152), (8, 40, 514, 1153), (11, 281, 514, 1154), (11, 316, 516, 1157), (1, 180, 700, 1209), (11, 168, 700, 1210), (1, 186, 701, 1212), (1, 183, 702, 1214), (11, 194, 804, 2020), (11, 201, 805, 2022)]
def am_lN : List (Nat × Nat × Nat × Nat) := am_lN_0
def am_lM_0 : List (Nat × Nat × Nat × Nat) := [(12, 28, 73, 1021), (11, 1, 1000, 1024), (0, 1, 1000, 1032), (4, 3, 1000, 1052), (3, 1, 1000, 1058), (5, 3, 1000, 1120), (11, 32, 5, 1196), (1, 3, 1000, 1199), (7, 3, 1000, 1207), (11, 41, 63, 2009), (8, 3, 1000, 2012), (2, 3, 1000, 2043), (11, 67, 55, 2072), (6, 3, 1000, 2075), (9, 3, 1000, 2125), (11, 83, 72, 2143), (10, 3, 1000, 2146), (12, 49, 74, 2214), (11, 94, 87, 2218), (11, 102, 86, 2222), (12, 45, 77, 2225), (11, 126, 6, 2229), (12, 53, 78, 2233), (11, 143, 45, 2237), (12, 57, 79, 3002), (11, 146, 88, 3006), (11, 149, 46, 3010), (5, 63, 47, 3014), (5, 67, 49, 3018), (5, 77, 50, 3022), (5, 80, 52, 3026), (5, 84, 51, 3030), (12, 61, 80, 3034), (11, 156, 48, 3038), (12, 76, 81, 3042), (11, 160, 89, 3046), (11, 164, 8, 3050), (1, 62, 57, 3054), (7, 30, 58, 3058), (1, 74, 52, 3062), (1, 78, 53, 3063), (1, 82, 9, 3067), (1, 86, 51, 3071), (1, 98, 58, 3072), (1, 105, 7, 3073), (1, 48, 6, 3077), (1, 56, 3, 3078), (0, 33, 2, 3082), (0, 19, 1, 3085), (0, 36, 4, 3088), (1, 122, 11, 3092), (1, 126, 60, 3096), (1, 130, 12, 3100), (1, 138, 14, 3104), (1, 158, 23, 3108), (1, 167, 1002, 3112), (1, 173, 1001, 3115), (1, 176, 15, 3118), (1, 142, 13, 3122), (1, 145, 24, 3126), (1, 154, 59, 3130), (1, 134, 61, 3134), (7, 34, 59, 3138), (12, 69, 82, 3139), (11, 184, 90, 3143), (11, 187, 64, 3147), (8, 36, 57, 3151), (8, 52, 52, 3152), (8, 56, 53, 3153), (8, 60, 9, 3154), (8, 66, 51, 3155), (8, 73, 65, 3156), (8, 80, 66, 3160), (8, 87, 67, 3164), (8, 90, 62, 3168), (7, 38, 1003, 3172), (7, 44, 1001, 3175), (11, 191, 67, 3176), (12, 73, 83, 3177), (12, 79, 84, 3181), (11, 197, 68, 3185), (8, 94, 69, 3189), (8, 97, 54, 3193), (12, 82, 85, 3197), (11, 204, 70, 3201), (8, 101, 10, 3205), (12, 29, 91, 3209), (12, 35, 92, 3212), (12, 41, 93, 3216), (12, 8, 1005, 3219), (12, 14, 1006, 3229), (12, 18, 75, 4027), (11, 116, 26, 4031), (4, 26, 27, 4035), (12, 24, 76, 4039), (11, 123, 28, 4043), (4, 30, 18, 4047), (4, 45, 29, 4051), (4, 61, 40, 4055), (4, 65, 39, 4059)]
def am_lM_1 : List (Nat × Nat × Nat × Nat) := [(4, 68, 43, 4062), (4, 49, 42, 4066), (4, 74, 41, 4070), (4, 52, 30, 4074), (4, 71, 31, 4078), (4, 82, 32, 4082), (4, 85, 33, 4086), (4, 88, 34, 4090), (4, 78, 20, 4094), (4, 91, 35, 4098), (4, 94, 36, 4103), (4, 55, 37, 4107), (4, 101, 38, 4111), (4, 104, 21, 4115), (4, 58, 22, 4119), (11, 134, 19, 4123), (3, 35, 1004, 4127), (12, 65, 94, 4130)]
def am_lM : List (Nat × Nat × Nat × Nat) := am_lM_0 ++ (am_lM_1)
def am_lMN_0 : List (Nat × Nat × Nat × Nat) := [(11, 9, 0, 1029), (11, 18, 25, 1049), (4, 17, 17, 1055), (11, 25, 44, 1117), (1, 11, 17, 1201), (1, 29, 56, 1204), (8, 11, 56, 2014), (11, 50, 56, 2037), (11, 60, 16, 2040), (11, 76, 71, 2122), (5, 56, 86, 3001), (4, 97, 86, 4102)]
def am_lMN : List (Nat × Nat × Nat × Nat) := am_lMN_0
def am_lK_0 : List (Nat × Nat × Nat × Nat) := [(11, 331, 1440000, 2221), (12, 7, 65535, 3215)]
def am_lK : List (Nat × Nat × Nat × Nat) := am_lK_0
def am_lKL_0 : List (Nat × Nat × Nat × Nat) := []
def am_lKL : List (Nat × Nat × Nat × Nat) := am_lKL_0
def am_lC_0 : List (Nat × Nat × Nat × Nat) := [(12, 19, 11, 1019), (11, 7, 0, 1027), (11, 16, 4, 1047), (4, 9, 3, 1053), (11, 23, 5, 1115), (11, 30, 1, 1194), (1, 9, 3, 1200), (1, 27, 7, 1202), (11, 39, 8, 2007), (8, 9, 7, 2013), (11, 48, 7, 2036), (11, 58, 2, 2038), (11, 65, 6, 2070), (11, 74, 9, 2120), (11, 81, 10, 2141)]
def am_lC : List (Nat × Nat × Nat × Nat) := am_lC_0
def am_lay : List (List Nat) := [[1037, 1039, 1041, 1043], [1230, 1232, 1234, 1236, 1238, 2000, 2002, 2004], [2051, 2053, 2055, 2057, 2059, 2061, 2063, 2065, 2067], [1074, 1076, 1078, 1080, 1082, 1084, 1086, 1088], [1100, 1102, 1104, 1106, 1108, 1110, 1112], [1158, 1160, 1162, 1164, 1166, 1168, 1170, 1172, 1174, 1176, 1178, 1180, 1182, 1184, 1186, 1188, 1190], [2089, 2091, 2093, 2095, 2097, 2099, 2101, 2103, 2105, 2107, 2109, 2111, 2113, 2115, 2117], [1215, 1217, 1219], [2023, 2025, 2027, 2029, 2031, 2033], [2130, 2132, 2134, 2136, 2138], [2156, 2158, 2160, 2162, 2164, 2166, 2168, 2170, 2172, 2174], [2189, 2191, 2193, 2195, 2197, 2199, 2201, 2203, 2205, 2207, 2209, 2211]]
def am_law : Nat := 95
def am_pini : List Nat := [1002, 1006, 1009, 1004, 1003, 1005, 1010, 1007, 1008, 1011, 1012, 1001, 1000]
def am_pins : List Nat := [1028, 1195, 2039, 1054, 1048, 1116, 2071, 1203, 2008, 2121, 2142, 1020]
end
section
def am_gd (n pc : Nat) (x : Option (Instr × Nat)) : Option (Instr × Nat) := bif Nat.ble n pc then none else x
def am_f0 (pc : Nat) : Option (Instr × Nat) := am_gd 29 pc (bif Nat.ble 13 pc then (bif Nat.ble 21 pc then (bif Nat.ble 25 pc then (bif Nat.ble 28 pc then (bif Nat.beq pc 28 then some (.return_, 0) else none) else (bif Nat.beq pc 25 then some (.putfield 16, 2) else none)) else (bif Nat.ble 23 pc then (bif Nat.beq pc 23 then some (.newarray .int, 0) else none) else (bif Nat.beq pc 21 then some (.bipush (6), 0) else none))) else (bif Nat.ble 17 pc then (bif Nat.ble 20 pc then (bif Nat.beq pc 20 then some (.aload_n 0, 0) else none) else (bif Nat.beq pc 17 then some (.putfield 13, 1) else none)) else (bif Nat.ble 15 pc then (bif Nat.beq pc 15 then some (.newarray .int, 0) else none) else (bif Nat.beq pc 13 then some (.bipush (6), 0) else none)))) else (bif Nat.ble 5 pc then (bif Nat.ble 9 pc then (bif Nat.ble 12 pc then (bif Nat.beq pc 12 then some (.aload_n 0, 0) else none) else (bif Nat.beq pc 9 then some (.putfield 9, 0) else none)) else (bif Nat.ble 7 pc then (bif Nat.beq pc 7 then some (.newarray .int, 0) else none) else (bif Nat.beq pc 5 then some (.bipush (6), 0) else none))) else (bif Nat.ble 1 pc then (bif Nat.ble 4 pc then (bif Nat.beq pc 4 then some (.aload_n 0, 0) else none) else (bif Nat.beq pc 1 then some (.invokespecial 1, 1000) else none)) else (bif Nat.beq pc 0 then some (.aload_n 0, 0) else none))))
def am_f1 (pc : Nat) : Option (Instr × Nat) := am_gd 9 pc (bif Nat.ble 5 pc then (bif Nat.ble 7 pc then (bif Nat.ble 8 pc then (bif Nat.beq pc 8 then some (.ireturn, 0) else none) else (bif Nat.beq pc 7 then some (.idiv, 0) else none)) else (bif Nat.beq pc 5 then some (.bipush (100), 0) else none)) else (bif Nat.ble 1 pc then (bif Nat.ble 4 pc then (bif Nat.beq pc 4 then some (.imul, 0) else none) else (bif Nat.beq pc 1 then some (.sipush (2953), 0) else none)) else (bif Nat.beq pc 0 then some (.iload_n 0, 0) else none)))
def am_f2 (pc : Nat) : Option (Instr × Nat) := am_gd 28 pc (bif Nat.ble 11 pc then (bif Nat.ble 19 pc then (bif Nat.ble 23 pc then (bif Nat.ble 26 pc then (bif Nat.ble 27 pc then (bif Nat.beq pc 27 then some (.ireturn, 0) else none) else (bif Nat.beq pc 26 then some (.iload_n 1, 0) else none)) else (bif Nat.beq pc 23 then some (.goto (-19), 4) else none)) else (bif Nat.ble 20 pc then (bif Nat.beq pc 20 then some (.iinc 2 (1), 0) else none) else (bif Nat.beq pc 19 then some (.istore_n 1, 0) else none))) else (bif Nat.ble 15 pc then (bif Nat.ble 18 pc then (bif Nat.beq pc 18 then some (.iload_n 2, 0) else none) else (bif Nat.beq pc 15 then some (.if_icmp .gt (5), 20) else none)) else (bif Nat.ble 14 pc then (bif Nat.beq pc 14 then some (.iload_n 0, 0) else none) else (bif Nat.beq pc 11 then some (.invokestatic 19, 1) else none)))) else (bif Nat.ble 4 pc then (bif Nat.ble 7 pc then (bif Nat.ble 10 pc then (bif Nat.beq pc 10 then some (.iload_n 2, 0) else none) else (bif Nat.beq pc 7 then some (.if_icmp .ge (19), 26) else none)) else (bif Nat.ble 5 pc then (bif Nat.beq pc 5 then some (.bipush (34), 0) else none) else (bif Nat.beq pc 4 then some (.iload_n 2, 0) else none))) else (bif Nat.ble 2 pc then (bif Nat.ble 3 pc then (bif Nat.beq pc 3 then some (.istore_n 2, 0) else none) else (bif Nat.beq pc 2 then some (.iconst (1), 0) else none)) else (bif Nat.ble 1 pc then (bif Nat.beq pc 1 then some (.istore_n 1, 0) else none) else (bif Nat.beq pc 0 then some (.iconst (0), 0) else none)))))
def am_f3 (pc : Nat) : Option (Instr × Nat) := am_gd 35 pc (bif Nat.ble 18 pc then (bif Nat.ble 23 pc then (bif Nat.ble 30 pc then (bif Nat.ble 33 pc then (bif Nat.ble 34 pc then (bif Nat.beq pc 34 then some (.ireturn, 0) else none) else (bif Nat.beq pc 33 then some (.iconst (0), 0) else none)) else (bif Nat.beq pc 30 then some (.goto (4), 34) else none)) else (bif Nat.ble 26 pc then (bif Nat.ble 29 pc then (bif Nat.beq pc 29 then some (.iconst (1), 0) else none) else (bif Nat.beq pc 26 then some (.ifCond .eq (7), 33) else none)) else (bif Nat.beq pc 23 then some (.invokevirtual 36, 4) else none))) else (bif Nat.ble 20 pc then (bif Nat.ble 21 pc then (bif Nat.ble 22 pc then (bif Nat.beq pc 22 then some (.iload_n 1, 0) else none) else (bif Nat.beq pc 21 then some (.isub, 0) else none)) else (bif Nat.beq pc 20 then some (.iconst (1), 0) else none)) else (bif Nat.ble 19 pc then (bif Nat.beq pc 19 then some (.iload_n 2, 0) else none) else (bif Nat.beq pc 18 then some (.aload_n 0, 0) else none)))) else (bif Nat.ble 7 pc then (bif Nat.ble 11 pc then (bif Nat.ble 14 pc then (bif Nat.ble 15 pc then (bif Nat.beq pc 15 then some (.ifCond .le (18), 33) else none) else (bif Nat.beq pc 14 then some (.iload_n 2, 0) else none)) else (bif Nat.beq pc 11 then some (.ifCond .ne (18), 29) else none)) else (bif Nat.ble 8 pc then (bif Nat.beq pc 8 then some (.invokevirtual 36, 4) else none) else (bif Nat.beq pc 7 then some (.iload_n 1, 0) else none))) else (bif Nat.ble 4 pc then (bif Nat.ble 5 pc then (bif Nat.ble 6 pc then (bif Nat.beq pc 6 then some (.iload_n 2, 0) else none) else (bif Nat.beq pc 5 then some (.aload_n 0, 0) else none)) else (bif Nat.beq pc 4 then some (.istore_n 2, 0) else none)) else (bif Nat.ble 1 pc then (bif Nat.beq pc 1 then some (.invokestatic 33, 2) else none) else (bif Nat.beq pc 0 then some (.iload_n 1, 0) else none)))))
def am_f4 (pc : Nat) : Option (Instr × Nat) := am_gd 85 pc (bif Nat.ble 42 pc then (bif Nat.ble 64 pc then (bif Nat.ble 75 pc then (bif Nat.ble 80 pc then (bif Nat.ble 83 pc then (bif Nat.ble 84 pc then (bif Nat.beq pc 84 then some (.ireturn, 0) else none) else (bif Nat.beq pc 83 then some (.iconst (0), 0) else none)) else (bif Nat.beq pc 80 then some (.goto (-70), 10) else none)) else (bif Nat.ble 76 pc then (bif Nat.ble 77 pc then (bif Nat.beq pc 77 then some (.iinc 4 (1), 0) else none) else (bif Nat.beq pc 76 then some (.ireturn, 0) else none)) else (bif Nat.beq pc 75 then some (.iconst (1), 0) else none))) else (bif Nat.ble 70 pc then (bif Nat.ble 71 pc then (bif Nat.ble 72 pc then (bif Nat.beq pc 72 then some (.if_icmp .ge (5), 77) else none) else (bif Nat.beq pc 71 then some (.iadd, 0) else none)) else (bif Nat.beq pc 70 then some (.iaload, 0) else none)) else (bif Nat.ble 65 pc then (bif Nat.ble 68 pc then (bif Nat.beq pc 68 then some (.iload 4, 0) else none) else (bif Nat.beq pc 65 then some (.getfield 16, 2) else none)) else (bif Nat.beq pc 64 then some (.aload_n 0, 0) else none)))) else (bif Nat.ble 53 pc then (bif Nat.ble 58 pc then (bif Nat.ble 61 pc then (bif Nat.ble 63 pc then (bif Nat.beq pc 63 then some (.iaload, 0) else none) else (bif Nat.beq pc 61 then some (.iload 4, 0) else none)) else (bif Nat.beq pc 58 then some (.getfield 13, 1) else none)) else (bif Nat.ble 56 pc then (bif Nat.ble 57 pc then (bif Nat.beq pc 57 then some (.aload_n 0, 0) else none) else (bif Nat.beq pc 56 then some (.iload_n 3, 0) else none)) else (bif Nat.beq pc 53 then some (.if_icmp .lt (24), 77) else none))) else (bif Nat.ble 47 pc then (bif Nat.ble 50 pc then (bif Nat.ble 52 pc then (bif Nat.beq pc 52 then some (.iaload, 0) else none) else (bif Nat.beq pc 50 then some (.iload 4, 0) else none)) else (bif Nat.beq pc 47 then some (.getfield 13, 1) else none)) else (bif Nat.ble 45 pc then (bif Nat.ble 46 pc then (bif Nat.beq pc 46 then some (.aload_n 0, 0) else none) else (bif Nat.beq pc 45 then some (.iload_n 3, 0) else none)) else (bif Nat.beq pc 42 then some (.ifCond .eq (35), 77) else none))))) else (bif Nat.ble 20 pc then (bif Nat.ble 30 pc then (bif Nat.ble 37 pc then (bif Nat.ble 38 pc then (bif Nat.ble 40 pc then (bif Nat.beq pc 40 then some (.iload 5, 0) else none) else (bif Nat.beq pc 38 then some (.istore 5, 0) else none)) else (bif Nat.beq pc 37 then some (.iconst (0), 0) else none)) else (bif Nat.ble 33 pc then (bif Nat.ble 34 pc then (bif Nat.beq pc 34 then some (.goto (4), 38) else none) else (bif Nat.beq pc 33 then some (.iconst (1), 0) else none)) else (bif Nat.beq pc 30 then some (.if_icmp .ne (7), 37) else none))) else (bif Nat.ble 26 pc then (bif Nat.ble 27 pc then (bif Nat.ble 29 pc then (bif Nat.beq pc 29 then some (.irem, 0) else none) else (bif Nat.beq pc 27 then some (.bipush (12), 0) else none)) else (bif Nat.beq pc 26 then some (.iload_n 1, 0) else none)) else (bif Nat.ble 23 pc then (bif Nat.ble 25 pc then (bif Nat.beq pc 25 then some (.iaload, 0) else none) else (bif Nat.beq pc 23 then some (.iload 4, 0) else none)) else (bif Nat.beq pc 20 then some (.getfield 9, 0) else none)))) else (bif Nat.ble 8 pc then (bif Nat.ble 13 pc then (bif Nat.ble 16 pc then (bif Nat.ble 19 pc then (bif Nat.beq pc 19 then some (.aload_n 0, 0) else none) else (bif Nat.beq pc 16 then some (.if_icmp .ge (67), 83) else none)) else (bif Nat.beq pc 13 then some (.getfield 23, 3) else none)) else (bif Nat.ble 10 pc then (bif Nat.ble 12 pc then (bif Nat.beq pc 12 then some (.aload_n 0, 0) else none) else (bif Nat.beq pc 10 then some (.iload 4, 0) else none)) else (bif Nat.beq pc 8 then some (.istore 4, 0) else none))) else (bif Nat.ble 5 pc then (bif Nat.ble 6 pc then (bif Nat.ble 7 pc then (bif Nat.beq pc 7 then some (.iconst (0), 0) else none) else (bif Nat.beq pc 6 then some (.istore_n 3, 0) else none)) else (bif Nat.beq pc 5 then some (.isub, 0) else none)) else (bif Nat.ble 1 pc then (bif Nat.ble 2 pc then (bif Nat.beq pc 2 then some (.invokestatic 19, 1) else none) else (bif Nat.beq pc 1 then some (.iload_n 1, 0) else none)) else (bif Nat.beq pc 0 then some (.iload_n 2, 0) else none))))))
def am_f5 (pc : Nat) : Option (Instr × Nat) := am_gd 78 pc (bif Nat.ble 41 pc then (bif Nat.ble 60 pc then (bif Nat.ble 69 pc then (bif Nat.ble 73 pc then (bif Nat.ble 74 pc then (bif Nat.ble 77 pc then (bif Nat.beq pc 77 then some (.return_, 0) else none) else (bif Nat.beq pc 74 then some (.putfield 44, 105) else none)) else (bif Nat.beq pc 73 then some (.aload_n 2, 0) else none)) else (bif Nat.ble 72 pc then (bif Nat.beq pc 72 then some (.aload_n 0, 0) else none) else (bif Nat.beq pc 69 then some (.putfield 40, 104) else none))) else (bif Nat.ble 64 pc then (bif Nat.ble 67 pc then (bif Nat.ble 68 pc then (bif Nat.beq pc 68 then some (.aload_n 1, 0) else none) else (bif Nat.beq pc 67 then some (.aload_n 0, 0) else none)) else (bif Nat.beq pc 64 then some (.putfield 36, 107) else none)) else (bif Nat.ble 62 pc then (bif Nat.beq pc 62 then some (.newarray .int, 0) else none) else (bif Nat.beq pc 60 then some (.bipush (80), 0) else none)))) else (bif Nat.ble 49 pc then (bif Nat.ble 53 pc then (bif Nat.ble 56 pc then (bif Nat.ble 59 pc then (bif Nat.beq pc 59 then some (.aload_n 0, 0) else none) else (bif Nat.beq pc 56 then some (.putfield 30, 106) else none)) else (bif Nat.beq pc 53 then some (.invokespecial 29, 56) else none)) else (bif Nat.ble 52 pc then (bif Nat.beq pc 52 then some (.dup, 0) else none) else (bif Nat.beq pc 49 then some (.new 27, 7) else none))) else (bif Nat.ble 45 pc then (bif Nat.ble 48 pc then (bif Nat.beq pc 48 then some (.aload_n 0, 0) else none) else (bif Nat.beq pc 45 then some (.putfield 24, 103) else none)) else (bif Nat.ble 42 pc then (bif Nat.beq pc 42 then some (.invokespecial 11, 17) else none) else (bif Nat.beq pc 41 then some (.dup, 0) else none))))) else (bif Nat.ble 19 pc then (bif Nat.ble 30 pc then (bif Nat.ble 34 pc then (bif Nat.ble 37 pc then (bif Nat.ble 38 pc then (bif Nat.beq pc 38 then some (.new 9, 3) else none) else (bif Nat.beq pc 37 then some (.aload_n 0, 0) else none)) else (bif Nat.beq pc 34 then some (.putfield 21, 102) else none)) else (bif Nat.ble 31 pc then (bif Nat.beq pc 31 then some (.invokespecial 11, 17) else none) else (bif Nat.beq pc 30 then some (.dup, 0) else none))) else (bif Nat.ble 23 pc then (bif Nat.ble 26 pc then (bif Nat.ble 27 pc then (bif Nat.beq pc 27 then some (.new 9, 3) else none) else (bif Nat.beq pc 26 then some (.aload_n 0, 0) else none)) else (bif Nat.beq pc 23 then some (.putfield 18, 101) else none)) else (bif Nat.ble 20 pc then (bif Nat.beq pc 20 then some (.invokespecial 11, 17) else none) else (bif Nat.beq pc 19 then some (.dup, 0) else none)))) else (bif Nat.ble 8 pc then (bif Nat.ble 12 pc then (bif Nat.ble 15 pc then (bif Nat.ble 16 pc then (bif Nat.beq pc 16 then some (.new 9, 3) else none) else (bif Nat.beq pc 15 then some (.aload_n 0, 0) else none)) else (bif Nat.beq pc 12 then some (.putfield 12, 100) else none)) else (bif Nat.ble 9 pc then (bif Nat.beq pc 9 then some (.invokespecial 11, 17) else none) else (bif Nat.beq pc 8 then some (.dup, 0) else none))) else (bif Nat.ble 4 pc then (bif Nat.ble 5 pc then (bif Nat.beq pc 5 then some (.new 9, 3) else none) else (bif Nat.beq pc 4 then some (.aload_n 0, 0) else none)) else (bif Nat.ble 1 pc then (bif Nat.beq pc 1 then some (.invokespecial 3, 1000) else none) else (bif Nat.beq pc 0 then some (.aload_n 0, 0) else none))))))
def am_f6 (pc : Nat) : Option (Instr × Nat) := am_gd 36 pc (bif Nat.ble 19 pc then (bif Nat.ble 25 pc then (bif Nat.ble 31 pc then (bif Nat.ble 32 pc then (bif Nat.ble 35 pc then (bif Nat.beq pc 35 then some (.areturn, 0) else none) else (bif Nat.beq pc 32 then some (.getfield 18, 101) else none)) else (bif Nat.beq pc 31 then some (.aload_n 0, 0) else none)) else (bif Nat.ble 28 pc then (bif Nat.beq pc 28 then some (.goto (7), 35) else none) else (bif Nat.beq pc 25 then some (.getfield 24, 103) else none))) else (bif Nat.ble 21 pc then (bif Nat.ble 24 pc then (bif Nat.beq pc 24 then some (.aload_n 0, 0) else none) else (bif Nat.beq pc 21 then some (.ifCond .eq (10), 31) else none)) else (bif Nat.ble 20 pc then (bif Nat.beq pc 20 then some (.iload_n 2, 0) else none) else (bif Nat.beq pc 19 then some (.areturn, 0) else none)))) else (bif Nat.ble 8 pc then (bif Nat.ble 12 pc then (bif Nat.ble 15 pc then (bif Nat.ble 16 pc then (bif Nat.beq pc 16 then some (.getfield 12, 100) else none) else (bif Nat.beq pc 15 then some (.aload_n 0, 0) else none)) else (bif Nat.beq pc 12 then some (.goto (7), 19) else none)) else (bif Nat.ble 9 pc then (bif Nat.beq pc 9 then some (.getfield 21, 102) else none) else (bif Nat.beq pc 8 then some (.aload_n 0, 0) else none))) else (bif Nat.ble 4 pc then (bif Nat.ble 5 pc then (bif Nat.beq pc 5 then some (.ifCond .eq (10), 15) else none) else (bif Nat.beq pc 4 then some (.iload_n 2, 0) else none)) else (bif Nat.ble 1 pc then (bif Nat.beq pc 1 then some (.ifCond .ne (19), 20) else none) else (bif Nat.beq pc 0 then some (.iload_n 1, 0) else none)))))
def am_f7 (pc : Nat) : Option (Instr × Nat) := am_gd 38 pc (bif Nat.ble 19 pc then (bif Nat.ble 30 pc then (bif Nat.ble 33 pc then (bif Nat.ble 34 pc then (bif Nat.ble 37 pc then (bif Nat.beq pc 37 then some (.areturn, 0) else none) else (bif Nat.beq pc 34 then some (.invokevirtual 48, 6) else none)) else (bif Nat.beq pc 33 then some (.iconst (0), 0) else none)) else (bif Nat.ble 31 pc then (bif Nat.ble 32 pc then (bif Nat.beq pc 32 then some (.iload_n 1, 0) else none) else (bif Nat.beq pc 31 then some (.aload_n 0, 0) else none)) else (bif Nat.beq pc 30 then some (.areturn, 0) else none))) else (bif Nat.ble 23 pc then (bif Nat.ble 26 pc then (bif Nat.ble 29 pc then (bif Nat.beq pc 29 then some (.aload_n 3, 0) else none) else (bif Nat.beq pc 26 then some (.ifCond .eq (5), 31) else none)) else (bif Nat.beq pc 23 then some (.invokevirtual 56, 3) else none)) else (bif Nat.ble 22 pc then (bif Nat.beq pc 22 then some (.idiv, 0) else none) else (bif Nat.beq pc 19 then some (.sipush (1440), 0) else none)))) else (bif Nat.ble 7 pc then (bif Nat.ble 14 pc then (bif Nat.ble 15 pc then (bif Nat.ble 18 pc then (bif Nat.beq pc 18 then some (.iload_n 2, 0) else none) else (bif Nat.beq pc 15 then some (.getfield 44, 105) else none)) else (bif Nat.beq pc 14 then some (.aload_n 0, 0) else none)) else (bif Nat.ble 8 pc then (bif Nat.ble 11 pc then (bif Nat.beq pc 11 then some (.ifCond .le (20), 31) else none) else (bif Nat.beq pc 8 then some (.getfield 52, 305) else none)) else (bif Nat.beq pc 7 then some (.aload_n 3, 0) else none))) else (bif Nat.ble 2 pc then (bif Nat.ble 3 pc then (bif Nat.ble 6 pc then (bif Nat.beq pc 6 then some (.astore_n 3, 0) else none) else (bif Nat.beq pc 3 then some (.invokevirtual 48, 6) else none)) else (bif Nat.beq pc 2 then some (.iconst (1), 0) else none)) else (bif Nat.ble 1 pc then (bif Nat.beq pc 1 then some (.iload_n 1, 0) else none) else (bif Nat.beq pc 0 then some (.aload_n 0, 0) else none)))))
def am_f8 (pc : Nat) : Option (Instr × Nat) := am_gd 77 pc (bif Nat.ble 36 pc then (bif Nat.ble 56 pc then (bif Nat.ble 65 pc then (bif Nat.ble 70 pc then (bif Nat.ble 73 pc then (bif Nat.ble 76 pc then (bif Nat.beq pc 76 then some (.return_, 0) else none) else (bif Nat.beq pc 73 then some (.goto (-62), 11) else none)) else (bif Nat.beq pc 70 then some (.iinc 5 (1), 0) else none)) else (bif Nat.ble 67 pc then (bif Nat.beq pc 67 then some (.invokevirtual 82, 9) else none) else (bif Nat.beq pc 65 then some (.iload 6, 0) else none))) else (bif Nat.ble 62 pc then (bif Nat.ble 63 pc then (bif Nat.ble 64 pc then (bif Nat.beq pc 64 then some (.iload_n 2, 0) else none) else (bif Nat.beq pc 63 then some (.aload_n 1, 0) else none)) else (bif Nat.beq pc 62 then some (.aload_n 0, 0) else none)) else (bif Nat.ble 59 pc then (bif Nat.beq pc 59 then some (.ifCond .eq (11), 70) else none) else (bif Nat.beq pc 56 then some (.invokevirtual 78, 53) else none)))) else (bif Nat.ble 45 pc then (bif Nat.ble 49 pc then (bif Nat.ble 52 pc then (bif Nat.ble 54 pc then (bif Nat.beq pc 54 then some (.iload 4, 0) else none) else (bif Nat.beq pc 52 then some (.iload 6, 0) else none)) else (bif Nat.beq pc 49 then some (.getfield 40, 104) else none)) else (bif Nat.ble 48 pc then (bif Nat.beq pc 48 then some (.aload_n 0, 0) else none) else (bif Nat.beq pc 45 then some (.if_icmp .gt (25), 70) else none))) else (bif Nat.ble 41 pc then (bif Nat.ble 44 pc then (bif Nat.beq pc 44 then some (.iload_n 3, 0) else none) else (bif Nat.beq pc 41 then some (.invokevirtual 74, 52) else none)) else (bif Nat.ble 39 pc then (bif Nat.beq pc 39 then some (.iload 6, 0) else none) else (bif Nat.beq pc 36 then some (.getfield 40, 104) else none))))) else (bif Nat.ble 17 pc then (bif Nat.ble 27 pc then (bif Nat.ble 32 pc then (bif Nat.ble 33 pc then (bif Nat.ble 35 pc then (bif Nat.beq pc 35 then some (.aload_n 0, 0) else none) else (bif Nat.beq pc 33 then some (.istore 6, 0) else none)) else (bif Nat.beq pc 32 then some (.iaload, 0) else none)) else (bif Nat.ble 30 pc then (bif Nat.beq pc 30 then some (.iload 5, 0) else none) else (bif Nat.beq pc 27 then some (.getfield 71, 512) else none))) else (bif Nat.ble 23 pc then (bif Nat.ble 24 pc then (bif Nat.beq pc 24 then some (.getfield 40, 104) else none) else (bif Nat.beq pc 23 then some (.aload_n 0, 0) else none)) else (bif Nat.ble 20 pc then (bif Nat.beq pc 20 then some (.if_icmp .ge (56), 76) else none) else (bif Nat.beq pc 17 then some (.getfield 66, 513) else none)))) else (bif Nat.ble 8 pc then (bif Nat.ble 11 pc then (bif Nat.ble 13 pc then (bif Nat.ble 14 pc then (bif Nat.beq pc 14 then some (.getfield 40, 104) else none) else (bif Nat.beq pc 13 then some (.aload_n 0, 0) else none)) else (bif Nat.beq pc 11 then some (.iload 5, 0) else none)) else (bif Nat.ble 9 pc then (bif Nat.beq pc 9 then some (.istore 5, 0) else none) else (bif Nat.beq pc 8 then some (.iconst (0), 0) else none))) else (bif Nat.ble 2 pc then (bif Nat.ble 5 pc then (bif Nat.beq pc 5 then some (.invokevirtual 62, 57) else none) else (bif Nat.beq pc 2 then some (.getfield 40, 104) else none)) else (bif Nat.ble 1 pc then (bif Nat.beq pc 1 then some (.aload_n 0, 0) else none) else (bif Nat.beq pc 0 then some (.aload_n 1, 0) else none))))))
def am_f9 (pc : Nat) : Option (Instr × Nat) := am_gd 125 pc (bif Nat.ble 59 pc then (bif Nat.ble 90 pc then (bif Nat.ble 108 pc then (bif Nat.ble 115 pc then (bif Nat.ble 120 pc then (bif Nat.ble 121 pc then (bif Nat.ble 124 pc then (bif Nat.beq pc 124 then some (.return_, 0) else none) else (bif Nat.beq pc 121 then some (.invokevirtual 122, 11) else none)) else (bif Nat.beq pc 120 then some (.baload, 0) else none)) else (bif Nat.ble 118 pc then (bif Nat.beq pc 118 then some (.iload 4, 0) else none) else (bif Nat.beq pc 115 then some (.getfield 118, 505) else none))) else (bif Nat.ble 111 pc then (bif Nat.ble 112 pc then (bif Nat.beq pc 112 then some (.getfield 40, 104) else none) else (bif Nat.beq pc 111 then some (.aload_n 0, 0) else none)) else (bif Nat.ble 109 pc then (bif Nat.beq pc 109 then some (.iload 5, 0) else none) else (bif Nat.beq pc 108 then some (.iaload, 0) else none)))) else (bif Nat.ble 99 pc then (bif Nat.ble 103 pc then (bif Nat.ble 106 pc then (bif Nat.beq pc 106 then some (.iload 4, 0) else none) else (bif Nat.beq pc 103 then some (.getfield 115, 503) else none)) else (bif Nat.ble 100 pc then (bif Nat.beq pc 100 then some (.getfield 40, 104) else none) else (bif Nat.beq pc 99 then some (.aload_n 0, 0) else none))) else (bif Nat.ble 96 pc then (bif Nat.ble 98 pc then (bif Nat.beq pc 98 then some (.iaload, 0) else none) else (bif Nat.beq pc 96 then some (.iload 4, 0) else none)) else (bif Nat.ble 93 pc then (bif Nat.beq pc 93 then some (.getfield 112, 502) else none) else (bif Nat.beq pc 90 then some (.getfield 40, 104) else none))))) else (bif Nat.ble 73 pc then (bif Nat.ble 80 pc then (bif Nat.ble 86 pc then (bif Nat.ble 88 pc then (bif Nat.ble 89 pc then (bif Nat.beq pc 89 then some (.aload_n 0, 0) else none) else (bif Nat.beq pc 88 then some (.iaload, 0) else none)) else (bif Nat.beq pc 86 then some (.iload 4, 0) else none)) else (bif Nat.ble 83 pc then (bif Nat.beq pc 83 then some (.getfield 109, 501) else none) else (bif Nat.beq pc 80 then some (.getfield 40, 104) else none))) else (bif Nat.ble 76 pc then (bif Nat.ble 79 pc then (bif Nat.beq pc 79 then some (.aload_n 0, 0) else none) else (bif Nat.beq pc 76 then some (.invokevirtual 105, 7) else none)) else (bif Nat.ble 74 pc then (bif Nat.beq pc 74 then some (.iload 5, 0) else none) else (bif Nat.beq pc 73 then some (.iload_n 2, 0) else none)))) else (bif Nat.ble 68 pc then (bif Nat.ble 71 pc then (bif Nat.ble 72 pc then (bif Nat.beq pc 72 then some (.aload_n 0, 0) else none) else (bif Nat.beq pc 71 then some (.aload_n 1, 0) else none)) else (bif Nat.ble 70 pc then (bif Nat.beq pc 70 then some (.aload_n 0, 0) else none) else (bif Nat.beq pc 68 then some (.istore 5, 0) else none))) else (bif Nat.ble 65 pc then (bif Nat.ble 67 pc then (bif Nat.beq pc 67 then some (.iaload, 0) else none) else (bif Nat.beq pc 65 then some (.iload 4, 0) else none)) else (bif Nat.ble 62 pc then (bif Nat.beq pc 62 then some (.getfield 102, 504) else none) else (bif Nat.beq pc 59 then some (.getfield 40, 104) else none)))))) else (bif Nat.ble 32 pc then (bif Nat.ble 46 pc then (bif Nat.ble 52 pc then (bif Nat.ble 55 pc then (bif Nat.ble 56 pc then (bif Nat.ble 58 pc then (bif Nat.beq pc 58 then some (.aload_n 0, 0) else none) else (bif Nat.beq pc 56 then some (.istore 4, 0) else none)) else (bif Nat.beq pc 55 then some (.isub, 0) else none)) else (bif Nat.ble 53 pc then (bif Nat.beq pc 53 then some (.bipush (10), 0) else none) else (bif Nat.beq pc 52 then some (.iload_n 3, 0) else none))) else (bif Nat.ble 48 pc then (bif Nat.ble 51 pc then (bif Nat.beq pc 51 then some (.return_, 0) else none) else (bif Nat.beq pc 48 then some (.invokevirtual 98, 58) else none)) else (bif Nat.ble 47 pc then (bif Nat.beq pc 47 then some (.iaload, 0) else none) else (bif Nat.beq pc 46 then some (.iload_n 3, 0) else none)))) else (bif Nat.ble 38 pc then (bif Nat.ble 40 pc then (bif Nat.ble 43 pc then (bif Nat.beq pc 43 then some (.getfield 95, 510) else none) else (bif Nat.beq pc 40 then some (.getfield 40, 104) else none)) else (bif Nat.ble 39 pc then (bif Nat.beq pc 39 then some (.aload_n 0, 0) else none) else (bif Nat.beq pc 38 then some (.iconst (2), 0) else none))) else (bif Nat.ble 35 pc then (bif Nat.ble 36 pc then (bif Nat.beq pc 36 then some (.iload 4, 0) else none) else (bif Nat.beq pc 35 then some (.aload_n 1, 0) else none)) else (bif Nat.ble 33 pc then (bif Nat.beq pc 33 then some (.istore 4, 0) else none) else (bif Nat.beq pc 32 then some (.iadd, 0) else none))))) else (bif Nat.ble 18 pc then (bif Nat.ble 23 pc then (bif Nat.ble 27 pc then (bif Nat.ble 30 pc then (bif Nat.ble 31 pc then (bif Nat.beq pc 31 then some (.iaload, 0) else none) else (bif Nat.beq pc 30 then some (.iload_n 3, 0) else none)) else (bif Nat.beq pc 27 then some (.getfield 92, 509) else none)) else (bif Nat.ble 24 pc then (bif Nat.beq pc 24 then some (.getfield 40, 104) else none) else (bif Nat.beq pc 23 then some (.aload_n 0, 0) else none))) else (bif Nat.ble 20 pc then (bif Nat.ble 22 pc then (bif Nat.beq pc 22 then some (.imul, 0) else none) else (bif Nat.beq pc 20 then some (.bipush (8), 0) else none)) else (bif Nat.ble 19 pc then (bif Nat.beq pc 19 then some (.iaload, 0) else none) else (bif Nat.beq pc 18 then some (.iload_n 3, 0) else none)))) else (bif Nat.ble 8 pc then (bif Nat.ble 12 pc then (bif Nat.ble 15 pc then (bif Nat.beq pc 15 then some (.getfield 89, 508) else none) else (bif Nat.beq pc 12 then some (.getfield 40, 104) else none)) else (bif Nat.ble 11 pc then (bif Nat.beq pc 11 then some (.aload_n 0, 0) else none) else (bif Nat.beq pc 8 then some (.ifCond .eq (44), 52) else none))) else (bif Nat.ble 4 pc then (bif Nat.ble 5 pc then (bif Nat.beq pc 5 then some (.invokevirtual 86, 51) else none) else (bif Nat.beq pc 4 then some (.iload_n 3, 0) else none)) else (bif Nat.ble 1 pc then (bif Nat.beq pc 1 then some (.getfield 40, 104) else none) else (bif Nat.beq pc 0 then some (.aload_n 0, 0) else none)))))))
def am_f10 (pc : Nat) : Option (Instr × Nat) := am_gd 19 pc (bif Nat.ble 9 pc then (bif Nat.ble 12 pc then (bif Nat.ble 15 pc then (bif Nat.ble 18 pc then (bif Nat.beq pc 18 then some (.return_, 0) else none) else (bif Nat.beq pc 15 then some (.invokevirtual 122, 11) else none)) else (bif Nat.ble 14 pc then (bif Nat.beq pc 14 then some (.iconst (1), 0) else none) else (bif Nat.beq pc 12 then some (.iload 4, 0) else none))) else (bif Nat.ble 10 pc then (bif Nat.ble 11 pc then (bif Nat.beq pc 11 then some (.iconst (-1), 0) else none) else (bif Nat.beq pc 10 then some (.iload_n 3, 0) else none)) else (bif Nat.beq pc 9 then some (.iconst (2), 0) else none))) else (bif Nat.ble 3 pc then (bif Nat.ble 4 pc then (bif Nat.ble 6 pc then (bif Nat.beq pc 6 then some (.invokevirtual 105, 7) else none) else (bif Nat.beq pc 4 then some (.iload 4, 0) else none)) else (bif Nat.beq pc 3 then some (.iload_n 2, 0) else none)) else (bif Nat.ble 1 pc then (bif Nat.ble 2 pc then (bif Nat.beq pc 2 then some (.aload_n 0, 0) else none) else (bif Nat.beq pc 1 then some (.aload_n 1, 0) else none)) else (bif Nat.beq pc 0 then some (.aload_n 0, 0) else none))))
def am_f11 (pc : Nat) : Option (Instr × Nat) := am_gd 100 pc (bif Nat.ble 48 pc then (bif Nat.ble 74 pc then (bif Nat.ble 86 pc then (bif Nat.ble 91 pc then (bif Nat.ble 96 pc then (bif Nat.ble 99 pc then (bif Nat.beq pc 99 then some (.return_, 0) else none) else (bif Nat.beq pc 96 then some (.invokevirtual 134, 61) else none)) else (bif Nat.ble 94 pc then (bif Nat.beq pc 94 then some (.iload 5, 0) else none) else (bif Nat.beq pc 91 then some (.getfield 30, 106) else none))) else (bif Nat.ble 89 pc then (bif Nat.ble 90 pc then (bif Nat.beq pc 90 then some (.aload_n 0, 0) else none) else (bif Nat.beq pc 89 then some (.aload_n 1, 0) else none)) else (bif Nat.beq pc 86 then some (.ifCond .eq (13), 99) else none))) else (bif Nat.ble 79 pc then (bif Nat.ble 81 pc then (bif Nat.ble 84 pc then (bif Nat.beq pc 84 then some (.iload 8, 0) else none) else (bif Nat.beq pc 81 then some (.invokevirtual 134, 61) else none)) else (bif Nat.beq pc 79 then some (.iload 4, 0) else none)) else (bif Nat.ble 75 pc then (bif Nat.ble 76 pc then (bif Nat.beq pc 76 then some (.getfield 30, 106) else none) else (bif Nat.beq pc 75 then some (.aload_n 0, 0) else none)) else (bif Nat.beq pc 74 then some (.aload_n 1, 0) else none)))) else (bif Nat.ble 59 pc then (bif Nat.ble 64 pc then (bif Nat.ble 69 pc then (bif Nat.ble 71 pc then (bif Nat.beq pc 71 then some (.ifCond .ne (28), 99) else none) else (bif Nat.beq pc 69 then some (.iload 7, 0) else none)) else (bif Nat.ble 66 pc then (bif Nat.beq pc 66 then some (.invokevirtual 130, 12) else none) else (bif Nat.beq pc 64 then some (.iload 6, 0) else none))) else (bif Nat.ble 60 pc then (bif Nat.ble 62 pc then (bif Nat.beq pc 62 then some (.iload 4, 0) else none) else (bif Nat.beq pc 60 then some (.iload 5, 0) else none)) else (bif Nat.beq pc 59 then some (.iload_n 3, 0) else none))) else (bif Nat.ble 56 pc then (bif Nat.ble 57 pc then (bif Nat.ble 58 pc then (bif Nat.beq pc 58 then some (.aload_n 2, 0) else none) else (bif Nat.beq pc 57 then some (.aload_n 1, 0) else none)) else (bif Nat.beq pc 56 then some (.aload_n 0, 0) else none)) else (bif Nat.ble 51 pc then (bif Nat.ble 53 pc then (bif Nat.beq pc 53 then some (.ifCond .eq (16), 69) else none) else (bif Nat.beq pc 51 then some (.iload 8, 0) else none)) else (bif Nat.beq pc 48 then some (.invokevirtual 130, 12) else none))))) else (bif Nat.ble 25 pc then (bif Nat.ble 38 pc then (bif Nat.ble 41 pc then (bif Nat.ble 44 pc then (bif Nat.ble 46 pc then (bif Nat.beq pc 46 then some (.iload 6, 0) else none) else (bif Nat.beq pc 44 then some (.iload 5, 0) else none)) else (bif Nat.ble 42 pc then (bif Nat.beq pc 42 then some (.iload 4, 0) else none) else (bif Nat.beq pc 41 then some (.iload_n 3, 0) else none))) else (bif Nat.ble 39 pc then (bif Nat.ble 40 pc then (bif Nat.beq pc 40 then some (.aload_n 2, 0) else none) else (bif Nat.beq pc 39 then some (.aload_n 1, 0) else none)) else (bif Nat.beq pc 38 then some (.aload_n 0, 0) else none))) else (bif Nat.ble 32 pc then (bif Nat.ble 33 pc then (bif Nat.ble 35 pc then (bif Nat.beq pc 35 then some (.invokevirtual 126, 60) else none) else (bif Nat.beq pc 33 then some (.iload 5, 0) else none)) else (bif Nat.beq pc 32 then some (.aload_n 1, 0) else none)) else (bif Nat.ble 28 pc then (bif Nat.ble 29 pc then (bif Nat.beq pc 29 then some (.getfield 30, 106) else none) else (bif Nat.beq pc 28 then some (.aload_n 0, 0) else none)) else (bif Nat.beq pc 25 then some (.ifCond .eq (13), 38) else none)))) else (bif Nat.ble 11 pc then (bif Nat.ble 17 pc then (bif Nat.ble 20 pc then (bif Nat.ble 23 pc then (bif Nat.beq pc 23 then some (.iload 8, 0) else none) else (bif Nat.beq pc 20 then some (.invokevirtual 126, 60) else none)) else (bif Nat.ble 18 pc then (bif Nat.beq pc 18 then some (.iload 4, 0) else none) else (bif Nat.beq pc 17 then some (.aload_n 1, 0) else none))) else (bif Nat.ble 13 pc then (bif Nat.ble 14 pc then (bif Nat.beq pc 14 then some (.getfield 30, 106) else none) else (bif Nat.beq pc 13 then some (.aload_n 0, 0) else none)) else (bif Nat.beq pc 11 then some (.istore 8, 0) else none))) else (bif Nat.ble 6 pc then (bif Nat.ble 7 pc then (bif Nat.ble 10 pc then (bif Nat.beq pc 10 then some (.iconst (0), 0) else none) else (bif Nat.beq pc 7 then some (.goto (4), 11) else none)) else (bif Nat.beq pc 6 then some (.iconst (1), 0) else none)) else (bif Nat.ble 2 pc then (bif Nat.ble 3 pc then (bif Nat.beq pc 3 then some (.if_icmp .eq (7), 10) else none) else (bif Nat.beq pc 2 then some (.iconst (-1), 0) else none)) else (bif Nat.beq pc 0 then some (.iload 5, 0) else none))))))
def am_f12 (pc : Nat) : Option (Instr × Nat) := am_gd 78 pc (bif Nat.ble 39 pc then (bif Nat.ble 57 pc then (bif Nat.ble 67 pc then (bif Nat.ble 71 pc then (bif Nat.ble 74 pc then (bif Nat.ble 77 pc then (bif Nat.beq pc 77 then some (.return_, 0) else none) else (bif Nat.beq pc 74 then some (.goto (-71), 3) else none)) else (bif Nat.beq pc 71 then some (.iinc 7 (1), 0) else none)) else (bif Nat.ble 68 pc then (bif Nat.beq pc 68 then some (.invokevirtual 142, 13) else none) else (bif Nat.beq pc 67 then some (.iconst (0), 0) else none))) else (bif Nat.ble 60 pc then (bif Nat.ble 63 pc then (bif Nat.ble 64 pc then (bif Nat.beq pc 64 then some (.goto (4), 68) else none) else (bif Nat.beq pc 63 then some (.iconst (1), 0) else none)) else (bif Nat.beq pc 60 then some (.if_icmp .ne (7), 67) else none)) else (bif Nat.ble 59 pc then (bif Nat.beq pc 59 then some (.iconst (2), 0) else none) else (bif Nat.beq pc 57 then some (.iload 8, 0) else none)))) else (bif Nat.ble 48 pc then (bif Nat.ble 51 pc then (bif Nat.ble 53 pc then (bif Nat.ble 55 pc then (bif Nat.beq pc 55 then some (.iload 6, 0) else none) else (bif Nat.beq pc 53 then some (.iload 5, 0) else none)) else (bif Nat.beq pc 51 then some (.iload 4, 0) else none)) else (bif Nat.ble 49 pc then (bif Nat.beq pc 49 then some (.iload 7, 0) else none) else (bif Nat.beq pc 48 then some (.aload_n 2, 0) else none))) else (bif Nat.ble 43 pc then (bif Nat.ble 46 pc then (bif Nat.ble 47 pc then (bif Nat.beq pc 47 then some (.aload_n 1, 0) else none) else (bif Nat.beq pc 46 then some (.aload_n 0, 0) else none)) else (bif Nat.beq pc 43 then some (.ifCond .le (28), 71) else none)) else (bif Nat.ble 41 pc then (bif Nat.beq pc 41 then some (.iload 8, 0) else none) else (bif Nat.beq pc 39 then some (.istore 8, 0) else none))))) else (bif Nat.ble 19 pc then (bif Nat.ble 28 pc then (bif Nat.ble 32 pc then (bif Nat.ble 34 pc then (bif Nat.ble 36 pc then (bif Nat.beq pc 36 then some (.invokevirtual 138, 14) else none) else (bif Nat.beq pc 34 then some (.iload 6, 0) else none)) else (bif Nat.beq pc 32 then some (.iload 5, 0) else none)) else (bif Nat.ble 30 pc then (bif Nat.beq pc 30 then some (.iload 4, 0) else none) else (bif Nat.beq pc 28 then some (.iload 7, 0) else none))) else (bif Nat.ble 23 pc then (bif Nat.ble 26 pc then (bif Nat.ble 27 pc then (bif Nat.beq pc 27 then some (.aload_n 2, 0) else none) else (bif Nat.beq pc 26 then some (.aload_n 0, 0) else none)) else (bif Nat.beq pc 23 then some (.goto (48), 71) else none)) else (bif Nat.ble 20 pc then (bif Nat.beq pc 20 then some (.if_icmp .eq (6), 26) else none) else (bif Nat.beq pc 19 then some (.iload_n 3, 0) else none)))) else (bif Nat.ble 9 pc then (bif Nat.ble 13 pc then (bif Nat.ble 16 pc then (bif Nat.ble 18 pc then (bif Nat.beq pc 18 then some (.iaload, 0) else none) else (bif Nat.beq pc 16 then some (.iload 7, 0) else none)) else (bif Nat.beq pc 13 then some (.getfield 137, 300) else none)) else (bif Nat.ble 12 pc then (bif Nat.beq pc 12 then some (.aload_n 2, 0) else none) else (bif Nat.beq pc 9 then some (.if_icmp .ge (68), 77) else none))) else (bif Nat.ble 3 pc then (bif Nat.ble 5 pc then (bif Nat.ble 6 pc then (bif Nat.beq pc 6 then some (.getfield 52, 305) else none) else (bif Nat.beq pc 5 then some (.aload_n 2, 0) else none)) else (bif Nat.beq pc 3 then some (.iload 7, 0) else none)) else (bif Nat.ble 1 pc then (bif Nat.beq pc 1 then some (.istore 7, 0) else none) else (bif Nat.beq pc 0 then some (.iconst (0), 0) else none))))))
def am_f13 (pc : Nat) : Option (Instr × Nat) := am_gd 118 pc (bif Nat.ble 58 pc then (bif Nat.ble 86 pc then (bif Nat.ble 100 pc then (bif Nat.ble 108 pc then (bif Nat.ble 114 pc then (bif Nat.ble 117 pc then (bif Nat.beq pc 117 then some (.return_, 0) else none) else (bif Nat.beq pc 114 then some (.goto (-107), 7) else none)) else (bif Nat.ble 111 pc then (bif Nat.beq pc 111 then some (.iinc 8 (1), 0) else none) else (bif Nat.beq pc 108 then some (.invokevirtual 154, 59) else none))) else (bif Nat.ble 104 pc then (bif Nat.ble 106 pc then (bif Nat.beq pc 106 then some (.iload 6, 0) else none) else (bif Nat.beq pc 104 then some (.iload 6, 0) else none)) else (bif Nat.ble 102 pc then (bif Nat.beq pc 102 then some (.iload 12, 0) else none) else (bif Nat.beq pc 100 then some (.iload 11, 0) else none)))) else (bif Nat.ble 91 pc then (bif Nat.ble 96 pc then (bif Nat.ble 99 pc then (bif Nat.beq pc 99 then some (.aload_n 1, 0) else none) else (bif Nat.beq pc 96 then some (.goto (15), 111) else none)) else (bif Nat.ble 93 pc then (bif Nat.beq pc 93 then some (.invokevirtual 98, 58) else none) else (bif Nat.beq pc 91 then some (.iload 6, 0) else none))) else (bif Nat.ble 87 pc then (bif Nat.ble 89 pc then (bif Nat.beq pc 89 then some (.iload 12, 0) else none) else (bif Nat.beq pc 87 then some (.iload 11, 0) else none)) else (bif Nat.beq pc 86 then some (.aload_n 1, 0) else none)))) else (bif Nat.ble 70 pc then (bif Nat.ble 78 pc then (bif Nat.ble 81 pc then (bif Nat.ble 83 pc then (bif Nat.beq pc 83 then some (.ifCond .eq (16), 99) else none) else (bif Nat.beq pc 81 then some (.iload 7, 0) else none)) else (bif Nat.ble 79 pc then (bif Nat.beq pc 79 then some (.istore 12, 0) else none) else (bif Nat.beq pc 78 then some (.iconst (2), 0) else none))) else (bif Nat.ble 74 pc then (bif Nat.ble 75 pc then (bif Nat.beq pc 75 then some (.goto (4), 79) else none) else (bif Nat.beq pc 74 then some (.iconst (0), 0) else none)) else (bif Nat.ble 71 pc then (bif Nat.beq pc 71 then some (.ifCond .ne (7), 78) else none) else (bif Nat.beq pc 70 then some (.iand, 0) else none)))) else (bif Nat.ble 63 pc then (bif Nat.ble 66 pc then (bif Nat.ble 68 pc then (bif Nat.beq pc 68 then some (.bipush (16), 0) else none) else (bif Nat.beq pc 66 then some (.iload 9, 0) else none)) else (bif Nat.ble 64 pc then (bif Nat.beq pc 64 then some (.istore 11, 0) else none) else (bif Nat.beq pc 63 then some (.iadd, 0) else none))) else (bif Nat.ble 60 pc then (bif Nat.ble 62 pc then (bif Nat.beq pc 62 then some (.iand, 0) else none) else (bif Nat.beq pc 60 then some (.bipush (7), 0) else none)) else (bif Nat.beq pc 58 then some (.iload 9, 0) else none))))) else (bif Nat.ble 27 pc then (bif Nat.ble 42 pc then (bif Nat.ble 50 pc then (bif Nat.ble 55 pc then (bif Nat.ble 57 pc then (bif Nat.beq pc 57 then some (.imul, 0) else none) else (bif Nat.beq pc 55 then some (.bipush (8), 0) else none)) else (bif Nat.ble 53 pc then (bif Nat.beq pc 53 then some (.iload 10, 0) else none) else (bif Nat.beq pc 50 then some (.goto (61), 111) else none))) else (bif Nat.ble 46 pc then (bif Nat.ble 47 pc then (bif Nat.beq pc 47 then some (.if_icmp .ne (6), 53) else none) else (bif Nat.beq pc 46 then some (.iconst (-1), 0) else none)) else (bif Nat.ble 44 pc then (bif Nat.beq pc 44 then some (.iload 10, 0) else none) else (bif Nat.beq pc 42 then some (.istore 10, 0) else none)))) else (bif Nat.ble 32 pc then (bif Nat.ble 37 pc then (bif Nat.ble 40 pc then (bif Nat.beq pc 40 then some (.iload 5, 0) else none) else (bif Nat.beq pc 37 then some (.goto (5), 42) else none)) else (bif Nat.ble 35 pc then (bif Nat.beq pc 35 then some (.iload 4, 0) else none) else (bif Nat.beq pc 32 then some (.ifCond .ne (8), 40) else none))) else (bif Nat.ble 29 pc then (bif Nat.ble 31 pc then (bif Nat.beq pc 31 then some (.iand, 0) else none) else (bif Nat.beq pc 29 then some (.bipush (8), 0) else none)) else (bif Nat.beq pc 27 then some (.iload 9, 0) else none)))) else (bif Nat.ble 13 pc then (bif Nat.ble 19 pc then (bif Nat.ble 24 pc then (bif Nat.ble 25 pc then (bif Nat.beq pc 25 then some (.istore 9, 0) else none) else (bif Nat.beq pc 24 then some (.iaload, 0) else none)) else (bif Nat.ble 22 pc then (bif Nat.beq pc 22 then some (.iload 8, 0) else none) else (bif Nat.beq pc 19 then some (.getfield 151, 304) else none))) else (bif Nat.ble 15 pc then (bif Nat.ble 18 pc then (bif Nat.beq pc 18 then some (.aload_n 2, 0) else none) else (bif Nat.beq pc 15 then some (.if_icmp .ge (102), 117) else none)) else (bif Nat.ble 14 pc then (bif Nat.beq pc 14 then some (.iaload, 0) else none) else (bif Nat.beq pc 13 then some (.iload_n 3, 0) else none)))) else (bif Nat.ble 5 pc then (bif Nat.ble 9 pc then (bif Nat.ble 10 pc then (bif Nat.beq pc 10 then some (.getfield 148, 302) else none) else (bif Nat.beq pc 9 then some (.aload_n 2, 0) else none)) else (bif Nat.ble 7 pc then (bif Nat.beq pc 7 then some (.iload 8, 0) else none) else (bif Nat.beq pc 5 then some (.istore 8, 0) else none))) else (bif Nat.ble 1 pc then (bif Nat.ble 2 pc then (bif Nat.beq pc 2 then some (.invokevirtual 145, 24) else none) else (bif Nat.beq pc 1 then some (.iload_n 3, 0) else none)) else (bif Nat.beq pc 0 then some (.aload_n 2, 0) else none))))))
def am_f14 (pc : Nat) : Option (Instr × Nat) := am_gd 204 pc (bif Nat.ble 99 pc then (bif Nat.ble 148 pc then (bif Nat.ble 175 pc then (bif Nat.ble 193 pc then (bif Nat.ble 198 pc then (bif Nat.ble 202 pc then (bif Nat.ble 203 pc then (bif Nat.beq pc 203 then some (.ireturn, 0) else none) else (bif Nat.beq pc 202 then some (.iconst (0), 0) else none)) else (bif Nat.ble 199 pc then (bif Nat.beq pc 199 then some (.goto (4), 203) else none) else (bif Nat.beq pc 198 then some (.iaload, 0) else none))) else (bif Nat.ble 194 pc then (bif Nat.ble 197 pc then (bif Nat.beq pc 197 then some (.iconst (0), 0) else none) else (bif Nat.beq pc 194 then some (.getfield 36, 107) else none)) else (bif Nat.beq pc 193 then some (.aload_n 0, 0) else none))) else (bif Nat.ble 182 pc then (bif Nat.ble 188 pc then (bif Nat.ble 190 pc then (bif Nat.beq pc 190 then some (.ifCond .le (12), 202) else none) else (bif Nat.beq pc 188 then some (.iload 6, 0) else none)) else (bif Nat.ble 185 pc then (bif Nat.beq pc 185 then some (.goto (-175), 10) else none) else (bif Nat.beq pc 182 then some (.iinc 7 (1), 0) else none))) else (bif Nat.ble 178 pc then (bif Nat.ble 179 pc then (bif Nat.beq pc 179 then some (.iinc 6 (1), 0) else none) else (bif Nat.beq pc 178 then some (.iastore, 0) else none)) else (bif Nat.beq pc 175 then some (.invokevirtual 176, 15) else none)))) else (bif Nat.ble 162 pc then (bif Nat.ble 168 pc then (bif Nat.ble 171 pc then (bif Nat.ble 173 pc then (bif Nat.beq pc 173 then some (.iload 5, 0) else none) else (bif Nat.beq pc 171 then some (.iload 4, 0) else none)) else (bif Nat.ble 170 pc then (bif Nat.beq pc 170 then some (.iload_n 3, 0) else none) else (bif Nat.beq pc 168 then some (.iload 8, 0) else none))) else (bif Nat.ble 165 pc then (bif Nat.ble 167 pc then (bif Nat.beq pc 167 then some (.aload_n 0, 0) else none) else (bif Nat.beq pc 165 then some (.iload 6, 0) else none)) else (bif Nat.beq pc 162 then some (.getfield 36, 107) else none))) else (bif Nat.ble 154 pc then (bif Nat.ble 158 pc then (bif Nat.ble 161 pc then (bif Nat.beq pc 161 then some (.aload_n 0, 0) else none) else (bif Nat.beq pc 158 then some (.if_icmp .ge (24), 182) else none)) else (bif Nat.ble 157 pc then (bif Nat.beq pc 157 then some (.arraylength, 0) else none) else (bif Nat.beq pc 154 then some (.getfield 36, 107) else none))) else (bif Nat.ble 151 pc then (bif Nat.ble 153 pc then (bif Nat.beq pc 153 then some (.aload_n 0, 0) else none) else (bif Nat.beq pc 151 then some (.iload 6, 0) else none)) else (bif Nat.beq pc 148 then some (.goto (34), 182) else none))))) else (bif Nat.ble 122 pc then (bif Nat.ble 136 pc then (bif Nat.ble 141 pc then (bif Nat.ble 144 pc then (bif Nat.ble 147 pc then (bif Nat.beq pc 147 then some (.iastore, 0) else none) else (bif Nat.beq pc 144 then some (.invokestatic 173, 1001) else none)) else (bif Nat.ble 143 pc then (bif Nat.beq pc 143 then some (.iaload, 0) else none) else (bif Nat.beq pc 141 then some (.iload 6, 0) else none))) else (bif Nat.ble 137 pc then (bif Nat.ble 138 pc then (bif Nat.beq pc 138 then some (.getfield 36, 107) else none) else (bif Nat.beq pc 137 then some (.aload_n 0, 0) else none)) else (bif Nat.beq pc 136 then some (.iaload, 0) else none))) else (bif Nat.ble 129 pc then (bif Nat.ble 134 pc then (bif Nat.ble 135 pc then (bif Nat.beq pc 135 then some (.isub, 0) else none) else (bif Nat.beq pc 134 then some (.iconst (1), 0) else none)) else (bif Nat.ble 132 pc then (bif Nat.beq pc 132 then some (.iload 6, 0) else none) else (bif Nat.beq pc 129 then some (.getfield 36, 107) else none))) else (bif Nat.ble 125 pc then (bif Nat.ble 128 pc then (bif Nat.beq pc 128 then some (.aload_n 0, 0) else none) else (bif Nat.beq pc 125 then some (.goto (22), 147) else none)) else (bif Nat.beq pc 122 then some (.invokestatic 167, 1002) else none)))) else (bif Nat.ble 112 pc then (bif Nat.ble 115 pc then (bif Nat.ble 119 pc then (bif Nat.ble 121 pc then (bif Nat.beq pc 121 then some (.iaload, 0) else none) else (bif Nat.beq pc 119 then some (.iload 6, 0) else none)) else (bif Nat.ble 116 pc then (bif Nat.beq pc 116 then some (.getfield 36, 107) else none) else (bif Nat.beq pc 115 then some (.aload_n 0, 0) else none))) else (bif Nat.ble 113 pc then (bif Nat.ble 114 pc then (bif Nat.beq pc 114 then some (.iaload, 0) else none) else (bif Nat.beq pc 113 then some (.isub, 0) else none)) else (bif Nat.beq pc 112 then some (.iconst (1), 0) else none))) else (bif Nat.ble 103 pc then (bif Nat.ble 107 pc then (bif Nat.ble 110 pc then (bif Nat.beq pc 110 then some (.iload 6, 0) else none) else (bif Nat.beq pc 107 then some (.getfield 36, 107) else none)) else (bif Nat.ble 106 pc then (bif Nat.beq pc 106 then some (.aload_n 0, 0) else none) else (bif Nat.beq pc 103 then some (.if_icmp .ne (25), 128) else none))) else (bif Nat.ble 100 pc then (bif Nat.ble 102 pc then (bif Nat.beq pc 102 then some (.iconst (2), 0) else none) else (bif Nat.beq pc 100 then some (.iload 9, 0) else none)) else (bif Nat.beq pc 99 then some (.isub, 0) else none)))))) else (bif Nat.ble 49 pc then (bif Nat.ble 71 pc then (bif Nat.ble 85 pc then (bif Nat.ble 92 pc then (bif Nat.ble 96 pc then (bif Nat.ble 98 pc then (bif Nat.beq pc 98 then some (.iconst (1), 0) else none) else (bif Nat.beq pc 96 then some (.iload 6, 0) else none)) else (bif Nat.ble 93 pc then (bif Nat.beq pc 93 then some (.getfield 36, 107) else none) else (bif Nat.beq pc 92 then some (.aload_n 0, 0) else none))) else (bif Nat.ble 86 pc then (bif Nat.ble 89 pc then (bif Nat.beq pc 89 then some (.iinc 6 (-1), 0) else none) else (bif Nat.beq pc 86 then some (.if_icmp .le (96), 182) else none)) else (bif Nat.beq pc 85 then some (.iconst (1), 0) else none))) else (bif Nat.ble 77 pc then (bif Nat.ble 80 pc then (bif Nat.ble 83 pc then (bif Nat.beq pc 83 then some (.iload 6, 0) else none) else (bif Nat.beq pc 80 then some (.if_icmp .ne (71), 151) else none)) else (bif Nat.ble 79 pc then (bif Nat.beq pc 79 then some (.iconst (3), 0) else none) else (bif Nat.beq pc 77 then some (.iload 9, 0) else none))) else (bif Nat.ble 73 pc then (bif Nat.ble 74 pc then (bif Nat.beq pc 74 then some (.if_icmp .eq (9), 83) else none) else (bif Nat.beq pc 73 then some (.iconst (2), 0) else none)) else (bif Nat.beq pc 71 then some (.iload 9, 0) else none)))) else (bif Nat.ble 61 pc then (bif Nat.ble 65 pc then (bif Nat.ble 67 pc then (bif Nat.ble 68 pc then (bif Nat.beq pc 68 then some (.goto (114), 182) else none) else (bif Nat.beq pc 67 then some (.iastore, 0) else none)) else (bif Nat.ble 66 pc then (bif Nat.beq pc 66 then some (.isub, 0) else none) else (bif Nat.beq pc 65 then some (.iaload, 0) else none))) else (bif Nat.ble 63 pc then (bif Nat.ble 64 pc then (bif Nat.beq pc 64 then some (.isub, 0) else none) else (bif Nat.beq pc 63 then some (.iconst (1), 0) else none)) else (bif Nat.beq pc 61 then some (.iload 6, 0) else none))) else (bif Nat.ble 55 pc then (bif Nat.ble 57 pc then (bif Nat.ble 58 pc then (bif Nat.beq pc 58 then some (.getfield 36, 107) else none) else (bif Nat.beq pc 57 then some (.aload_n 0, 0) else none)) else (bif Nat.ble 56 pc then (bif Nat.beq pc 56 then some (.iconst (2), 0) else none) else (bif Nat.beq pc 55 then some (.isub, 0) else none))) else (bif Nat.ble 52 pc then (bif Nat.ble 54 pc then (bif Nat.beq pc 54 then some (.iconst (1), 0) else none) else (bif Nat.beq pc 52 then some (.iload 6, 0) else none)) else (bif Nat.beq pc 49 then some (.getfield 36, 107) else none))))) else (bif Nat.ble 22 pc then (bif Nat.ble 35 pc then (bif Nat.ble 40 pc then (bif Nat.ble 45 pc then (bif Nat.ble 48 pc then (bif Nat.beq pc 48 then some (.aload_n 0, 0) else none) else (bif Nat.beq pc 45 then some (.ifCond .le (137), 182) else none)) else (bif Nat.ble 43 pc then (bif Nat.beq pc 43 then some (.iload 6, 0) else none) else (bif Nat.beq pc 40 then some (.if_icmp .ne (31), 71) else none))) else (bif Nat.ble 37 pc then (bif Nat.ble 39 pc then (bif Nat.beq pc 39 then some (.iconst (1), 0) else none) else (bif Nat.beq pc 37 then some (.iload 9, 0) else none)) else (bif Nat.beq pc 35 then some (.istore 9, 0) else none))) else (bif Nat.ble 28 pc then (bif Nat.ble 32 pc then (bif Nat.ble 34 pc then (bif Nat.beq pc 34 then some (.iand, 0) else none) else (bif Nat.beq pc 32 then some (.bipush (7), 0) else none)) else (bif Nat.ble 30 pc then (bif Nat.beq pc 30 then some (.iload 8, 0) else none) else (bif Nat.beq pc 28 then some (.istore 8, 0) else none))) else (bif Nat.ble 25 pc then (bif Nat.ble 27 pc then (bif Nat.beq pc 27 then some (.iaload, 0) else none) else (bif Nat.beq pc 25 then some (.iload 7, 0) else none)) else (bif Nat.beq pc 22 then some (.getfield 164, 303) else none)))) else (bif Nat.ble 10 pc then (bif Nat.ble 16 pc then (bif Nat.ble 18 pc then (bif Nat.ble 21 pc then (bif Nat.beq pc 21 then some (.aload_n 1, 0) else none) else (bif Nat.beq pc 18 then some (.if_icmp .ge (170), 188) else none)) else (bif Nat.ble 17 pc then (bif Nat.beq pc 17 then some (.iaload, 0) else none) else (bif Nat.beq pc 16 then some (.iload_n 2, 0) else none))) else (bif Nat.ble 12 pc then (bif Nat.ble 13 pc then (bif Nat.beq pc 13 then some (.getfield 161, 301) else none) else (bif Nat.beq pc 12 then some (.aload_n 1, 0) else none)) else (bif Nat.beq pc 10 then some (.iload 7, 0) else none))) else (bif Nat.ble 4 pc then (bif Nat.ble 5 pc then (bif Nat.ble 8 pc then (bif Nat.beq pc 8 then some (.istore 7, 0) else none) else (bif Nat.beq pc 5 then some (.invokevirtual 158, 23) else none)) else (bif Nat.beq pc 4 then some (.iload_n 2, 0) else none)) else (bif Nat.ble 1 pc then (bif Nat.ble 3 pc then (bif Nat.beq pc 3 then some (.aload_n 1, 0) else none) else (bif Nat.beq pc 1 then some (.istore 6, 0) else none)) else (bif Nat.beq pc 0 then some (.iconst (0), 0) else none)))))))
def am_f15 (pc : Nat) : Option (Instr × Nat) := am_gd 131 pc (bif Nat.ble 63 pc then (bif Nat.ble 97 pc then (bif Nat.ble 112 pc then (bif Nat.ble 121 pc then (bif Nat.ble 126 pc then (bif Nat.ble 129 pc then (bif Nat.ble 130 pc then (bif Nat.beq pc 130 then some (.ireturn, 0) else none) else (bif Nat.beq pc 129 then some (.iconst (1), 0) else none)) else (bif Nat.beq pc 126 then some (.goto (4), 130) else none)) else (bif Nat.ble 124 pc then (bif Nat.beq pc 124 then some (.iload 9, 0) else none) else (bif Nat.beq pc 121 then some (.if_icmp .ge (8), 129) else none))) else (bif Nat.ble 117 pc then (bif Nat.ble 118 pc then (bif Nat.ble 119 pc then (bif Nat.beq pc 119 then some (.iload 10, 0) else none) else (bif Nat.beq pc 118 then some (.isub, 0) else none)) else (bif Nat.beq pc 117 then some (.iaload, 0) else none)) else (bif Nat.ble 115 pc then (bif Nat.beq pc 115 then some (.iload 8, 0) else none) else (bif Nat.beq pc 112 then some (.getfield 186, 701) else none)))) else (bif Nat.ble 104 pc then (bif Nat.ble 106 pc then (bif Nat.ble 108 pc then (bif Nat.ble 109 pc then (bif Nat.beq pc 109 then some (.getfield 30, 106) else none) else (bif Nat.beq pc 108 then some (.aload_n 0, 0) else none)) else (bif Nat.beq pc 106 then some (.iload 4, 0) else none)) else (bif Nat.ble 105 pc then (bif Nat.beq pc 105 then some (.ireturn, 0) else none) else (bif Nat.beq pc 104 then some (.iconst (0), 0) else none))) else (bif Nat.ble 99 pc then (bif Nat.ble 101 pc then (bif Nat.beq pc 101 then some (.if_icmp .lt (5), 106) else none) else (bif Nat.beq pc 99 then some (.iload 10, 0) else none)) else (bif Nat.ble 98 pc then (bif Nat.beq pc 98 then some (.isub, 0) else none) else (bif Nat.beq pc 97 then some (.iaload, 0) else none))))) else (bif Nat.ble 80 pc then (bif Nat.ble 86 pc then (bif Nat.ble 89 pc then (bif Nat.ble 92 pc then (bif Nat.ble 95 pc then (bif Nat.beq pc 95 then some (.iload 8, 0) else none) else (bif Nat.beq pc 92 then some (.getfield 183, 702) else none)) else (bif Nat.beq pc 89 then some (.getfield 30, 106) else none)) else (bif Nat.ble 88 pc then (bif Nat.beq pc 88 then some (.aload_n 0, 0) else none) else (bif Nat.beq pc 86 then some (.iload 4, 0) else none))) else (bif Nat.ble 83 pc then (bif Nat.ble 84 pc then (bif Nat.beq pc 84 then some (.istore 10, 0) else none) else (bif Nat.beq pc 83 then some (.ishr, 0) else none)) else (bif Nat.ble 81 pc then (bif Nat.beq pc 81 then some (.bipush (7), 0) else none) else (bif Nat.beq pc 80 then some (.iload_n 1, 0) else none)))) else (bif Nat.ble 69 pc then (bif Nat.ble 74 pc then (bif Nat.ble 77 pc then (bif Nat.ble 79 pc then (bif Nat.beq pc 79 then some (.ireturn, 0) else none) else (bif Nat.beq pc 77 then some (.iload 9, 0) else none)) else (bif Nat.beq pc 74 then some (.ifCond .ne (6), 80) else none)) else (bif Nat.ble 72 pc then (bif Nat.beq pc 72 then some (.iload 9, 0) else none) else (bif Nat.beq pc 69 then some (.if_icmp .eq (8), 77) else none))) else (bif Nat.ble 66 pc then (bif Nat.ble 68 pc then (bif Nat.beq pc 68 then some (.iconst (4), 0) else none) else (bif Nat.beq pc 66 then some (.iload 5, 0) else none)) else (bif Nat.ble 64 pc then (bif Nat.beq pc 64 then some (.istore 9, 0) else none) else (bif Nat.beq pc 63 then some (.iaload, 0) else none)))))) else (bif Nat.ble 30 pc then (bif Nat.ble 45 pc then (bif Nat.ble 52 pc then (bif Nat.ble 55 pc then (bif Nat.ble 58 pc then (bif Nat.ble 61 pc then (bif Nat.beq pc 61 then some (.iload 8, 0) else none) else (bif Nat.beq pc 58 then some (.getfield 180, 700) else none)) else (bif Nat.beq pc 55 then some (.getfield 30, 106) else none)) else (bif Nat.ble 54 pc then (bif Nat.beq pc 54 then some (.aload_n 0, 0) else none) else (bif Nat.beq pc 52 then some (.istore 8, 0) else none))) else (bif Nat.ble 48 pc then (bif Nat.ble 50 pc then (bif Nat.ble 51 pc then (bif Nat.beq pc 51 then some (.iadd, 0) else none) else (bif Nat.beq pc 50 then some (.iand, 0) else none)) else (bif Nat.beq pc 48 then some (.bipush (7), 0) else none)) else (bif Nat.ble 46 pc then (bif Nat.beq pc 46 then some (.iload 6, 0) else none) else (bif Nat.beq pc 45 then some (.imul, 0) else none)))) else (bif Nat.ble 36 pc then (bif Nat.ble 40 pc then (bif Nat.ble 41 pc then (bif Nat.ble 43 pc then (bif Nat.beq pc 43 then some (.bipush (8), 0) else none) else (bif Nat.beq pc 41 then some (.iload 7, 0) else none)) else (bif Nat.beq pc 40 then some (.ireturn, 0) else none)) else (bif Nat.ble 39 pc then (bif Nat.beq pc 39 then some (.iconst (0), 0) else none) else (bif Nat.beq pc 36 then some (.if_icmp .ne (5), 41) else none))) else (bif Nat.ble 33 pc then (bif Nat.ble 35 pc then (bif Nat.beq pc 35 then some (.iconst (-1), 0) else none) else (bif Nat.beq pc 33 then some (.iload 7, 0) else none)) else (bif Nat.ble 31 pc then (bif Nat.beq pc 31 then some (.istore 7, 0) else none) else (bif Nat.beq pc 30 then some (.iload_n 3, 0) else none))))) else (bif Nat.ble 14 pc then (bif Nat.ble 20 pc then (bif Nat.ble 23 pc then (bif Nat.ble 26 pc then (bif Nat.ble 27 pc then (bif Nat.beq pc 27 then some (.goto (4), 31) else none) else (bif Nat.beq pc 26 then some (.iload_n 2, 0) else none)) else (bif Nat.beq pc 23 then some (.ifCond .ne (7), 30) else none)) else (bif Nat.ble 22 pc then (bif Nat.beq pc 22 then some (.iand, 0) else none) else (bif Nat.beq pc 20 then some (.bipush (8), 0) else none))) else (bif Nat.ble 16 pc then (bif Nat.ble 18 pc then (bif Nat.beq pc 18 then some (.iload 6, 0) else none) else (bif Nat.beq pc 16 then some (.istore 6, 0) else none)) else (bif Nat.ble 15 pc then (bif Nat.beq pc 15 then some (.ishr, 0) else none) else (bif Nat.beq pc 14 then some (.iconst (3), 0) else none)))) else (bif Nat.ble 6 pc then (bif Nat.ble 11 pc then (bif Nat.ble 12 pc then (bif Nat.ble 13 pc then (bif Nat.beq pc 13 then some (.iload_n 1, 0) else none) else (bif Nat.beq pc 12 then some (.ireturn, 0) else none)) else (bif Nat.beq pc 11 then some (.iconst (2), 0) else none)) else (bif Nat.ble 8 pc then (bif Nat.beq pc 8 then some (.ifCond .ne (5), 13) else none) else (bif Nat.beq pc 6 then some (.iload 5, 0) else none))) else (bif Nat.ble 3 pc then (bif Nat.ble 4 pc then (bif Nat.beq pc 4 then some (.istore 5, 0) else none) else (bif Nat.beq pc 3 then some (.iand, 0) else none)) else (bif Nat.ble 1 pc then (bif Nat.beq pc 1 then some (.bipush (7), 0) else none) else (bif Nat.beq pc 0 then some (.iload_n 1, 0) else none)))))))
def am_f16 (pc : Nat) : Option (Instr × Nat) := am_gd 62 pc (bif Nat.ble 29 pc then (bif Nat.ble 45 pc then (bif Nat.ble 54 pc then (bif Nat.ble 58 pc then (bif Nat.ble 61 pc then (bif Nat.beq pc 61 then some (.return_, 0) else none) else (bif Nat.beq pc 58 then some (.putfield 31, 206) else none)) else (bif Nat.ble 56 pc then (bif Nat.beq pc 56 then some (.newarray .int, 0) else none) else (bif Nat.beq pc 54 then some (.bipush (8), 0) else none))) else (bif Nat.ble 50 pc then (bif Nat.ble 53 pc then (bif Nat.beq pc 53 then some (.aload_n 0, 0) else none) else (bif Nat.beq pc 50 then some (.putfield 28, 205) else none)) else (bif Nat.ble 48 pc then (bif Nat.beq pc 48 then some (.newarray .int, 0) else none) else (bif Nat.beq pc 45 then some (.sipush (2048), 0) else none)))) else (bif Nat.ble 37 pc then (bif Nat.ble 41 pc then (bif Nat.ble 44 pc then (bif Nat.beq pc 44 then some (.aload_n 0, 0) else none) else (bif Nat.beq pc 41 then some (.putfield 24, 204) else none)) else (bif Nat.ble 39 pc then (bif Nat.beq pc 39 then some (.newarray .boolean, 0) else none) else (bif Nat.beq pc 37 then some (.bipush (16), 0) else none))) else (bif Nat.ble 33 pc then (bif Nat.ble 36 pc then (bif Nat.beq pc 36 then some (.aload_n 0, 0) else none) else (bif Nat.beq pc 33 then some (.putfield 21, 203) else none)) else (bif Nat.ble 31 pc then (bif Nat.beq pc 31 then some (.newarray .int, 0) else none) else (bif Nat.beq pc 29 then some (.bipush (8), 0) else none))))) else (bif Nat.ble 13 pc then (bif Nat.ble 21 pc then (bif Nat.ble 25 pc then (bif Nat.ble 28 pc then (bif Nat.beq pc 28 then some (.aload_n 0, 0) else none) else (bif Nat.beq pc 25 then some (.putfield 18, 202) else none)) else (bif Nat.ble 23 pc then (bif Nat.beq pc 23 then some (.newarray .int, 0) else none) else (bif Nat.beq pc 21 then some (.bipush (8), 0) else none))) else (bif Nat.ble 17 pc then (bif Nat.ble 20 pc then (bif Nat.beq pc 20 then some (.aload_n 0, 0) else none) else (bif Nat.beq pc 17 then some (.putfield 15, 201) else none)) else (bif Nat.ble 15 pc then (bif Nat.beq pc 15 then some (.newarray .int, 0) else none) else (bif Nat.beq pc 13 then some (.bipush (8), 0) else none)))) else (bif Nat.ble 5 pc then (bif Nat.ble 9 pc then (bif Nat.ble 12 pc then (bif Nat.beq pc 12 then some (.aload_n 0, 0) else none) else (bif Nat.beq pc 9 then some (.putfield 9, 200) else none)) else (bif Nat.ble 7 pc then (bif Nat.beq pc 7 then some (.newarray .int, 0) else none) else (bif Nat.beq pc 5 then some (.bipush (8), 0) else none))) else (bif Nat.ble 1 pc then (bif Nat.ble 4 pc then (bif Nat.beq pc 4 then some (.aload_n 0, 0) else none) else (bif Nat.beq pc 1 then some (.invokespecial 3, 1000) else none)) else (bif Nat.beq pc 0 then some (.aload_n 0, 0) else none)))))
def am_f17 (pc : Nat) : Option (Instr × Nat) := am_gd 46 pc (bif Nat.ble 21 pc then (bif Nat.ble 34 pc then (bif Nat.ble 40 pc then (bif Nat.ble 42 pc then (bif Nat.ble 45 pc then (bif Nat.beq pc 45 then some (.return_, 0) else none) else (bif Nat.beq pc 42 then some (.putfield 22, 304) else none)) else (bif Nat.beq pc 40 then some (.newarray .int, 0) else none)) else (bif Nat.ble 37 pc then (bif Nat.ble 38 pc then (bif Nat.beq pc 38 then some (.bipush (96), 0) else none) else (bif Nat.beq pc 37 then some (.aload_n 0, 0) else none)) else (bif Nat.beq pc 34 then some (.putfield 19, 303) else none))) else (bif Nat.ble 28 pc then (bif Nat.ble 29 pc then (bif Nat.ble 32 pc then (bif Nat.beq pc 32 then some (.newarray .int, 0) else none) else (bif Nat.beq pc 29 then some (.sipush (240), 0) else none)) else (bif Nat.beq pc 28 then some (.aload_n 0, 0) else none)) else (bif Nat.ble 23 pc then (bif Nat.ble 25 pc then (bif Nat.beq pc 25 then some (.putfield 16, 302) else none) else (bif Nat.beq pc 23 then some (.newarray .int, 0) else none)) else (bif Nat.beq pc 21 then some (.bipush (24), 0) else none)))) else (bif Nat.ble 9 pc then (bif Nat.ble 15 pc then (bif Nat.ble 17 pc then (bif Nat.ble 20 pc then (bif Nat.beq pc 20 then some (.aload_n 0, 0) else none) else (bif Nat.beq pc 17 then some (.putfield 13, 301) else none)) else (bif Nat.beq pc 15 then some (.newarray .int, 0) else none)) else (bif Nat.ble 12 pc then (bif Nat.ble 13 pc then (bif Nat.beq pc 13 then some (.bipush (24), 0) else none) else (bif Nat.beq pc 12 then some (.aload_n 0, 0) else none)) else (bif Nat.beq pc 9 then some (.putfield 9, 300) else none))) else (bif Nat.ble 4 pc then (bif Nat.ble 5 pc then (bif Nat.ble 7 pc then (bif Nat.beq pc 7 then some (.newarray .int, 0) else none) else (bif Nat.beq pc 5 then some (.bipush (24), 0) else none)) else (bif Nat.beq pc 4 then some (.aload_n 0, 0) else none)) else (bif Nat.ble 1 pc then (bif Nat.beq pc 1 then some (.invokespecial 1, 1000) else none) else (bif Nat.beq pc 0 then some (.aload_n 0, 0) else none)))))
def am_f18 (pc : Nat) : Option (Instr × Nat) := am_gd 16 pc (bif Nat.ble 7 pc then (bif Nat.ble 11 pc then (bif Nat.ble 12 pc then (bif Nat.ble 15 pc then (bif Nat.beq pc 15 then some (.return_, 0) else none) else (bif Nat.beq pc 12 then some (.putfield 32, 307) else none)) else (bif Nat.beq pc 11 then some (.iconst (0), 0) else none)) else (bif Nat.ble 10 pc then (bif Nat.beq pc 10 then some (.aload_n 0, 0) else none) else (bif Nat.beq pc 7 then some (.putfield 29, 306) else none))) else (bif Nat.ble 2 pc then (bif Nat.ble 5 pc then (bif Nat.ble 6 pc then (bif Nat.beq pc 6 then some (.iconst (0), 0) else none) else (bif Nat.beq pc 5 then some (.aload_n 0, 0) else none)) else (bif Nat.beq pc 2 then some (.putfield 25, 305) else none)) else (bif Nat.ble 1 pc then (bif Nat.beq pc 1 then some (.iconst (0), 0) else none) else (bif Nat.beq pc 0 then some (.aload_n 0, 0) else none))))
def am_f19 (pc : Nat) : Option (Instr × Nat) := am_gd 115 pc (bif Nat.ble 55 pc then (bif Nat.ble 83 pc then (bif Nat.ble 99 pc then (bif Nat.ble 107 pc then (bif Nat.ble 111 pc then (bif Nat.ble 114 pc then (bif Nat.beq pc 114 then some (.return_, 0) else none) else (bif Nat.beq pc 111 then some (.putfield 32, 307) else none)) else (bif Nat.ble 108 pc then (bif Nat.beq pc 108 then some (.getfield 32, 307) else none) else (bif Nat.beq pc 107 then some (.aload_n 1, 0) else none))) else (bif Nat.ble 103 pc then (bif Nat.ble 106 pc then (bif Nat.beq pc 106 then some (.aload_n 0, 0) else none) else (bif Nat.beq pc 103 then some (.putfield 29, 306) else none)) else (bif Nat.ble 100 pc then (bif Nat.beq pc 100 then some (.getfield 29, 306) else none) else (bif Nat.beq pc 99 then some (.aload_n 1, 0) else none)))) else (bif Nat.ble 91 pc then (bif Nat.ble 95 pc then (bif Nat.ble 98 pc then (bif Nat.beq pc 98 then some (.aload_n 0, 0) else none) else (bif Nat.beq pc 95 then some (.putfield 25, 305) else none)) else (bif Nat.ble 92 pc then (bif Nat.beq pc 92 then some (.getfield 25, 305) else none) else (bif Nat.beq pc 91 then some (.aload_n 1, 0) else none))) else (bif Nat.ble 87 pc then (bif Nat.ble 90 pc then (bif Nat.beq pc 90 then some (.aload_n 0, 0) else none) else (bif Nat.beq pc 87 then some (.invokestatic 35, 1004) else none)) else (bif Nat.ble 86 pc then (bif Nat.beq pc 86 then some (.arraylength, 0) else none) else (bif Nat.beq pc 83 then some (.getfield 22, 304) else none))))) else (bif Nat.ble 69 pc then (bif Nat.ble 77 pc then (bif Nat.ble 81 pc then (bif Nat.ble 82 pc then (bif Nat.beq pc 82 then some (.aload_n 0, 0) else none) else (bif Nat.beq pc 81 then some (.iconst (0), 0) else none)) else (bif Nat.ble 78 pc then (bif Nat.beq pc 78 then some (.getfield 22, 304) else none) else (bif Nat.beq pc 77 then some (.aload_n 0, 0) else none))) else (bif Nat.ble 73 pc then (bif Nat.ble 76 pc then (bif Nat.beq pc 76 then some (.iconst (0), 0) else none) else (bif Nat.beq pc 73 then some (.getfield 22, 304) else none)) else (bif Nat.ble 72 pc then (bif Nat.beq pc 72 then some (.aload_n 1, 0) else none) else (bif Nat.beq pc 69 then some (.invokestatic 35, 1004) else none)))) else (bif Nat.ble 63 pc then (bif Nat.ble 65 pc then (bif Nat.ble 68 pc then (bif Nat.beq pc 68 then some (.arraylength, 0) else none) else (bif Nat.beq pc 65 then some (.getfield 19, 303) else none)) else (bif Nat.ble 64 pc then (bif Nat.beq pc 64 then some (.aload_n 0, 0) else none) else (bif Nat.beq pc 63 then some (.iconst (0), 0) else none))) else (bif Nat.ble 59 pc then (bif Nat.ble 60 pc then (bif Nat.beq pc 60 then some (.getfield 19, 303) else none) else (bif Nat.beq pc 59 then some (.aload_n 0, 0) else none)) else (bif Nat.ble 58 pc then (bif Nat.beq pc 58 then some (.iconst (0), 0) else none) else (bif Nat.beq pc 55 then some (.getfield 19, 303) else none)))))) else (bif Nat.ble 27 pc then (bif Nat.ble 41 pc then (bif Nat.ble 47 pc then (bif Nat.ble 51 pc then (bif Nat.ble 54 pc then (bif Nat.beq pc 54 then some (.aload_n 1, 0) else none) else (bif Nat.beq pc 51 then some (.invokestatic 35, 1004) else none)) else (bif Nat.ble 50 pc then (bif Nat.beq pc 50 then some (.arraylength, 0) else none) else (bif Nat.beq pc 47 then some (.getfield 16, 302) else none))) else (bif Nat.ble 45 pc then (bif Nat.ble 46 pc then (bif Nat.beq pc 46 then some (.aload_n 0, 0) else none) else (bif Nat.beq pc 45 then some (.iconst (0), 0) else none)) else (bif Nat.ble 42 pc then (bif Nat.beq pc 42 then some (.getfield 16, 302) else none) else (bif Nat.beq pc 41 then some (.aload_n 0, 0) else none)))) else (bif Nat.ble 33 pc then (bif Nat.ble 37 pc then (bif Nat.ble 40 pc then (bif Nat.beq pc 40 then some (.iconst (0), 0) else none) else (bif Nat.beq pc 37 then some (.getfield 16, 302) else none)) else (bif Nat.ble 36 pc then (bif Nat.beq pc 36 then some (.aload_n 1, 0) else none) else (bif Nat.beq pc 33 then some (.invokestatic 35, 1004) else none))) else (bif Nat.ble 29 pc then (bif Nat.ble 32 pc then (bif Nat.beq pc 32 then some (.arraylength, 0) else none) else (bif Nat.beq pc 29 then some (.getfield 13, 301) else none)) else (bif Nat.ble 28 pc then (bif Nat.beq pc 28 then some (.aload_n 0, 0) else none) else (bif Nat.beq pc 27 then some (.iconst (0), 0) else none))))) else (bif Nat.ble 11 pc then (bif Nat.ble 19 pc then (bif Nat.ble 23 pc then (bif Nat.ble 24 pc then (bif Nat.beq pc 24 then some (.getfield 13, 301) else none) else (bif Nat.beq pc 23 then some (.aload_n 0, 0) else none)) else (bif Nat.ble 22 pc then (bif Nat.beq pc 22 then some (.iconst (0), 0) else none) else (bif Nat.beq pc 19 then some (.getfield 13, 301) else none))) else (bif Nat.ble 15 pc then (bif Nat.ble 18 pc then (bif Nat.beq pc 18 then some (.aload_n 1, 0) else none) else (bif Nat.beq pc 15 then some (.invokestatic 35, 1004) else none)) else (bif Nat.ble 14 pc then (bif Nat.beq pc 14 then some (.arraylength, 0) else none) else (bif Nat.beq pc 11 then some (.getfield 9, 300) else none)))) else (bif Nat.ble 5 pc then (bif Nat.ble 9 pc then (bif Nat.ble 10 pc then (bif Nat.beq pc 10 then some (.aload_n 0, 0) else none) else (bif Nat.beq pc 9 then some (.iconst (0), 0) else none)) else (bif Nat.ble 6 pc then (bif Nat.beq pc 6 then some (.getfield 9, 300) else none) else (bif Nat.beq pc 5 then some (.aload_n 0, 0) else none))) else (bif Nat.ble 1 pc then (bif Nat.ble 4 pc then (bif Nat.beq pc 4 then some (.iconst (0), 0) else none) else (bif Nat.beq pc 1 then some (.getfield 9, 300) else none)) else (bif Nat.beq pc 0 then some (.aload_n 1, 0) else none))))))
def am_f20 (pc : Nat) : Option (Instr × Nat) := am_gd 42 pc (bif Nat.ble 23 pc then (bif Nat.ble 31 pc then (bif Nat.ble 36 pc then (bif Nat.ble 38 pc then (bif Nat.ble 41 pc then (bif Nat.beq pc 41 then some (.return_, 0) else none) else (bif Nat.beq pc 38 then some (.putfield 29, 306) else none)) else (bif Nat.ble 37 pc then (bif Nat.beq pc 37 then some (.iadd, 0) else none) else (bif Nat.beq pc 36 then some (.iconst (1), 0) else none))) else (bif Nat.ble 32 pc then (bif Nat.ble 33 pc then (bif Nat.beq pc 33 then some (.getfield 29, 306) else none) else (bif Nat.beq pc 32 then some (.dup, 0) else none)) else (bif Nat.beq pc 31 then some (.aload_n 0, 0) else none))) else (bif Nat.ble 26 pc then (bif Nat.ble 29 pc then (bif Nat.ble 30 pc then (bif Nat.beq pc 30 then some (.iastore, 0) else none) else (bif Nat.beq pc 29 then some (.ior, 0) else none)) else (bif Nat.ble 28 pc then (bif Nat.beq pc 28 then some (.ishl, 0) else none) else (bif Nat.beq pc 26 then some (.bipush (7), 0) else none))) else (bif Nat.ble 24 pc then (bif Nat.ble 25 pc then (bif Nat.beq pc 25 then some (.iload_n 3, 0) else none) else (bif Nat.beq pc 24 then some (.ior, 0) else none)) else (bif Nat.beq pc 23 then some (.ishl, 0) else none)))) else (bif Nat.ble 12 pc then (bif Nat.ble 17 pc then (bif Nat.ble 21 pc then (bif Nat.ble 22 pc then (bif Nat.beq pc 22 then some (.iconst (3), 0) else none) else (bif Nat.beq pc 21 then some (.iload_n 2, 0) else none)) else (bif Nat.ble 20 pc then (bif Nat.beq pc 20 then some (.iload_n 1, 0) else none) else (bif Nat.beq pc 17 then some (.getfield 29, 306) else none))) else (bif Nat.ble 13 pc then (bif Nat.ble 16 pc then (bif Nat.beq pc 16 then some (.aload_n 0, 0) else none) else (bif Nat.beq pc 13 then some (.getfield 19, 303) else none)) else (bif Nat.beq pc 12 then some (.aload_n 0, 0) else none))) else (bif Nat.ble 5 pc then (bif Nat.ble 8 pc then (bif Nat.ble 9 pc then (bif Nat.beq pc 9 then some (.if_icmp .ge (32), 41) else none) else (bif Nat.beq pc 8 then some (.arraylength, 0) else none)) else (bif Nat.beq pc 5 then some (.getfield 19, 303) else none)) else (bif Nat.ble 1 pc then (bif Nat.ble 4 pc then (bif Nat.beq pc 4 then some (.aload_n 0, 0) else none) else (bif Nat.beq pc 1 then some (.getfield 29, 306) else none)) else (bif Nat.beq pc 0 then some (.aload_n 0, 0) else none)))))
def am_f21 (pc : Nat) : Option (Instr × Nat) := am_gd 33 pc (bif Nat.ble 17 pc then (bif Nat.ble 24 pc then (bif Nat.ble 28 pc then (bif Nat.ble 29 pc then (bif Nat.ble 32 pc then (bif Nat.beq pc 32 then some (.return_, 0) else none) else (bif Nat.beq pc 29 then some (.putfield 32, 307) else none)) else (bif Nat.beq pc 28 then some (.iadd, 0) else none)) else (bif Nat.ble 27 pc then (bif Nat.beq pc 27 then some (.iconst (1), 0) else none) else (bif Nat.beq pc 24 then some (.getfield 32, 307) else none))) else (bif Nat.ble 21 pc then (bif Nat.ble 22 pc then (bif Nat.ble 23 pc then (bif Nat.beq pc 23 then some (.dup, 0) else none) else (bif Nat.beq pc 22 then some (.aload_n 0, 0) else none)) else (bif Nat.beq pc 21 then some (.iastore, 0) else none)) else (bif Nat.ble 20 pc then (bif Nat.beq pc 20 then some (.iload_n 1, 0) else none) else (bif Nat.beq pc 17 then some (.getfield 32, 307) else none)))) else (bif Nat.ble 8 pc then (bif Nat.ble 12 pc then (bif Nat.ble 13 pc then (bif Nat.ble 16 pc then (bif Nat.beq pc 16 then some (.aload_n 0, 0) else none) else (bif Nat.beq pc 13 then some (.getfield 22, 304) else none)) else (bif Nat.beq pc 12 then some (.aload_n 0, 0) else none)) else (bif Nat.ble 9 pc then (bif Nat.beq pc 9 then some (.if_icmp .ge (23), 32) else none) else (bif Nat.beq pc 8 then some (.arraylength, 0) else none))) else (bif Nat.ble 4 pc then (bif Nat.ble 5 pc then (bif Nat.beq pc 5 then some (.getfield 22, 304) else none) else (bif Nat.beq pc 4 then some (.aload_n 0, 0) else none)) else (bif Nat.ble 1 pc then (bif Nat.beq pc 1 then some (.getfield 32, 307) else none) else (bif Nat.beq pc 0 then some (.aload_n 0, 0) else none)))))
def am_f22 (pc : Nat) : Option (Instr × Nat) := am_gd 56 pc (bif Nat.ble 28 pc then (bif Nat.ble 44 pc then (bif Nat.ble 50 pc then (bif Nat.ble 52 pc then (bif Nat.ble 55 pc then (bif Nat.beq pc 55 then some (.return_, 0) else none) else (bif Nat.beq pc 52 then some (.putfield 25, 305) else none)) else (bif Nat.ble 51 pc then (bif Nat.beq pc 51 then some (.iadd, 0) else none) else (bif Nat.beq pc 50 then some (.iconst (1), 0) else none))) else (bif Nat.ble 46 pc then (bif Nat.ble 47 pc then (bif Nat.beq pc 47 then some (.getfield 25, 305) else none) else (bif Nat.beq pc 46 then some (.dup, 0) else none)) else (bif Nat.ble 45 pc then (bif Nat.beq pc 45 then some (.aload_n 0, 0) else none) else (bif Nat.beq pc 44 then some (.iastore, 0) else none)))) else (bif Nat.ble 36 pc then (bif Nat.ble 40 pc then (bif Nat.ble 41 pc then (bif Nat.beq pc 41 then some (.getfield 32, 307) else none) else (bif Nat.beq pc 40 then some (.aload_n 0, 0) else none)) else (bif Nat.ble 37 pc then (bif Nat.beq pc 37 then some (.getfield 25, 305) else none) else (bif Nat.beq pc 36 then some (.aload_n 0, 0) else none))) else (bif Nat.ble 32 pc then (bif Nat.ble 33 pc then (bif Nat.beq pc 33 then some (.getfield 16, 302) else none) else (bif Nat.beq pc 32 then some (.aload_n 0, 0) else none)) else (bif Nat.ble 31 pc then (bif Nat.beq pc 31 then some (.iastore, 0) else none) else (bif Nat.beq pc 28 then some (.getfield 29, 306) else none))))) else (bif Nat.ble 14 pc then (bif Nat.ble 20 pc then (bif Nat.ble 24 pc then (bif Nat.ble 27 pc then (bif Nat.beq pc 27 then some (.aload_n 0, 0) else none) else (bif Nat.beq pc 24 then some (.getfield 25, 305) else none)) else (bif Nat.ble 23 pc then (bif Nat.beq pc 23 then some (.aload_n 0, 0) else none) else (bif Nat.beq pc 20 then some (.getfield 13, 301) else none))) else (bif Nat.ble 18 pc then (bif Nat.ble 19 pc then (bif Nat.beq pc 19 then some (.aload_n 0, 0) else none) else (bif Nat.beq pc 18 then some (.iastore, 0) else none)) else (bif Nat.ble 17 pc then (bif Nat.beq pc 17 then some (.iload_n 1, 0) else none) else (bif Nat.beq pc 14 then some (.getfield 25, 305) else none)))) else (bif Nat.ble 6 pc then (bif Nat.ble 10 pc then (bif Nat.ble 13 pc then (bif Nat.beq pc 13 then some (.aload_n 0, 0) else none) else (bif Nat.beq pc 10 then some (.getfield 9, 300) else none)) else (bif Nat.ble 9 pc then (bif Nat.beq pc 9 then some (.aload_n 0, 0) else none) else (bif Nat.beq pc 6 then some (.if_icmp .ge (49), 55) else none))) else (bif Nat.ble 1 pc then (bif Nat.ble 4 pc then (bif Nat.beq pc 4 then some (.bipush (24), 0) else none) else (bif Nat.beq pc 1 then some (.getfield 25, 305) else none)) else (bif Nat.beq pc 0 then some (.aload_n 0, 0) else none)))))
def am_f23 (pc : Nat) : Option (Instr × Nat) := am_gd 17 pc (bif Nat.ble 9 pc then (bif Nat.ble 12 pc then (bif Nat.ble 15 pc then (bif Nat.ble 16 pc then (bif Nat.beq pc 16 then some (.ireturn, 0) else none) else (bif Nat.beq pc 15 then some (.iconst (0), 0) else none)) else (bif Nat.beq pc 12 then some (.goto (4), 16) else none)) else (bif Nat.ble 10 pc then (bif Nat.ble 11 pc then (bif Nat.beq pc 11 then some (.iaload, 0) else none) else (bif Nat.beq pc 10 then some (.isub, 0) else none)) else (bif Nat.beq pc 9 then some (.iconst (1), 0) else none))) else (bif Nat.ble 4 pc then (bif Nat.ble 5 pc then (bif Nat.ble 8 pc then (bif Nat.beq pc 8 then some (.iload_n 1, 0) else none) else (bif Nat.beq pc 5 then some (.getfield 13, 301) else none)) else (bif Nat.beq pc 4 then some (.aload_n 0, 0) else none)) else (bif Nat.ble 1 pc then (bif Nat.beq pc 1 then some (.ifCond .le (14), 15) else none) else (bif Nat.beq pc 0 then some (.iload_n 1, 0) else none))))
def am_f24 (pc : Nat) : Option (Instr × Nat) := am_gd 17 pc (bif Nat.ble 9 pc then (bif Nat.ble 12 pc then (bif Nat.ble 15 pc then (bif Nat.ble 16 pc then (bif Nat.beq pc 16 then some (.ireturn, 0) else none) else (bif Nat.beq pc 15 then some (.iconst (0), 0) else none)) else (bif Nat.beq pc 12 then some (.goto (4), 16) else none)) else (bif Nat.ble 10 pc then (bif Nat.ble 11 pc then (bif Nat.beq pc 11 then some (.iaload, 0) else none) else (bif Nat.beq pc 10 then some (.isub, 0) else none)) else (bif Nat.beq pc 9 then some (.iconst (1), 0) else none))) else (bif Nat.ble 4 pc then (bif Nat.ble 5 pc then (bif Nat.ble 8 pc then (bif Nat.beq pc 8 then some (.iload_n 1, 0) else none) else (bif Nat.beq pc 5 then some (.getfield 16, 302) else none)) else (bif Nat.beq pc 4 then some (.aload_n 0, 0) else none)) else (bif Nat.ble 1 pc then (bif Nat.beq pc 1 then some (.ifCond .le (14), 15) else none) else (bif Nat.beq pc 0 then some (.iload_n 1, 0) else none))))
def am_f25 (pc : Nat) : Option (Instr × Nat) := am_gd 25 pc (bif Nat.ble 13 pc then (bif Nat.ble 18 pc then (bif Nat.ble 21 pc then (bif Nat.ble 24 pc then (bif Nat.beq pc 24 then some (.return_, 0) else none) else (bif Nat.beq pc 21 then some (.putfield 18, 401) else none)) else (bif Nat.beq pc 18 then some (.invokespecial 17, 17) else none)) else (bif Nat.ble 14 pc then (bif Nat.ble 17 pc then (bif Nat.beq pc 17 then some (.dup, 0) else none) else (bif Nat.beq pc 14 then some (.new 9, 3) else none)) else (bif Nat.beq pc 13 then some (.aload_n 0, 0) else none))) else (bif Nat.ble 5 pc then (bif Nat.ble 8 pc then (bif Nat.ble 10 pc then (bif Nat.beq pc 10 then some (.putfield 11, 400) else none) else (bif Nat.beq pc 8 then some (.newarray .int, 0) else none)) else (bif Nat.beq pc 5 then some (.sipush (240), 0) else none)) else (bif Nat.ble 1 pc then (bif Nat.ble 4 pc then (bif Nat.beq pc 4 then some (.aload_n 0, 0) else none) else (bif Nat.beq pc 1 then some (.invokespecial 3, 1000) else none)) else (bif Nat.beq pc 0 then some (.aload_n 0, 0) else none))))
def am_f26 (pc : Nat) : Option (Instr × Nat) := am_gd 49 pc (bif Nat.ble 23 pc then (bif Nat.ble 35 pc then (bif Nat.ble 41 pc then (bif Nat.ble 45 pc then (bif Nat.ble 48 pc then (bif Nat.beq pc 48 then some (.ireturn, 0) else none) else (bif Nat.beq pc 45 then some (.getfield 22, 402) else none)) else (bif Nat.ble 44 pc then (bif Nat.beq pc 44 then some (.aload_n 0, 0) else none) else (bif Nat.beq pc 41 then some (.invokevirtual 26, 27) else none))) else (bif Nat.ble 38 pc then (bif Nat.ble 39 pc then (bif Nat.beq pc 39 then some (.iload 5, 0) else none) else (bif Nat.beq pc 38 then some (.aload_n 0, 0) else none)) else (bif Nat.beq pc 35 then some (.invokevirtual 26, 27) else none))) else (bif Nat.ble 28 pc then (bif Nat.ble 32 pc then (bif Nat.ble 33 pc then (bif Nat.beq pc 33 then some (.iload 4, 0) else none) else (bif Nat.beq pc 32 then some (.aload_n 0, 0) else none)) else (bif Nat.ble 29 pc then (bif Nat.beq pc 29 then some (.invokevirtual 26, 27) else none) else (bif Nat.beq pc 28 then some (.iload_n 3, 0) else none))) else (bif Nat.ble 24 pc then (bif Nat.ble 27 pc then (bif Nat.beq pc 27 then some (.aload_n 0, 0) else none) else (bif Nat.beq pc 24 then some (.invokevirtual 26, 27) else none)) else (bif Nat.beq pc 23 then some (.iload_n 2, 0) else none)))) else (bif Nat.ble 12 pc then (bif Nat.ble 17 pc then (bif Nat.ble 19 pc then (bif Nat.ble 22 pc then (bif Nat.beq pc 22 then some (.aload_n 0, 0) else none) else (bif Nat.beq pc 19 then some (.invokevirtual 26, 27) else none)) else (bif Nat.ble 18 pc then (bif Nat.beq pc 18 then some (.iload_n 1, 0) else none) else (bif Nat.beq pc 17 then some (.aload_n 0, 0) else none))) else (bif Nat.ble 15 pc then (bif Nat.ble 16 pc then (bif Nat.beq pc 16 then some (.ireturn, 0) else none) else (bif Nat.beq pc 15 then some (.iconst (-1), 0) else none)) else (bif Nat.beq pc 12 then some (.if_icmp .le (5), 17) else none))) else (bif Nat.ble 6 pc then (bif Nat.ble 8 pc then (bif Nat.ble 11 pc then (bif Nat.beq pc 11 then some (.arraylength, 0) else none) else (bif Nat.beq pc 8 then some (.getfield 11, 400) else none)) else (bif Nat.ble 7 pc then (bif Nat.beq pc 7 then some (.aload_n 0, 0) else none) else (bif Nat.beq pc 6 then some (.iadd, 0) else none))) else (bif Nat.ble 1 pc then (bif Nat.ble 4 pc then (bif Nat.beq pc 4 then some (.bipush (20), 0) else none) else (bif Nat.beq pc 1 then some (.getfield 22, 402) else none)) else (bif Nat.beq pc 0 then some (.aload_n 0, 0) else none)))))
def am_f27 (pc : Nat) : Option (Instr × Nat) := am_gd 52 pc (bif Nat.ble 27 pc then (bif Nat.ble 36 pc then (bif Nat.ble 42 pc then (bif Nat.ble 48 pc then (bif Nat.ble 51 pc then (bif Nat.beq pc 51 then some (.return_, 0) else none) else (bif Nat.beq pc 48 then some (.goto (-45), 3) else none)) else (bif Nat.ble 45 pc then (bif Nat.beq pc 45 then some (.iinc 2 (-8), 0) else none) else (bif Nat.beq pc 42 then some (.putfield 22, 402) else none))) else (bif Nat.ble 40 pc then (bif Nat.ble 41 pc then (bif Nat.beq pc 41 then some (.iadd, 0) else none) else (bif Nat.beq pc 40 then some (.iconst (1), 0) else none)) else (bif Nat.ble 37 pc then (bif Nat.beq pc 37 then some (.getfield 22, 402) else none) else (bif Nat.beq pc 36 then some (.dup, 0) else none)))) else (bif Nat.ble 30 pc then (bif Nat.ble 34 pc then (bif Nat.ble 35 pc then (bif Nat.beq pc 35 then some (.aload_n 0, 0) else none) else (bif Nat.beq pc 34 then some (.iastore, 0) else none)) else (bif Nat.ble 33 pc then (bif Nat.beq pc 33 then some (.iand, 0) else none) else (bif Nat.beq pc 30 then some (.sipush (255), 0) else none))) else (bif Nat.ble 28 pc then (bif Nat.ble 29 pc then (bif Nat.beq pc 29 then some (.iushr, 0) else none) else (bif Nat.beq pc 28 then some (.iload_n 2, 0) else none)) else (bif Nat.beq pc 27 then some (.iload_n 1, 0) else none)))) else (bif Nat.ble 12 pc then (bif Nat.ble 19 pc then (bif Nat.ble 23 pc then (bif Nat.ble 24 pc then (bif Nat.beq pc 24 then some (.getfield 22, 402) else none) else (bif Nat.beq pc 23 then some (.aload_n 0, 0) else none)) else (bif Nat.ble 20 pc then (bif Nat.beq pc 20 then some (.getfield 11, 400) else none) else (bif Nat.beq pc 19 then some (.aload_n 0, 0) else none))) else (bif Nat.ble 15 pc then (bif Nat.ble 16 pc then (bif Nat.beq pc 16 then some (.if_icmp .ge (29), 45) else none) else (bif Nat.beq pc 15 then some (.arraylength, 0) else none)) else (bif Nat.beq pc 12 then some (.getfield 11, 400) else none))) else (bif Nat.ble 4 pc then (bif Nat.ble 8 pc then (bif Nat.ble 11 pc then (bif Nat.beq pc 11 then some (.aload_n 0, 0) else none) else (bif Nat.beq pc 8 then some (.getfield 22, 402) else none)) else (bif Nat.ble 7 pc then (bif Nat.beq pc 7 then some (.aload_n 0, 0) else none) else (bif Nat.beq pc 4 then some (.ifCond .lt (47), 51) else none))) else (bif Nat.ble 2 pc then (bif Nat.ble 3 pc then (bif Nat.beq pc 3 then some (.iload_n 2, 0) else none) else (bif Nat.beq pc 2 then some (.istore_n 2, 0) else none)) else (bif Nat.beq pc 0 then some (.bipush (24), 0) else none)))))
def am_f28 (pc : Nat) : Option (Instr × Nat) := am_gd 137 pc (bif Nat.ble 61 pc then (bif Nat.ble 100 pc then (bif Nat.ble 120 pc then (bif Nat.ble 130 pc then (bif Nat.ble 132 pc then (bif Nat.ble 135 pc then (bif Nat.ble 136 pc then (bif Nat.beq pc 136 then some (.ireturn, 0) else none) else (bif Nat.beq pc 135 then some (.iadd, 0) else none)) else (bif Nat.beq pc 132 then some (.getfield 36, 404) else none)) else (bif Nat.ble 131 pc then (bif Nat.beq pc 131 then some (.aload_n 0, 0) else none) else (bif Nat.beq pc 130 then some (.imul, 0) else none))) else (bif Nat.ble 126 pc then (bif Nat.ble 127 pc then (bif Nat.beq pc 127 then some (.getfield 39, 405) else none) else (bif Nat.beq pc 126 then some (.aload_n 0, 0) else none)) else (bif Nat.ble 123 pc then (bif Nat.beq pc 123 then some (.sipush (1000), 0) else none) else (bif Nat.beq pc 120 then some (.goto (16), 136) else none)))) else (bif Nat.ble 109 pc then (bif Nat.ble 113 pc then (bif Nat.ble 116 pc then (bif Nat.ble 119 pc then (bif Nat.beq pc 119 then some (.iconst (0), 0) else none) else (bif Nat.beq pc 116 then some (.ifCond .ne (7), 123) else none)) else (bif Nat.beq pc 113 then some (.getfield 39, 405) else none)) else (bif Nat.ble 112 pc then (bif Nat.beq pc 112 then some (.aload_n 0, 0) else none) else (bif Nat.beq pc 109 then some (.goto (-75), 34) else none))) else (bif Nat.ble 103 pc then (bif Nat.ble 106 pc then (bif Nat.beq pc 106 then some (.iinc 2 (1), 0) else none) else (bif Nat.beq pc 103 then some (.invokevirtual 49, 42) else none)) else (bif Nat.ble 101 pc then (bif Nat.beq pc 101 then some (.bipush (59), 0) else none) else (bif Nat.beq pc 100 then some (.aload_n 0, 0) else none))))) else (bif Nat.ble 79 pc then (bif Nat.ble 87 pc then (bif Nat.ble 91 pc then (bif Nat.ble 94 pc then (bif Nat.ble 97 pc then (bif Nat.beq pc 97 then some (.goto (15), 112) else none) else (bif Nat.beq pc 94 then some (.if_icmp .lt (6), 100) else none)) else (bif Nat.beq pc 91 then some (.getfield 33, 403) else none)) else (bif Nat.ble 90 pc then (bif Nat.beq pc 90 then some (.aload_n 0, 0) else none) else (bif Nat.beq pc 87 then some (.getfield 36, 404) else none))) else (bif Nat.ble 83 pc then (bif Nat.ble 86 pc then (bif Nat.beq pc 86 then some (.aload_n 0, 0) else none) else (bif Nat.beq pc 83 then some (.ifCond .ne (29), 112) else none)) else (bif Nat.ble 80 pc then (bif Nat.beq pc 80 then some (.getfield 39, 405) else none) else (bif Nat.beq pc 79 then some (.aload_n 0, 0) else none)))) else (bif Nat.ble 68 pc then (bif Nat.ble 72 pc then (bif Nat.ble 75 pc then (bif Nat.ble 76 pc then (bif Nat.beq pc 76 then some (.invokevirtual 58, 22) else none) else (bif Nat.beq pc 75 then some (.iload_n 3, 0) else none)) else (bif Nat.beq pc 72 then some (.getfield 18, 401) else none)) else (bif Nat.ble 71 pc then (bif Nat.beq pc 71 then some (.aload_n 0, 0) else none) else (bif Nat.beq pc 68 then some (.invokevirtual 55, 37) else none))) else (bif Nat.ble 64 pc then (bif Nat.ble 67 pc then (bif Nat.beq pc 67 then some (.aload_n 0, 0) else none) else (bif Nat.beq pc 64 then some (.invokevirtual 49, 42) else none)) else (bif Nat.ble 62 pc then (bif Nat.beq pc 62 then some (.bipush (62), 0) else none) else (bif Nat.beq pc 61 then some (.aload_n 0, 0) else none)))))) else (bif Nat.ble 29 pc then (bif Nat.ble 45 pc then (bif Nat.ble 51 pc then (bif Nat.ble 56 pc then (bif Nat.ble 57 pc then (bif Nat.ble 58 pc then (bif Nat.beq pc 58 then some (.invokevirtual 52, 30) else none) else (bif Nat.beq pc 57 then some (.iconst (0), 0) else none)) else (bif Nat.beq pc 56 then some (.aload_n 0, 0) else none)) else (bif Nat.ble 53 pc then (bif Nat.beq pc 53 then some (.invokevirtual 49, 42) else none) else (bif Nat.beq pc 51 then some (.bipush (58), 0) else none))) else (bif Nat.ble 49 pc then (bif Nat.ble 50 pc then (bif Nat.beq pc 50 then some (.aload_n 0, 0) else none) else (bif Nat.beq pc 49 then some (.istore_n 3, 0) else none)) else (bif Nat.ble 46 pc then (bif Nat.beq pc 46 then some (.invokevirtual 45, 29) else none) else (bif Nat.beq pc 45 then some (.iload_n 2, 0) else none)))) else (bif Nat.ble 35 pc then (bif Nat.ble 40 pc then (bif Nat.ble 41 pc then (bif Nat.ble 44 pc then (bif Nat.beq pc 44 then some (.aload_n 0, 0) else none) else (bif Nat.beq pc 41 then some (.ifCond .le (71), 112) else none)) else (bif Nat.beq pc 40 then some (.iload_n 1, 0) else none)) else (bif Nat.ble 37 pc then (bif Nat.beq pc 37 then some (.if_icmp .gt (75), 112) else none) else (bif Nat.beq pc 35 then some (.bipush (24), 0) else none))) else (bif Nat.ble 33 pc then (bif Nat.ble 34 pc then (bif Nat.beq pc 34 then some (.iload_n 2, 0) else none) else (bif Nat.beq pc 33 then some (.istore_n 2, 0) else none)) else (bif Nat.ble 32 pc then (bif Nat.beq pc 32 then some (.iconst (0), 0) else none) else (bif Nat.beq pc 29 then some (.putfield 22, 402) else none))))) else (bif Nat.ble 14 pc then (bif Nat.ble 22 pc then (bif Nat.ble 24 pc then (bif Nat.ble 27 pc then (bif Nat.ble 28 pc then (bif Nat.beq pc 28 then some (.iconst (0), 0) else none) else (bif Nat.beq pc 27 then some (.aload_n 0, 0) else none)) else (bif Nat.beq pc 24 then some (.putfield 42, 406) else none)) else (bif Nat.ble 23 pc then (bif Nat.beq pc 23 then some (.iconst (0), 0) else none) else (bif Nat.beq pc 22 then some (.aload_n 0, 0) else none))) else (bif Nat.ble 18 pc then (bif Nat.ble 19 pc then (bif Nat.beq pc 19 then some (.putfield 39, 405) else none) else (bif Nat.beq pc 18 then some (.iconst (0), 0) else none)) else (bif Nat.ble 17 pc then (bif Nat.beq pc 17 then some (.aload_n 0, 0) else none) else (bif Nat.beq pc 14 then some (.putfield 36, 404) else none)))) else (bif Nat.ble 8 pc then (bif Nat.ble 12 pc then (bif Nat.ble 13 pc then (bif Nat.beq pc 13 then some (.iconst (0), 0) else none) else (bif Nat.beq pc 12 then some (.aload_n 0, 0) else none)) else (bif Nat.ble 9 pc then (bif Nat.beq pc 9 then some (.putfield 33, 403) else none) else (bif Nat.beq pc 8 then some (.iload_n 1, 0) else none))) else (bif Nat.ble 4 pc then (bif Nat.ble 7 pc then (bif Nat.beq pc 7 then some (.aload_n 0, 0) else none) else (bif Nat.beq pc 4 then some (.invokevirtual 30, 18) else none)) else (bif Nat.ble 1 pc then (bif Nat.beq pc 1 then some (.getfield 18, 401) else none) else (bif Nat.beq pc 0 then some (.aload_n 0, 0) else none)))))))
def am_f29 (pc : Nat) : Option (Instr × Nat) := am_gd 47 pc (bif Nat.ble 24 pc then (bif Nat.ble 36 pc then (bif Nat.ble 41 pc then (bif Nat.ble 45 pc then (bif Nat.ble 46 pc then (bif Nat.beq pc 46 then some (.ireturn, 0) else none) else (bif Nat.beq pc 45 then some (.iload_n 2, 0) else none)) else (bif Nat.ble 42 pc then (bif Nat.beq pc 42 then some (.putfield 36, 404) else none) else (bif Nat.beq pc 41 then some (.iadd, 0) else none))) else (bif Nat.ble 37 pc then (bif Nat.ble 40 pc then (bif Nat.beq pc 40 then some (.iconst (1), 0) else none) else (bif Nat.beq pc 37 then some (.getfield 36, 404) else none)) else (bif Nat.beq pc 36 then some (.dup, 0) else none))) else (bif Nat.ble 29 pc then (bif Nat.ble 32 pc then (bif Nat.ble 35 pc then (bif Nat.beq pc 35 then some (.aload_n 0, 0) else none) else (bif Nat.beq pc 32 then some (.goto (13), 45) else none)) else (bif Nat.beq pc 29 then some (.invokevirtual 68, 43) else none)) else (bif Nat.ble 27 pc then (bif Nat.ble 28 pc then (bif Nat.beq pc 28 then some (.iconst (4), 0) else none) else (bif Nat.beq pc 27 then some (.aload_n 0, 0) else none)) else (bif Nat.beq pc 24 then some (.if_icmp .lt (11), 35) else none)))) else (bif Nat.ble 10 pc then (bif Nat.ble 15 pc then (bif Nat.ble 21 pc then (bif Nat.ble 22 pc then (bif Nat.beq pc 22 then some (.bipush (24), 0) else none) else (bif Nat.beq pc 21 then some (.iload_n 1, 0) else none)) else (bif Nat.ble 18 pc then (bif Nat.beq pc 18 then some (.goto (27), 45) else none) else (bif Nat.beq pc 15 then some (.invokevirtual 68, 43) else none))) else (bif Nat.ble 13 pc then (bif Nat.ble 14 pc then (bif Nat.beq pc 14 then some (.iconst (1), 0) else none) else (bif Nat.beq pc 13 then some (.aload_n 0, 0) else none)) else (bif Nat.beq pc 10 then some (.if_icmp .ne (11), 21) else none))) else (bif Nat.ble 7 pc then (bif Nat.ble 8 pc then (bif Nat.ble 9 pc then (bif Nat.beq pc 9 then some (.iconst (-1), 0) else none) else (bif Nat.beq pc 8 then some (.iload_n 2, 0) else none)) else (bif Nat.beq pc 7 then some (.istore_n 2, 0) else none)) else (bif Nat.ble 1 pc then (bif Nat.ble 4 pc then (bif Nat.beq pc 4 then some (.invokestatic 65, 39) else none) else (bif Nat.beq pc 1 then some (.invokevirtual 61, 40) else none)) else (bif Nat.beq pc 0 then some (.aload_n 0, 0) else none)))))
def am_f30 (pc : Nat) : Option (Instr × Nat) := am_gd 55 pc (bif Nat.ble 28 pc then (bif Nat.ble 39 pc then (bif Nat.ble 45 pc then (bif Nat.ble 51 pc then (bif Nat.ble 54 pc then (bif Nat.beq pc 54 then some (.return_, 0) else none) else (bif Nat.beq pc 51 then some (.goto (-44), 7) else none)) else (bif Nat.ble 48 pc then (bif Nat.beq pc 48 then some (.iinc 2 (1), 0) else none) else (bif Nat.beq pc 45 then some (.invokevirtual 78, 20) else none))) else (bif Nat.ble 43 pc then (bif Nat.ble 44 pc then (bif Nat.beq pc 44 then some (.iconst (0), 0) else none) else (bif Nat.beq pc 43 then some (.iconst (0), 0) else none)) else (bif Nat.ble 42 pc then (bif Nat.beq pc 42 then some (.iconst (3), 0) else none) else (bif Nat.beq pc 39 then some (.getfield 18, 401) else none)))) else (bif Nat.ble 33 pc then (bif Nat.ble 35 pc then (bif Nat.ble 38 pc then (bif Nat.beq pc 38 then some (.aload_n 0, 0) else none) else (bif Nat.beq pc 35 then some (.invokevirtual 71, 31) else none)) else (bif Nat.ble 34 pc then (bif Nat.beq pc 34 then some (.iload_n 1, 0) else none) else (bif Nat.beq pc 33 then some (.aload_n 0, 0) else none))) else (bif Nat.ble 29 pc then (bif Nat.ble 30 pc then (bif Nat.beq pc 30 then some (.putfield 36, 404) else none) else (bif Nat.beq pc 29 then some (.iadd, 0) else none)) else (bif Nat.beq pc 28 then some (.iconst (1), 0) else none)))) else (bif Nat.ble 11 pc then (bif Nat.ble 20 pc then (bif Nat.ble 24 pc then (bif Nat.ble 25 pc then (bif Nat.beq pc 25 then some (.getfield 36, 404) else none) else (bif Nat.beq pc 24 then some (.dup, 0) else none)) else (bif Nat.ble 23 pc then (bif Nat.beq pc 23 then some (.aload_n 0, 0) else none) else (bif Nat.beq pc 20 then some (.ifCond .eq (34), 54) else none))) else (bif Nat.ble 15 pc then (bif Nat.ble 17 pc then (bif Nat.beq pc 17 then some (.invokevirtual 74, 41) else none) else (bif Nat.beq pc 15 then some (.bipush (124), 0) else none)) else (bif Nat.ble 14 pc then (bif Nat.beq pc 14 then some (.aload_n 0, 0) else none) else (bif Nat.beq pc 11 then some (.if_icmp .ge (43), 54) else none)))) else (bif Nat.ble 5 pc then (bif Nat.ble 7 pc then (bif Nat.ble 8 pc then (bif Nat.beq pc 8 then some (.sipush (240), 0) else none) else (bif Nat.beq pc 7 then some (.iload_n 2, 0) else none)) else (bif Nat.ble 6 pc then (bif Nat.beq pc 6 then some (.istore_n 2, 0) else none) else (bif Nat.beq pc 5 then some (.iconst (0), 0) else none))) else (bif Nat.ble 1 pc then (bif Nat.ble 2 pc then (bif Nat.beq pc 2 then some (.invokevirtual 71, 31) else none) else (bif Nat.beq pc 1 then some (.iload_n 1, 0) else none)) else (bif Nat.beq pc 0 then some (.aload_n 0, 0) else none)))))
def am_f31 (pc : Nat) : Option (Instr × Nat) := am_gd 55 pc (bif Nat.ble 28 pc then (bif Nat.ble 39 pc then (bif Nat.ble 45 pc then (bif Nat.ble 51 pc then (bif Nat.ble 54 pc then (bif Nat.beq pc 54 then some (.return_, 0) else none) else (bif Nat.beq pc 51 then some (.goto (-44), 7) else none)) else (bif Nat.ble 48 pc then (bif Nat.beq pc 48 then some (.iinc 2 (1), 0) else none) else (bif Nat.beq pc 45 then some (.invokevirtual 78, 20) else none))) else (bif Nat.ble 43 pc then (bif Nat.ble 44 pc then (bif Nat.beq pc 44 then some (.iconst (0), 0) else none) else (bif Nat.beq pc 43 then some (.iconst (0), 0) else none)) else (bif Nat.ble 42 pc then (bif Nat.beq pc 42 then some (.iconst (2), 0) else none) else (bif Nat.beq pc 39 then some (.getfield 18, 401) else none)))) else (bif Nat.ble 33 pc then (bif Nat.ble 35 pc then (bif Nat.ble 38 pc then (bif Nat.beq pc 38 then some (.aload_n 0, 0) else none) else (bif Nat.beq pc 35 then some (.invokevirtual 82, 32) else none)) else (bif Nat.ble 34 pc then (bif Nat.beq pc 34 then some (.iload_n 1, 0) else none) else (bif Nat.beq pc 33 then some (.aload_n 0, 0) else none))) else (bif Nat.ble 29 pc then (bif Nat.ble 30 pc then (bif Nat.beq pc 30 then some (.putfield 36, 404) else none) else (bif Nat.beq pc 29 then some (.iadd, 0) else none)) else (bif Nat.beq pc 28 then some (.iconst (1), 0) else none)))) else (bif Nat.ble 11 pc then (bif Nat.ble 20 pc then (bif Nat.ble 24 pc then (bif Nat.ble 25 pc then (bif Nat.beq pc 25 then some (.getfield 36, 404) else none) else (bif Nat.beq pc 24 then some (.dup, 0) else none)) else (bif Nat.ble 23 pc then (bif Nat.beq pc 23 then some (.aload_n 0, 0) else none) else (bif Nat.beq pc 20 then some (.ifCond .eq (34), 54) else none))) else (bif Nat.ble 15 pc then (bif Nat.ble 17 pc then (bif Nat.beq pc 17 then some (.invokevirtual 74, 41) else none) else (bif Nat.beq pc 15 then some (.bipush (38), 0) else none)) else (bif Nat.ble 14 pc then (bif Nat.beq pc 14 then some (.aload_n 0, 0) else none) else (bif Nat.beq pc 11 then some (.if_icmp .ge (43), 54) else none)))) else (bif Nat.ble 5 pc then (bif Nat.ble 7 pc then (bif Nat.ble 8 pc then (bif Nat.beq pc 8 then some (.sipush (240), 0) else none) else (bif Nat.beq pc 7 then some (.iload_n 2, 0) else none)) else (bif Nat.ble 6 pc then (bif Nat.beq pc 6 then some (.istore_n 2, 0) else none) else (bif Nat.beq pc 5 then some (.iconst (0), 0) else none))) else (bif Nat.ble 1 pc then (bif Nat.ble 2 pc then (bif Nat.beq pc 2 then some (.invokevirtual 82, 32) else none) else (bif Nat.beq pc 1 then some (.iload_n 1, 0) else none)) else (bif Nat.beq pc 0 then some (.aload_n 0, 0) else none)))))
def am_f32 (pc : Nat) : Option (Instr × Nat) := am_gd 166 pc (bif Nat.ble 105 pc then (bif Nat.ble 137 pc then (bif Nat.ble 149 pc then (bif Nat.ble 155 pc then (bif Nat.ble 159 pc then (bif Nat.ble 162 pc then (bif Nat.ble 165 pc then (bif Nat.beq pc 165 then some (.return_, 0) else none) else (bif Nat.beq pc 162 then some (.goto (-18), 144) else none)) else (bif Nat.beq pc 159 then some (.iinc 3 (1), 0) else none)) else (bif Nat.ble 156 pc then (bif Nat.beq pc 156 then some (.invokevirtual 78, 20) else none) else (bif Nat.beq pc 155 then some (.iconst (0), 0) else none))) else (bif Nat.ble 153 pc then (bif Nat.ble 154 pc then (bif Nat.beq pc 154 then some (.iconst (0), 0) else none) else (bif Nat.beq pc 153 then some (.iconst (1), 0) else none)) else (bif Nat.ble 150 pc then (bif Nat.beq pc 150 then some (.getfield 18, 401) else none) else (bif Nat.beq pc 149 then some (.aload_n 0, 0) else none)))) else (bif Nat.ble 143 pc then (bif Nat.ble 145 pc then (bif Nat.ble 146 pc then (bif Nat.beq pc 146 then some (.if_icmp .ge (19), 165) else none) else (bif Nat.beq pc 145 then some (.iload_n 2, 0) else none)) else (bif Nat.ble 144 pc then (bif Nat.beq pc 144 then some (.iload_n 3, 0) else none) else (bif Nat.beq pc 143 then some (.istore_n 3, 0) else none))) else (bif Nat.ble 139 pc then (bif Nat.ble 142 pc then (bif Nat.beq pc 142 then some (.iload_n 1, 0) else none) else (bif Nat.beq pc 139 then some (.invokevirtual 68, 43) else none)) else (bif Nat.ble 138 pc then (bif Nat.beq pc 138 then some (.iconst (1), 0) else none) else (bif Nat.beq pc 137 then some (.aload_n 0, 0) else none))))) else (bif Nat.ble 117 pc then (bif Nat.ble 126 pc then (bif Nat.ble 128 pc then (bif Nat.ble 131 pc then (bif Nat.ble 134 pc then (bif Nat.beq pc 134 then some (.goto (8), 142) else none) else (bif Nat.beq pc 131 then some (.invokevirtual 88, 34) else none)) else (bif Nat.beq pc 128 then some (.invokevirtual 61, 40) else none)) else (bif Nat.ble 127 pc then (bif Nat.beq pc 127 then some (.aload_n 0, 0) else none) else (bif Nat.beq pc 126 then some (.aload_n 0, 0) else none))) else (bif Nat.ble 120 pc then (bif Nat.ble 123 pc then (bif Nat.beq pc 123 then some (.goto (19), 142) else none) else (bif Nat.beq pc 120 then some (.invokevirtual 49, 42) else none)) else (bif Nat.ble 118 pc then (bif Nat.beq pc 118 then some (.bipush (41), 0) else none) else (bif Nat.beq pc 117 then some (.aload_n 0, 0) else none)))) else (bif Nat.ble 111 pc then (bif Nat.ble 113 pc then (bif Nat.ble 114 pc then (bif Nat.beq pc 114 then some (.invokevirtual 52, 30) else none) else (bif Nat.beq pc 113 then some (.iadd, 0) else none)) else (bif Nat.ble 112 pc then (bif Nat.beq pc 112 then some (.iconst (1), 0) else none) else (bif Nat.beq pc 111 then some (.iload_n 2, 0) else none))) else (bif Nat.ble 107 pc then (bif Nat.ble 110 pc then (bif Nat.beq pc 110 then some (.aload_n 0, 0) else none) else (bif Nat.beq pc 107 then some (.putfield 36, 404) else none)) else (bif Nat.ble 106 pc then (bif Nat.beq pc 106 then some (.iadd, 0) else none) else (bif Nat.beq pc 105 then some (.iconst (1), 0) else none)))))) else (bif Nat.ble 29 pc then (bif Nat.ble 47 pc then (bif Nat.ble 94 pc then (bif Nat.ble 100 pc then (bif Nat.ble 101 pc then (bif Nat.ble 102 pc then (bif Nat.beq pc 102 then some (.getfield 36, 404) else none) else (bif Nat.beq pc 101 then some (.dup, 0) else none)) else (bif Nat.beq pc 100 then some (.aload_n 0, 0) else none)) else (bif Nat.ble 97 pc then (bif Nat.beq pc 97 then some (.ifCond .eq (45), 142) else none) else (bif Nat.beq pc 94 then some (.invokevirtual 85, 33) else none))) else (bif Nat.ble 92 pc then (bif Nat.ble 93 pc then (bif Nat.beq pc 93 then some (.iload_n 2, 0) else none) else (bif Nat.beq pc 92 then some (.aload_n 0, 0) else none)) else (bif Nat.ble 50 pc then (bif Nat.beq pc 50 then some (.lookupswitch (87) #[(40, 42), (49, 76), (120, 76), (121, 76)], 0) else none) else (bif Nat.beq pc 47 then some (.invokevirtual 61, 40) else none)))) else (bif Nat.ble 37 pc then (bif Nat.ble 43 pc then (bif Nat.ble 46 pc then (bif Nat.beq pc 46 then some (.aload_n 0, 0) else none) else (bif Nat.beq pc 43 then some (.goto (-39), 4) else none)) else (bif Nat.ble 40 pc then (bif Nat.beq pc 40 then some (.iinc 3 (1), 0) else none) else (bif Nat.beq pc 37 then some (.iinc 2 (1), 0) else none))) else (bif Nat.ble 33 pc then (bif Nat.ble 34 pc then (bif Nat.beq pc 34 then some (.putfield 36, 404) else none) else (bif Nat.beq pc 33 then some (.iadd, 0) else none)) else (bif Nat.ble 32 pc then (bif Nat.beq pc 32 then some (.iconst (1), 0) else none) else (bif Nat.beq pc 29 then some (.getfield 36, 404) else none))))) else (bif Nat.ble 11 pc then (bif Nat.ble 20 pc then (bif Nat.ble 24 pc then (bif Nat.ble 27 pc then (bif Nat.ble 28 pc then (bif Nat.beq pc 28 then some (.dup, 0) else none) else (bif Nat.beq pc 27 then some (.aload_n 0, 0) else none)) else (bif Nat.beq pc 24 then some (.ifCond .eq (22), 46) else none)) else (bif Nat.ble 21 pc then (bif Nat.beq pc 21 then some (.invokevirtual 85, 33) else none) else (bif Nat.beq pc 20 then some (.iload_n 2, 0) else none))) else (bif Nat.ble 16 pc then (bif Nat.ble 19 pc then (bif Nat.beq pc 19 then some (.aload_n 0, 0) else none) else (bif Nat.beq pc 16 then some (.ifCond .eq (30), 46) else none)) else (bif Nat.ble 13 pc then (bif Nat.beq pc 13 then some (.invokevirtual 74, 41) else none) else (bif Nat.beq pc 11 then some (.bipush (33), 0) else none)))) else (bif Nat.ble 4 pc then (bif Nat.ble 7 pc then (bif Nat.ble 10 pc then (bif Nat.beq pc 10 then some (.aload_n 0, 0) else none) else (bif Nat.beq pc 7 then some (.if_icmp .gt (39), 46) else none)) else (bif Nat.ble 5 pc then (bif Nat.beq pc 5 then some (.bipush (8), 0) else none) else (bif Nat.beq pc 4 then some (.iload_n 3, 0) else none))) else (bif Nat.ble 2 pc then (bif Nat.ble 3 pc then (bif Nat.beq pc 3 then some (.istore_n 3, 0) else none) else (bif Nat.beq pc 2 then some (.iconst (0), 0) else none)) else (bif Nat.ble 1 pc then (bif Nat.beq pc 1 then some (.istore_n 2, 0) else none) else (bif Nat.beq pc 0 then some (.iload_n 1, 0) else none)))))))
def am_f33 (pc : Nat) : Option (Instr × Nat) := am_gd 15 pc (bif Nat.ble 8 pc then (bif Nat.ble 12 pc then (bif Nat.ble 13 pc then (bif Nat.ble 14 pc then (bif Nat.beq pc 14 then some (.ireturn, 0) else none) else (bif Nat.beq pc 13 then some (.iconst (1), 0) else none)) else (bif Nat.beq pc 12 then some (.ireturn, 0) else none)) else (bif Nat.ble 11 pc then (bif Nat.beq pc 11 then some (.iconst (0), 0) else none) else (bif Nat.beq pc 8 then some (.invokevirtual 68, 43) else none))) else (bif Nat.ble 3 pc then (bif Nat.ble 6 pc then (bif Nat.ble 7 pc then (bif Nat.beq pc 7 then some (.iconst (5), 0) else none) else (bif Nat.beq pc 6 then some (.aload_n 0, 0) else none)) else (bif Nat.beq pc 3 then some (.if_icmp .lt (10), 13) else none)) else (bif Nat.ble 1 pc then (bif Nat.beq pc 1 then some (.bipush (8), 0) else none) else (bif Nat.beq pc 0 then some (.iload_n 1, 0) else none))))
def am_f34 (pc : Nat) : Option (Instr × Nat) := am_gd 117 pc (bif Nat.ble 57 pc then (bif Nat.ble 86 pc then (bif Nat.ble 100 pc then (bif Nat.ble 110 pc then (bif Nat.ble 112 pc then (bif Nat.ble 113 pc then (bif Nat.ble 116 pc then (bif Nat.beq pc 116 then some (.return_, 0) else none) else (bif Nat.beq pc 113 then some (.invokevirtual 78, 20) else none)) else (bif Nat.beq pc 112 then some (.iconst (0), 0) else none)) else (bif Nat.ble 111 pc then (bif Nat.beq pc 111 then some (.iload_n 2, 0) else none) else (bif Nat.beq pc 110 then some (.iconst (4), 0) else none))) else (bif Nat.ble 106 pc then (bif Nat.ble 107 pc then (bif Nat.beq pc 107 then some (.getfield 18, 401) else none) else (bif Nat.beq pc 106 then some (.aload_n 0, 0) else none)) else (bif Nat.ble 103 pc then (bif Nat.beq pc 103 then some (.goto (13), 116) else none) else (bif Nat.beq pc 100 then some (.invokevirtual 78, 20) else none)))) else (bif Nat.ble 94 pc then (bif Nat.ble 96 pc then (bif Nat.ble 97 pc then (bif Nat.beq pc 97 then some (.invokevirtual 94, 36) else none) else (bif Nat.beq pc 96 then some (.aload_n 0, 0) else none)) else (bif Nat.ble 95 pc then (bif Nat.beq pc 95 then some (.iload_n 2, 0) else none) else (bif Nat.beq pc 94 then some (.iconst (5), 0) else none))) else (bif Nat.ble 90 pc then (bif Nat.ble 91 pc then (bif Nat.beq pc 91 then some (.getfield 18, 401) else none) else (bif Nat.beq pc 90 then some (.aload_n 0, 0) else none)) else (bif Nat.ble 87 pc then (bif Nat.beq pc 87 then some (.putfield 36, 404) else none) else (bif Nat.beq pc 86 then some (.iadd, 0) else none))))) else (bif Nat.ble 71 pc then (bif Nat.ble 80 pc then (bif Nat.ble 82 pc then (bif Nat.ble 85 pc then (bif Nat.beq pc 85 then some (.iconst (1), 0) else none) else (bif Nat.beq pc 82 then some (.getfield 36, 404) else none)) else (bif Nat.ble 81 pc then (bif Nat.beq pc 81 then some (.dup, 0) else none) else (bif Nat.beq pc 80 then some (.aload_n 0, 0) else none))) else (bif Nat.ble 74 pc then (bif Nat.ble 77 pc then (bif Nat.beq pc 77 then some (.ifCond .eq (29), 106) else none) else (bif Nat.beq pc 74 then some (.invokevirtual 74, 41) else none)) else (bif Nat.ble 72 pc then (bif Nat.beq pc 72 then some (.bipush (60), 0) else none) else (bif Nat.beq pc 71 then some (.aload_n 0, 0) else none)))) else (bif Nat.ble 65 pc then (bif Nat.ble 69 pc then (bif Nat.ble 70 pc then (bif Nat.beq pc 70 then some (.istore_n 2, 0) else none) else (bif Nat.beq pc 69 then some (.iadd, 0) else none)) else (bif Nat.ble 68 pc then (bif Nat.beq pc 68 then some (.iconst (0), 0) else none) else (bif Nat.beq pc 65 then some (.goto (4), 69) else none))) else (bif Nat.ble 60 pc then (bif Nat.ble 63 pc then (bif Nat.beq pc 63 then some (.bipush (8), 0) else none) else (bif Nat.beq pc 60 then some (.if_icmp .ne (8), 68) else none)) else (bif Nat.ble 58 pc then (bif Nat.beq pc 58 then some (.bipush (121), 0) else none) else (bif Nat.beq pc 57 then some (.iload_n 1, 0) else none)))))) else (bif Nat.ble 28 pc then (bif Nat.ble 43 pc then (bif Nat.ble 49 pc then (bif Nat.ble 53 pc then (bif Nat.ble 54 pc then (bif Nat.beq pc 54 then some (.invokevirtual 91, 35) else none) else (bif Nat.beq pc 53 then some (.aload_n 0, 0) else none)) else (bif Nat.ble 52 pc then (bif Nat.beq pc 52 then some (.return_, 0) else none) else (bif Nat.beq pc 49 then some (.invokevirtual 78, 20) else none))) else (bif Nat.ble 47 pc then (bif Nat.ble 48 pc then (bif Nat.beq pc 48 then some (.iconst (0), 0) else none) else (bif Nat.beq pc 47 then some (.iconst (0), 0) else none)) else (bif Nat.ble 46 pc then (bif Nat.beq pc 46 then some (.iconst (0), 0) else none) else (bif Nat.beq pc 43 then some (.getfield 18, 401) else none)))) else (bif Nat.ble 36 pc then (bif Nat.ble 39 pc then (bif Nat.ble 42 pc then (bif Nat.beq pc 42 then some (.aload_n 0, 0) else none) else (bif Nat.beq pc 39 then some (.if_icmp .ne (14), 53) else none)) else (bif Nat.ble 37 pc then (bif Nat.beq pc 37 then some (.bipush (49), 0) else none) else (bif Nat.beq pc 36 then some (.iload_n 1, 0) else none))) else (bif Nat.ble 32 pc then (bif Nat.ble 33 pc then (bif Nat.beq pc 33 then some (.putfield 36, 404) else none) else (bif Nat.beq pc 32 then some (.iadd, 0) else none)) else (bif Nat.ble 31 pc then (bif Nat.beq pc 31 then some (.iconst (1), 0) else none) else (bif Nat.beq pc 28 then some (.getfield 36, 404) else none))))) else (bif Nat.ble 16 pc then (bif Nat.ble 22 pc then (bif Nat.ble 26 pc then (bif Nat.ble 27 pc then (bif Nat.beq pc 27 then some (.dup, 0) else none) else (bif Nat.beq pc 26 then some (.aload_n 0, 0) else none)) else (bif Nat.ble 23 pc then (bif Nat.beq pc 23 then some (.putfield 42, 406) else none) else (bif Nat.beq pc 22 then some (.iadd, 0) else none))) else (bif Nat.ble 18 pc then (bif Nat.ble 21 pc then (bif Nat.beq pc 21 then some (.iconst (1), 0) else none) else (bif Nat.beq pc 18 then some (.getfield 42, 406) else none)) else (bif Nat.ble 17 pc then (bif Nat.beq pc 17 then some (.dup, 0) else none) else (bif Nat.beq pc 16 then some (.aload_n 0, 0) else none)))) else (bif Nat.ble 9 pc then (bif Nat.ble 12 pc then (bif Nat.ble 15 pc then (bif Nat.beq pc 15 then some (.return_, 0) else none) else (bif Nat.beq pc 12 then some (.invokevirtual 68, 43) else none)) else (bif Nat.ble 10 pc then (bif Nat.beq pc 10 then some (.bipush (6), 0) else none) else (bif Nat.beq pc 9 then some (.aload_n 0, 0) else none))) else (bif Nat.ble 4 pc then (bif Nat.ble 6 pc then (bif Nat.beq pc 6 then some (.if_icmp .lt (10), 16) else none) else (bif Nat.beq pc 4 then some (.bipush (80), 0) else none)) else (bif Nat.ble 1 pc then (bif Nat.beq pc 1 then some (.getfield 42, 406) else none) else (bif Nat.beq pc 0 then some (.aload_n 0, 0) else none)))))))
def am_f35 (pc : Nat) : Option (Instr × Nat) := am_gd 36 pc (bif Nat.ble 19 pc then (bif Nat.ble 26 pc then (bif Nat.ble 31 pc then (bif Nat.ble 34 pc then (bif Nat.ble 35 pc then (bif Nat.beq pc 35 then some (.ireturn, 0) else none) else (bif Nat.beq pc 34 then some (.iload_n 1, 0) else none)) else (bif Nat.beq pc 31 then some (.putfield 36, 404) else none)) else (bif Nat.ble 29 pc then (bif Nat.ble 30 pc then (bif Nat.beq pc 30 then some (.iadd, 0) else none) else (bif Nat.beq pc 29 then some (.iconst (1), 0) else none)) else (bif Nat.beq pc 26 then some (.getfield 36, 404) else none))) else (bif Nat.ble 23 pc then (bif Nat.ble 24 pc then (bif Nat.ble 25 pc then (bif Nat.beq pc 25 then some (.dup, 0) else none) else (bif Nat.beq pc 24 then some (.aload_n 0, 0) else none)) else (bif Nat.beq pc 23 then some (.ireturn, 0) else none)) else (bif Nat.ble 22 pc then (bif Nat.beq pc 22 then some (.iconst (0), 0) else none) else (bif Nat.beq pc 19 then some (.invokevirtual 68, 43) else none)))) else (bif Nat.ble 8 pc then (bif Nat.ble 14 pc then (bif Nat.ble 17 pc then (bif Nat.ble 18 pc then (bif Nat.beq pc 18 then some (.iconst (1), 0) else none) else (bif Nat.beq pc 17 then some (.aload_n 0, 0) else none)) else (bif Nat.beq pc 14 then some (.ifCond .ne (10), 24) else none)) else (bif Nat.ble 9 pc then (bif Nat.ble 11 pc then (bif Nat.beq pc 11 then some (.invokestatic 97, 86) else none) else (bif Nat.beq pc 9 then some (.bipush (8), 0) else none)) else (bif Nat.beq pc 8 then some (.iload_n 1, 0) else none))) else (bif Nat.ble 4 pc then (bif Nat.ble 6 pc then (bif Nat.ble 7 pc then (bif Nat.beq pc 7 then some (.istore_n 1, 0) else none) else (bif Nat.beq pc 6 then some (.isub, 0) else none)) else (bif Nat.beq pc 4 then some (.bipush (97), 0) else none)) else (bif Nat.ble 1 pc then (bif Nat.beq pc 1 then some (.invokevirtual 61, 40) else none) else (bif Nat.beq pc 0 then some (.aload_n 0, 0) else none)))))
def am_f36 (pc : Nat) : Option (Instr × Nat) := am_gd 76 pc (bif Nat.ble 38 pc then (bif Nat.ble 56 pc then (bif Nat.ble 64 pc then (bif Nat.ble 71 pc then (bif Nat.ble 74 pc then (bif Nat.ble 75 pc then (bif Nat.beq pc 75 then some (.ireturn, 0) else none) else (bif Nat.beq pc 74 then some (.iload_n 1, 0) else none)) else (bif Nat.beq pc 71 then some (.goto (-67), 4) else none)) else (bif Nat.ble 65 pc then (bif Nat.ble 68 pc then (bif Nat.beq pc 68 then some (.iinc 2 (1), 0) else none) else (bif Nat.beq pc 65 then some (.putfield 36, 404) else none)) else (bif Nat.beq pc 64 then some (.iadd, 0) else none))) else (bif Nat.ble 59 pc then (bif Nat.ble 60 pc then (bif Nat.ble 63 pc then (bif Nat.beq pc 63 then some (.iconst (1), 0) else none) else (bif Nat.beq pc 60 then some (.getfield 36, 404) else none)) else (bif Nat.beq pc 59 then some (.dup, 0) else none)) else (bif Nat.ble 57 pc then (bif Nat.ble 58 pc then (bif Nat.beq pc 58 then some (.aload_n 0, 0) else none) else (bif Nat.beq pc 57 then some (.istore_n 1, 0) else none)) else (bif Nat.beq pc 56 then some (.iadd, 0) else none)))) else (bif Nat.ble 49 pc then (bif Nat.ble 52 pc then (bif Nat.ble 54 pc then (bif Nat.ble 55 pc then (bif Nat.beq pc 55 then some (.iload_n 3, 0) else none) else (bif Nat.beq pc 54 then some (.imul, 0) else none)) else (bif Nat.beq pc 52 then some (.bipush (10), 0) else none)) else (bif Nat.ble 50 pc then (bif Nat.ble 51 pc then (bif Nat.beq pc 51 then some (.iload_n 1, 0) else none) else (bif Nat.beq pc 50 then some (.ireturn, 0) else none)) else (bif Nat.beq pc 49 then some (.iload_n 1, 0) else none))) else (bif Nat.ble 44 pc then (bif Nat.ble 45 pc then (bif Nat.ble 46 pc then (bif Nat.beq pc 46 then some (.invokevirtual 68, 43) else none) else (bif Nat.beq pc 45 then some (.iconst (2), 0) else none)) else (bif Nat.beq pc 44 then some (.aload_n 0, 0) else none)) else (bif Nat.ble 39 pc then (bif Nat.ble 41 pc then (bif Nat.beq pc 41 then some (.if_icmp .ne (10), 51) else none) else (bif Nat.beq pc 39 then some (.bipush (6), 0) else none)) else (bif Nat.beq pc 38 then some (.iload_n 2, 0) else none))))) else (bif Nat.ble 17 pc then (bif Nat.ble 28 pc then (bif Nat.ble 33 pc then (bif Nat.ble 36 pc then (bif Nat.ble 37 pc then (bif Nat.beq pc 37 then some (.ireturn, 0) else none) else (bif Nat.beq pc 36 then some (.iload_n 1, 0) else none)) else (bif Nat.beq pc 33 then some (.invokevirtual 68, 43) else none)) else (bif Nat.ble 31 pc then (bif Nat.ble 32 pc then (bif Nat.beq pc 32 then some (.iconst (1), 0) else none) else (bif Nat.beq pc 31 then some (.aload_n 0, 0) else none)) else (bif Nat.beq pc 28 then some (.ifCond .ne (8), 36) else none))) else (bif Nat.ble 21 pc then (bif Nat.ble 24 pc then (bif Nat.ble 27 pc then (bif Nat.beq pc 27 then some (.iload_n 2, 0) else none) else (bif Nat.beq pc 24 then some (.ifCond .ne (14), 38) else none)) else (bif Nat.beq pc 21 then some (.invokestatic 97, 86) else none)) else (bif Nat.ble 18 pc then (bif Nat.ble 19 pc then (bif Nat.beq pc 19 then some (.bipush (10), 0) else none) else (bif Nat.beq pc 18 then some (.iload_n 3, 0) else none)) else (bif Nat.beq pc 17 then some (.istore_n 3, 0) else none)))) else (bif Nat.ble 5 pc then (bif Nat.ble 11 pc then (bif Nat.ble 14 pc then (bif Nat.ble 16 pc then (bif Nat.beq pc 16 then some (.isub, 0) else none) else (bif Nat.beq pc 14 then some (.bipush (48), 0) else none)) else (bif Nat.beq pc 11 then some (.invokevirtual 61, 40) else none)) else (bif Nat.ble 7 pc then (bif Nat.ble 10 pc then (bif Nat.beq pc 10 then some (.aload_n 0, 0) else none) else (bif Nat.beq pc 7 then some (.if_icmp .gt (67), 74) else none)) else (bif Nat.beq pc 5 then some (.bipush (6), 0) else none))) else (bif Nat.ble 2 pc then (bif Nat.ble 3 pc then (bif Nat.ble 4 pc then (bif Nat.beq pc 4 then some (.iload_n 2, 0) else none) else (bif Nat.beq pc 3 then some (.istore_n 2, 0) else none)) else (bif Nat.beq pc 2 then some (.iconst (0), 0) else none)) else (bif Nat.ble 1 pc then (bif Nat.beq pc 1 then some (.istore_n 1, 0) else none) else (bif Nat.beq pc 0 then some (.iconst (0), 0) else none))))))
def am_f37 (pc : Nat) : Option (Instr × Nat) := am_gd 39 pc (bif Nat.ble 18 pc then (bif Nat.ble 27 pc then (bif Nat.ble 32 pc then (bif Nat.ble 35 pc then (bif Nat.ble 38 pc then (bif Nat.beq pc 38 then some (.return_, 0) else none) else (bif Nat.beq pc 35 then some (.goto (-33), 2) else none)) else (bif Nat.beq pc 32 then some (.iinc 1 (1), 0) else none)) else (bif Nat.ble 28 pc then (bif Nat.ble 29 pc then (bif Nat.beq pc 29 then some (.putfield 36, 404) else none) else (bif Nat.beq pc 28 then some (.iadd, 0) else none)) else (bif Nat.beq pc 27 then some (.iconst (1), 0) else none))) else (bif Nat.ble 22 pc then (bif Nat.ble 23 pc then (bif Nat.ble 24 pc then (bif Nat.beq pc 24 then some (.getfield 36, 404) else none) else (bif Nat.beq pc 23 then some (.dup, 0) else none)) else (bif Nat.beq pc 22 then some (.aload_n 0, 0) else none)) else (bif Nat.ble 21 pc then (bif Nat.beq pc 21 then some (.return_, 0) else none) else (bif Nat.beq pc 18 then some (.ifCond .ne (4), 22) else none)))) else (bif Nat.ble 7 pc then (bif Nat.ble 12 pc then (bif Nat.ble 13 pc then (bif Nat.ble 15 pc then (bif Nat.beq pc 15 then some (.invokevirtual 74, 41) else none) else (bif Nat.beq pc 13 then some (.bipush (44), 0) else none)) else (bif Nat.beq pc 12 then some (.aload_n 0, 0) else none)) else (bif Nat.ble 8 pc then (bif Nat.ble 9 pc then (bif Nat.beq pc 9 then some (.invokevirtual 101, 38) else none) else (bif Nat.beq pc 8 then some (.iload_n 1, 0) else none)) else (bif Nat.beq pc 7 then some (.aload_n 0, 0) else none))) else (bif Nat.ble 2 pc then (bif Nat.ble 3 pc then (bif Nat.ble 4 pc then (bif Nat.beq pc 4 then some (.if_icmp .gt (34), 38) else none) else (bif Nat.beq pc 3 then some (.iconst (4), 0) else none)) else (bif Nat.beq pc 2 then some (.iload_n 1, 0) else none)) else (bif Nat.ble 1 pc then (bif Nat.beq pc 1 then some (.istore_n 1, 0) else none) else (bif Nat.beq pc 0 then some (.iconst (0), 0) else none)))))
def am_f38 (pc : Nat) : Option (Instr × Nat) := am_gd 119 pc (bif Nat.ble 56 pc then (bif Nat.ble 87 pc then (bif Nat.ble 102 pc then (bif Nat.ble 110 pc then (bif Nat.ble 114 pc then (bif Nat.ble 115 pc then (bif Nat.ble 118 pc then (bif Nat.beq pc 118 then some (.return_, 0) else none) else (bif Nat.beq pc 115 then some (.invokevirtual 104, 21) else none)) else (bif Nat.beq pc 114 then some (.ior, 0) else none)) else (bif Nat.ble 113 pc then (bif Nat.beq pc 113 then some (.iconst (0), 0) else none) else (bif Nat.beq pc 110 then some (.goto (4), 114) else none))) else (bif Nat.ble 105 pc then (bif Nat.ble 108 pc then (bif Nat.beq pc 108 then some (.bipush (16), 0) else none) else (bif Nat.beq pc 105 then some (.if_icmp .ne (8), 113) else none)) else (bif Nat.ble 103 pc then (bif Nat.beq pc 103 then some (.bipush (43), 0) else none) else (bif Nat.beq pc 102 then some (.iload_n 3, 0) else none)))) else (bif Nat.ble 95 pc then (bif Nat.ble 100 pc then (bif Nat.ble 101 pc then (bif Nat.beq pc 101 then some (.ior, 0) else none) else (bif Nat.beq pc 100 then some (.iconst (0), 0) else none)) else (bif Nat.ble 97 pc then (bif Nat.beq pc 97 then some (.goto (4), 101) else none) else (bif Nat.beq pc 95 then some (.bipush (8), 0) else none))) else (bif Nat.ble 90 pc then (bif Nat.ble 92 pc then (bif Nat.beq pc 92 then some (.if_icmp .ne (8), 100) else none) else (bif Nat.beq pc 90 then some (.bipush (121), 0) else none)) else (bif Nat.ble 89 pc then (bif Nat.beq pc 89 then some (.iload_n 2, 0) else none) else (bif Nat.beq pc 87 then some (.iload 4, 0) else none))))) else (bif Nat.ble 69 pc then (bif Nat.ble 77 pc then (bif Nat.ble 81 pc then (bif Nat.ble 83 pc then (bif Nat.ble 84 pc then (bif Nat.beq pc 84 then some (.getfield 18, 401) else none) else (bif Nat.beq pc 83 then some (.aload_n 0, 0) else none)) else (bif Nat.beq pc 81 then some (.istore 4, 0) else none)) else (bif Nat.ble 78 pc then (bif Nat.beq pc 78 then some (.invokevirtual 91, 35) else none) else (bif Nat.beq pc 77 then some (.aload_n 0, 0) else none))) else (bif Nat.ble 73 pc then (bif Nat.ble 74 pc then (bif Nat.beq pc 74 then some (.putfield 36, 404) else none) else (bif Nat.beq pc 73 then some (.iadd, 0) else none)) else (bif Nat.ble 72 pc then (bif Nat.beq pc 72 then some (.iconst (1), 0) else none) else (bif Nat.beq pc 69 then some (.getfield 36, 404) else none)))) else (bif Nat.ble 63 pc then (bif Nat.ble 67 pc then (bif Nat.ble 68 pc then (bif Nat.beq pc 68 then some (.dup, 0) else none) else (bif Nat.beq pc 67 then some (.aload_n 0, 0) else none)) else (bif Nat.ble 66 pc then (bif Nat.beq pc 66 then some (.return_, 0) else none) else (bif Nat.beq pc 63 then some (.invokevirtual 68, 43) else none))) else (bif Nat.ble 61 pc then (bif Nat.ble 62 pc then (bif Nat.beq pc 62 then some (.iconst (1), 0) else none) else (bif Nat.beq pc 61 then some (.aload_n 0, 0) else none)) else (bif Nat.ble 58 pc then (bif Nat.beq pc 58 then some (.if_icmp .eq (9), 67) else none) else (bif Nat.beq pc 56 then some (.bipush (45), 0) else none)))))) else (bif Nat.ble 28 pc then (bif Nat.ble 40 pc then (bif Nat.ble 48 pc then (bif Nat.ble 50 pc then (bif Nat.ble 52 pc then (bif Nat.ble 55 pc then (bif Nat.beq pc 55 then some (.iload_n 3, 0) else none) else (bif Nat.beq pc 52 then some (.if_icmp .eq (15), 67) else none)) else (bif Nat.beq pc 50 then some (.bipush (43), 0) else none)) else (bif Nat.ble 49 pc then (bif Nat.beq pc 49 then some (.iload_n 3, 0) else none) else (bif Nat.beq pc 48 then some (.istore_n 3, 0) else none))) else (bif Nat.ble 44 pc then (bif Nat.ble 45 pc then (bif Nat.beq pc 45 then some (.invokevirtual 61, 40) else none) else (bif Nat.beq pc 44 then some (.aload_n 0, 0) else none)) else (bif Nat.ble 41 pc then (bif Nat.beq pc 41 then some (.putfield 36, 404) else none) else (bif Nat.beq pc 40 then some (.iadd, 0) else none)))) else (bif Nat.ble 34 pc then (bif Nat.ble 36 pc then (bif Nat.ble 39 pc then (bif Nat.beq pc 39 then some (.iconst (1), 0) else none) else (bif Nat.beq pc 36 then some (.getfield 36, 404) else none)) else (bif Nat.ble 35 pc then (bif Nat.beq pc 35 then some (.dup, 0) else none) else (bif Nat.beq pc 34 then some (.aload_n 0, 0) else none))) else (bif Nat.ble 30 pc then (bif Nat.ble 33 pc then (bif Nat.beq pc 33 then some (.return_, 0) else none) else (bif Nat.beq pc 30 then some (.invokevirtual 68, 43) else none)) else (bif Nat.ble 29 pc then (bif Nat.beq pc 29 then some (.iconst (3), 0) else none) else (bif Nat.beq pc 28 then some (.aload_n 0, 0) else none))))) else (bif Nat.ble 14 pc then (bif Nat.ble 22 pc then (bif Nat.ble 24 pc then (bif Nat.ble 25 pc then (bif Nat.beq pc 25 then some (.if_icmp .lt (9), 34) else none) else (bif Nat.beq pc 24 then some (.iconst (4), 0) else none)) else (bif Nat.ble 23 pc then (bif Nat.beq pc 23 then some (.iload_n 1, 0) else none) else (bif Nat.beq pc 22 then some (.return_, 0) else none))) else (bif Nat.ble 18 pc then (bif Nat.ble 19 pc then (bif Nat.beq pc 19 then some (.invokevirtual 68, 43) else none) else (bif Nat.beq pc 18 then some (.iconst (1), 0) else none)) else (bif Nat.ble 17 pc then (bif Nat.beq pc 17 then some (.aload_n 0, 0) else none) else (bif Nat.beq pc 14 then some (.if_icmp .eq (9), 23) else none)))) else (bif Nat.ble 6 pc then (bif Nat.ble 11 pc then (bif Nat.ble 12 pc then (bif Nat.beq pc 12 then some (.bipush (121), 0) else none) else (bif Nat.beq pc 11 then some (.iload_n 2, 0) else none)) else (bif Nat.ble 8 pc then (bif Nat.beq pc 8 then some (.if_icmp .eq (15), 23) else none) else (bif Nat.beq pc 6 then some (.bipush (120), 0) else none))) else (bif Nat.ble 4 pc then (bif Nat.ble 5 pc then (bif Nat.beq pc 5 then some (.iload_n 2, 0) else none) else (bif Nat.beq pc 4 then some (.istore_n 2, 0) else none)) else (bif Nat.ble 1 pc then (bif Nat.beq pc 1 then some (.invokevirtual 61, 40) else none) else (bif Nat.beq pc 0 then some (.aload_n 0, 0) else none)))))))
def am_f39 (pc : Nat) : Option (Instr × Nat) := am_gd 54 pc (bif Nat.ble 48 pc then (bif Nat.ble 51 pc then (bif Nat.ble 52 pc then (bif Nat.ble 53 pc then (bif Nat.beq pc 53 then some (.ireturn, 0) else none) else (bif Nat.beq pc 52 then some (.iconst (-1), 0) else none)) else (bif Nat.beq pc 51 then some (.ireturn, 0) else none)) else (bif Nat.ble 49 pc then (bif Nat.ble 50 pc then (bif Nat.beq pc 50 then some (.iconst (3), 0) else none) else (bif Nat.beq pc 49 then some (.ireturn, 0) else none)) else (bif Nat.beq pc 48 then some (.iconst (2), 0) else none))) else (bif Nat.ble 45 pc then (bif Nat.ble 46 pc then (bif Nat.ble 47 pc then (bif Nat.beq pc 47 then some (.ireturn, 0) else none) else (bif Nat.beq pc 46 then some (.iconst (1), 0) else none)) else (bif Nat.beq pc 45 then some (.ireturn, 0) else none)) else (bif Nat.ble 1 pc then (bif Nat.ble 44 pc then (bif Nat.beq pc 44 then some (.iconst (0), 0) else none) else (bif Nat.beq pc 1 then some (.lookupswitch (51) #[(99, 47), (107, 45), (108, 49), (116, 43)], 0) else none)) else (bif Nat.beq pc 0 then some (.iload_n 0, 0) else none))))
def am_f40 (pc : Nat) : Option (Instr × Nat) := am_gd 51 pc (bif Nat.ble 26 pc then (bif Nat.ble 38 pc then (bif Nat.ble 45 pc then (bif Nat.ble 49 pc then (bif Nat.ble 50 pc then (bif Nat.beq pc 50 then some (.ireturn, 0) else none) else (bif Nat.beq pc 49 then some (.iconst (-1), 0) else none)) else (bif Nat.ble 46 pc then (bif Nat.beq pc 46 then some (.goto (4), 50) else none) else (bif Nat.beq pc 45 then some (.iaload, 0) else none))) else (bif Nat.ble 41 pc then (bif Nat.ble 42 pc then (bif Nat.beq pc 42 then some (.getfield 36, 404) else none) else (bif Nat.beq pc 41 then some (.aload_n 0, 0) else none)) else (bif Nat.beq pc 38 then some (.getfield 11, 400) else none))) else (bif Nat.ble 33 pc then (bif Nat.ble 34 pc then (bif Nat.ble 37 pc then (bif Nat.beq pc 37 then some (.aload_n 0, 0) else none) else (bif Nat.beq pc 34 then some (.if_icmp .ge (15), 49) else none)) else (bif Nat.beq pc 33 then some (.arraylength, 0) else none)) else (bif Nat.ble 29 pc then (bif Nat.ble 30 pc then (bif Nat.beq pc 30 then some (.getfield 11, 400) else none) else (bif Nat.beq pc 29 then some (.aload_n 0, 0) else none)) else (bif Nat.beq pc 26 then some (.getfield 36, 404) else none)))) else (bif Nat.ble 14 pc then (bif Nat.ble 19 pc then (bif Nat.ble 22 pc then (bif Nat.ble 25 pc then (bif Nat.beq pc 25 then some (.aload_n 0, 0) else none) else (bif Nat.beq pc 22 then some (.if_icmp .ge (27), 49) else none)) else (bif Nat.beq pc 19 then some (.getfield 33, 403) else none)) else (bif Nat.ble 15 pc then (bif Nat.ble 18 pc then (bif Nat.beq pc 18 then some (.aload_n 0, 0) else none) else (bif Nat.beq pc 15 then some (.getfield 36, 404) else none)) else (bif Nat.beq pc 14 then some (.aload_n 0, 0) else none))) else (bif Nat.ble 7 pc then (bif Nat.ble 8 pc then (bif Nat.ble 11 pc then (bif Nat.beq pc 11 then some (.ifCond .lt (38), 49) else none) else (bif Nat.beq pc 8 then some (.getfield 36, 404) else none)) else (bif Nat.beq pc 7 then some (.aload_n 0, 0) else none)) else (bif Nat.ble 1 pc then (bif Nat.ble 4 pc then (bif Nat.beq pc 4 then some (.ifCond .ne (45), 49) else none) else (bif Nat.beq pc 1 then some (.getfield 39, 405) else none)) else (bif Nat.beq pc 0 then some (.aload_n 0, 0) else none)))))
def am_f41 (pc : Nat) : Option (Instr × Nat) := am_gd 14 pc (bif Nat.ble 8 pc then (bif Nat.ble 12 pc then (bif Nat.ble 13 pc then (bif Nat.beq pc 13 then some (.ireturn, 0) else none) else (bif Nat.beq pc 12 then some (.iconst (0), 0) else none)) else (bif Nat.ble 9 pc then (bif Nat.beq pc 9 then some (.goto (4), 13) else none) else (bif Nat.beq pc 8 then some (.iconst (1), 0) else none))) else (bif Nat.ble 4 pc then (bif Nat.ble 5 pc then (bif Nat.beq pc 5 then some (.if_icmp .ne (7), 12) else none) else (bif Nat.beq pc 4 then some (.iload_n 1, 0) else none)) else (bif Nat.ble 1 pc then (bif Nat.beq pc 1 then some (.invokevirtual 61, 40) else none) else (bif Nat.beq pc 0 then some (.aload_n 0, 0) else none))))
def am_f42 (pc : Nat) : Option (Instr × Nat) := am_gd 27 pc (bif Nat.ble 13 pc then (bif Nat.ble 21 pc then (bif Nat.ble 23 pc then (bif Nat.ble 26 pc then (bif Nat.beq pc 26 then some (.return_, 0) else none) else (bif Nat.beq pc 23 then some (.invokevirtual 68, 43) else none)) else (bif Nat.ble 22 pc then (bif Nat.beq pc 22 then some (.iconst (1), 0) else none) else (bif Nat.beq pc 21 then some (.aload_n 0, 0) else none))) else (bif Nat.ble 15 pc then (bif Nat.ble 18 pc then (bif Nat.beq pc 18 then some (.goto (8), 26) else none) else (bif Nat.beq pc 15 then some (.putfield 36, 404) else none)) else (bif Nat.ble 14 pc then (bif Nat.beq pc 14 then some (.iadd, 0) else none) else (bif Nat.beq pc 13 then some (.iconst (1), 0) else none)))) else (bif Nat.ble 5 pc then (bif Nat.ble 9 pc then (bif Nat.ble 10 pc then (bif Nat.beq pc 10 then some (.getfield 36, 404) else none) else (bif Nat.beq pc 9 then some (.dup, 0) else none)) else (bif Nat.ble 8 pc then (bif Nat.beq pc 8 then some (.aload_n 0, 0) else none) else (bif Nat.beq pc 5 then some (.ifCond .eq (16), 21) else none))) else (bif Nat.ble 1 pc then (bif Nat.ble 2 pc then (bif Nat.beq pc 2 then some (.invokevirtual 74, 41) else none) else (bif Nat.beq pc 1 then some (.iload_n 1, 0) else none)) else (bif Nat.beq pc 0 then some (.aload_n 0, 0) else none))))
def am_f43 (pc : Nat) : Option (Instr × Nat) := am_gd 13 pc (bif Nat.ble 7 pc then (bif Nat.ble 9 pc then (bif Nat.ble 12 pc then (bif Nat.beq pc 12 then some (.return_, 0) else none) else (bif Nat.beq pc 9 then some (.putfield 39, 405) else none)) else (bif Nat.ble 8 pc then (bif Nat.beq pc 8 then some (.iload_n 1, 0) else none) else (bif Nat.beq pc 7 then some (.aload_n 0, 0) else none))) else (bif Nat.ble 1 pc then (bif Nat.ble 4 pc then (bif Nat.beq pc 4 then some (.ifCond .ne (8), 12) else none) else (bif Nat.beq pc 1 then some (.getfield 39, 405) else none)) else (bif Nat.beq pc 0 then some (.aload_n 0, 0) else none)))
def am_f44 (pc : Nat) : Option (Instr × Nat) := am_gd 117 pc (bif Nat.ble 58 pc then (bif Nat.ble 88 pc then (bif Nat.ble 102 pc then (bif Nat.ble 108 pc then (bif Nat.ble 113 pc then (bif Nat.ble 116 pc then (bif Nat.beq pc 116 then some (.return_, 0) else none) else (bif Nat.beq pc 113 then some (.putfield 49, 512) else none)) else (bif Nat.ble 111 pc then (bif Nat.beq pc 111 then some (.newarray .int, 0) else none) else (bif Nat.beq pc 108 then some (.sipush (210), 0) else none))) else (bif Nat.ble 104 pc then (bif Nat.ble 107 pc then (bif Nat.beq pc 107 then some (.aload_n 0, 0) else none) else (bif Nat.beq pc 104 then some (.putfield 46, 511) else none)) else (bif Nat.beq pc 102 then some (.newarray .int, 0) else none))) else (bif Nat.ble 94 pc then (bif Nat.ble 99 pc then (bif Nat.ble 100 pc then (bif Nat.beq pc 100 then some (.bipush (10), 0) else none) else (bif Nat.beq pc 99 then some (.aload_n 0, 0) else none)) else (bif Nat.ble 96 pc then (bif Nat.beq pc 96 then some (.putfield 43, 510) else none) else (bif Nat.beq pc 94 then some (.newarray .int, 0) else none))) else (bif Nat.ble 91 pc then (bif Nat.ble 92 pc then (bif Nat.beq pc 92 then some (.bipush (10), 0) else none) else (bif Nat.beq pc 91 then some (.aload_n 0, 0) else none)) else (bif Nat.beq pc 88 then some (.putfield 40, 509) else none)))) else (bif Nat.ble 75 pc then (bif Nat.ble 80 pc then (bif Nat.ble 84 pc then (bif Nat.ble 86 pc then (bif Nat.beq pc 86 then some (.newarray .int, 0) else none) else (bif Nat.beq pc 84 then some (.bipush (10), 0) else none)) else (bif Nat.ble 83 pc then (bif Nat.beq pc 83 then some (.aload_n 0, 0) else none) else (bif Nat.beq pc 80 then some (.putfield 37, 508) else none))) else (bif Nat.ble 76 pc then (bif Nat.ble 78 pc then (bif Nat.beq pc 78 then some (.newarray .int, 0) else none) else (bif Nat.beq pc 76 then some (.bipush (10), 0) else none)) else (bif Nat.beq pc 75 then some (.aload_n 0, 0) else none))) else (bif Nat.ble 66 pc then (bif Nat.ble 70 pc then (bif Nat.ble 72 pc then (bif Nat.beq pc 72 then some (.putfield 34, 507) else none) else (bif Nat.beq pc 70 then some (.newarray .int, 0) else none)) else (bif Nat.ble 67 pc then (bif Nat.beq pc 67 then some (.sipush (200), 0) else none) else (bif Nat.beq pc 66 then some (.aload_n 0, 0) else none))) else (bif Nat.ble 61 pc then (bif Nat.ble 63 pc then (bif Nat.beq pc 63 then some (.putfield 31, 506) else none) else (bif Nat.beq pc 61 then some (.newarray .int, 0) else none)) else (bif Nat.beq pc 58 then some (.sipush (200), 0) else none))))) else (bif Nat.ble 27 pc then (bif Nat.ble 43 pc then (bif Nat.ble 49 pc then (bif Nat.ble 54 pc then (bif Nat.ble 57 pc then (bif Nat.beq pc 57 then some (.aload_n 0, 0) else none) else (bif Nat.beq pc 54 then some (.putfield 27, 505) else none)) else (bif Nat.ble 52 pc then (bif Nat.beq pc 52 then some (.newarray .boolean, 0) else none) else (bif Nat.beq pc 49 then some (.sipush (200), 0) else none))) else (bif Nat.ble 45 pc then (bif Nat.ble 48 pc then (bif Nat.beq pc 48 then some (.aload_n 0, 0) else none) else (bif Nat.beq pc 45 then some (.putfield 24, 504) else none)) else (bif Nat.beq pc 43 then some (.newarray .int, 0) else none))) else (bif Nat.ble 34 pc then (bif Nat.ble 39 pc then (bif Nat.ble 40 pc then (bif Nat.beq pc 40 then some (.sipush (200), 0) else none) else (bif Nat.beq pc 39 then some (.aload_n 0, 0) else none)) else (bif Nat.ble 36 pc then (bif Nat.beq pc 36 then some (.putfield 21, 503) else none) else (bif Nat.beq pc 34 then some (.newarray .int, 0) else none))) else (bif Nat.ble 30 pc then (bif Nat.ble 31 pc then (bif Nat.beq pc 31 then some (.sipush (200), 0) else none) else (bif Nat.beq pc 30 then some (.aload_n 0, 0) else none)) else (bif Nat.beq pc 27 then some (.putfield 18, 502) else none)))) else (bif Nat.ble 12 pc then (bif Nat.ble 18 pc then (bif Nat.ble 22 pc then (bif Nat.ble 25 pc then (bif Nat.beq pc 25 then some (.newarray .int, 0) else none) else (bif Nat.beq pc 22 then some (.sipush (200), 0) else none)) else (bif Nat.ble 21 pc then (bif Nat.beq pc 21 then some (.aload_n 0, 0) else none) else (bif Nat.beq pc 18 then some (.putfield 15, 501) else none))) else (bif Nat.ble 13 pc then (bif Nat.ble 16 pc then (bif Nat.beq pc 16 then some (.newarray .int, 0) else none) else (bif Nat.beq pc 13 then some (.sipush (200), 0) else none)) else (bif Nat.beq pc 12 then some (.aload_n 0, 0) else none))) else (bif Nat.ble 5 pc then (bif Nat.ble 7 pc then (bif Nat.ble 9 pc then (bif Nat.beq pc 9 then some (.putfield 9, 500) else none) else (bif Nat.beq pc 7 then some (.newarray .int, 0) else none)) else (bif Nat.beq pc 5 then some (.bipush (20), 0) else none)) else (bif Nat.ble 1 pc then (bif Nat.ble 4 pc then (bif Nat.beq pc 4 then some (.aload_n 0, 0) else none) else (bif Nat.beq pc 1 then some (.invokespecial 3, 1000) else none)) else (bif Nat.beq pc 0 then some (.aload_n 0, 0) else none))))))
def am_f45 (pc : Nat) : Option (Instr × Nat) := am_gd 48 pc (bif Nat.ble 26 pc then (bif Nat.ble 37 pc then (bif Nat.ble 42 pc then (bif Nat.ble 46 pc then (bif Nat.ble 47 pc then (bif Nat.beq pc 47 then some (.ireturn, 0) else none) else (bif Nat.beq pc 46 then some (.isub, 0) else none)) else (bif Nat.ble 45 pc then (bif Nat.beq pc 45 then some (.iconst (1), 0) else none) else (bif Nat.beq pc 42 then some (.getfield 52, 514) else none))) else (bif Nat.ble 38 pc then (bif Nat.ble 41 pc then (bif Nat.beq pc 41 then some (.aload_n 0, 0) else none) else (bif Nat.beq pc 38 then some (.putfield 52, 514) else none)) else (bif Nat.beq pc 37 then some (.iadd, 0) else none))) else (bif Nat.ble 31 pc then (bif Nat.ble 33 pc then (bif Nat.ble 36 pc then (bif Nat.beq pc 36 then some (.iconst (1), 0) else none) else (bif Nat.beq pc 33 then some (.getfield 52, 514) else none)) else (bif Nat.ble 32 pc then (bif Nat.beq pc 32 then some (.dup, 0) else none) else (bif Nat.beq pc 31 then some (.aload_n 0, 0) else none))) else (bif Nat.ble 29 pc then (bif Nat.ble 30 pc then (bif Nat.beq pc 30 then some (.iastore, 0) else none) else (bif Nat.beq pc 29 then some (.iload_n 1, 0) else none)) else (bif Nat.beq pc 26 then some (.getfield 52, 514) else none)))) else (bif Nat.ble 13 pc then (bif Nat.ble 20 pc then (bif Nat.ble 22 pc then (bif Nat.ble 25 pc then (bif Nat.beq pc 25 then some (.aload_n 0, 0) else none) else (bif Nat.beq pc 22 then some (.getfield 9, 500) else none)) else (bif Nat.ble 21 pc then (bif Nat.beq pc 21 then some (.aload_n 0, 0) else none) else (bif Nat.beq pc 20 then some (.ireturn, 0) else none))) else (bif Nat.ble 16 pc then (bif Nat.ble 19 pc then (bif Nat.beq pc 19 then some (.iconst (-1), 0) else none) else (bif Nat.beq pc 16 then some (.ifCond .ne (5), 21) else none)) else (bif Nat.beq pc 13 then some (.invokestatic 56, 86) else none))) else (bif Nat.ble 6 pc then (bif Nat.ble 9 pc then (bif Nat.ble 10 pc then (bif Nat.beq pc 10 then some (.sipush (256), 0) else none) else (bif Nat.beq pc 9 then some (.iload_n 1, 0) else none)) else (bif Nat.beq pc 6 then some (.if_icmp .ge (13), 19) else none)) else (bif Nat.ble 1 pc then (bif Nat.ble 4 pc then (bif Nat.beq pc 4 then some (.bipush (20), 0) else none) else (bif Nat.beq pc 1 then some (.getfield 52, 514) else none)) else (bif Nat.beq pc 0 then some (.aload_n 0, 0) else none)))))
def am_f46 (pc : Nat) : Option (Instr × Nat) := am_gd 134 pc (bif Nat.ble 68 pc then (bif Nat.ble 104 pc then (bif Nat.ble 118 pc then (bif Nat.ble 127 pc then (bif Nat.ble 131 pc then (bif Nat.ble 132 pc then (bif Nat.ble 133 pc then (bif Nat.beq pc 133 then some (.ireturn, 0) else none) else (bif Nat.beq pc 132 then some (.isub, 0) else none)) else (bif Nat.beq pc 131 then some (.iconst (1), 0) else none)) else (bif Nat.ble 128 pc then (bif Nat.beq pc 128 then some (.getfield 60, 515) else none) else (bif Nat.beq pc 127 then some (.aload_n 0, 0) else none))) else (bif Nat.ble 122 pc then (bif Nat.ble 123 pc then (bif Nat.ble 124 pc then (bif Nat.beq pc 124 then some (.putfield 60, 515) else none) else (bif Nat.beq pc 123 then some (.iadd, 0) else none)) else (bif Nat.beq pc 122 then some (.iconst (1), 0) else none)) else (bif Nat.ble 119 pc then (bif Nat.beq pc 119 then some (.getfield 60, 515) else none) else (bif Nat.beq pc 118 then some (.dup, 0) else none)))) else (bif Nat.ble 109 pc then (bif Nat.ble 113 pc then (bif Nat.ble 114 pc then (bif Nat.ble 117 pc then (bif Nat.beq pc 117 then some (.aload_n 0, 0) else none) else (bif Nat.beq pc 114 then some (.invokevirtual 67, 49) else none)) else (bif Nat.beq pc 113 then some (.iadd, 0) else none)) else (bif Nat.ble 110 pc then (bif Nat.beq pc 110 then some (.getfield 60, 515) else none) else (bif Nat.beq pc 109 then some (.aload_n 0, 0) else none))) else (bif Nat.ble 106 pc then (bif Nat.ble 107 pc then (bif Nat.beq pc 107 then some (.bipush (10), 0) else none) else (bif Nat.beq pc 106 then some (.aload_n 0, 0) else none)) else (bif Nat.ble 105 pc then (bif Nat.beq pc 105 then some (.iastore, 0) else none) else (bif Nat.beq pc 104 then some (.iconst (-1), 0) else none))))) else (bif Nat.ble 85 pc then (bif Nat.ble 95 pc then (bif Nat.ble 97 pc then (bif Nat.ble 100 pc then (bif Nat.ble 101 pc then (bif Nat.beq pc 101 then some (.getfield 60, 515) else none) else (bif Nat.beq pc 100 then some (.aload_n 0, 0) else none)) else (bif Nat.beq pc 97 then some (.getfield 34, 507) else none)) else (bif Nat.ble 96 pc then (bif Nat.beq pc 96 then some (.aload_n 0, 0) else none) else (bif Nat.beq pc 95 then some (.iastore, 0) else none))) else (bif Nat.ble 89 pc then (bif Nat.ble 90 pc then (bif Nat.ble 93 pc then (bif Nat.beq pc 93 then some (.iload 6, 0) else none) else (bif Nat.beq pc 90 then some (.getfield 60, 515) else none)) else (bif Nat.beq pc 89 then some (.aload_n 0, 0) else none)) else (bif Nat.ble 86 pc then (bif Nat.beq pc 86 then some (.getfield 31, 506) else none) else (bif Nat.beq pc 85 then some (.aload_n 0, 0) else none)))) else (bif Nat.ble 75 pc then (bif Nat.ble 79 pc then (bif Nat.ble 82 pc then (bif Nat.ble 84 pc then (bif Nat.beq pc 84 then some (.bastore, 0) else none) else (bif Nat.beq pc 82 then some (.iload 5, 0) else none)) else (bif Nat.beq pc 79 then some (.getfield 60, 515) else none)) else (bif Nat.ble 78 pc then (bif Nat.beq pc 78 then some (.aload_n 0, 0) else none) else (bif Nat.beq pc 75 then some (.getfield 27, 505) else none))) else (bif Nat.ble 73 pc then (bif Nat.ble 74 pc then (bif Nat.beq pc 74 then some (.aload_n 0, 0) else none) else (bif Nat.beq pc 73 then some (.iastore, 0) else none)) else (bif Nat.ble 71 pc then (bif Nat.beq pc 71 then some (.iload 4, 0) else none) else (bif Nat.beq pc 68 then some (.getfield 60, 515) else none)))))) else (bif Nat.ble 37 pc then (bif Nat.ble 52 pc then (bif Nat.ble 61 pc then (bif Nat.ble 63 pc then (bif Nat.ble 64 pc then (bif Nat.ble 67 pc then (bif Nat.beq pc 67 then some (.aload_n 0, 0) else none) else (bif Nat.beq pc 64 then some (.getfield 24, 504) else none)) else (bif Nat.beq pc 63 then some (.aload_n 0, 0) else none)) else (bif Nat.ble 62 pc then (bif Nat.beq pc 62 then some (.iastore, 0) else none) else (bif Nat.beq pc 61 then some (.iload_n 3, 0) else none))) else (bif Nat.ble 54 pc then (bif Nat.ble 57 pc then (bif Nat.ble 58 pc then (bif Nat.beq pc 58 then some (.getfield 60, 515) else none) else (bif Nat.beq pc 57 then some (.aload_n 0, 0) else none)) else (bif Nat.beq pc 54 then some (.getfield 21, 503) else none)) else (bif Nat.ble 53 pc then (bif Nat.beq pc 53 then some (.aload_n 0, 0) else none) else (bif Nat.beq pc 52 then some (.iastore, 0) else none)))) else (bif Nat.ble 43 pc then (bif Nat.ble 47 pc then (bif Nat.ble 48 pc then (bif Nat.ble 51 pc then (bif Nat.beq pc 51 then some (.iload_n 2, 0) else none) else (bif Nat.beq pc 48 then some (.getfield 60, 515) else none)) else (bif Nat.beq pc 47 then some (.aload_n 0, 0) else none)) else (bif Nat.ble 44 pc then (bif Nat.beq pc 44 then some (.getfield 18, 502) else none) else (bif Nat.beq pc 43 then some (.aload_n 0, 0) else none))) else (bif Nat.ble 41 pc then (bif Nat.ble 42 pc then (bif Nat.beq pc 42 then some (.iastore, 0) else none) else (bif Nat.beq pc 41 then some (.iload_n 1, 0) else none)) else (bif Nat.ble 38 pc then (bif Nat.beq pc 38 then some (.getfield 60, 515) else none) else (bif Nat.beq pc 37 then some (.aload_n 0, 0) else none))))) else (bif Nat.ble 21 pc then (bif Nat.ble 28 pc then (bif Nat.ble 32 pc then (bif Nat.ble 33 pc then (bif Nat.ble 34 pc then (bif Nat.beq pc 34 then some (.getfield 15, 501) else none) else (bif Nat.beq pc 33 then some (.aload_n 0, 0) else none)) else (bif Nat.beq pc 32 then some (.ireturn, 0) else none)) else (bif Nat.ble 31 pc then (bif Nat.beq pc 31 then some (.iconst (-1), 0) else none) else (bif Nat.beq pc 28 then some (.ifCond .ne (5), 33) else none))) else (bif Nat.ble 23 pc then (bif Nat.ble 24 pc then (bif Nat.ble 25 pc then (bif Nat.beq pc 25 then some (.invokevirtual 63, 47) else none) else (bif Nat.beq pc 24 then some (.iload_n 3, 0) else none)) else (bif Nat.beq pc 23 then some (.iload_n 2, 0) else none)) else (bif Nat.ble 22 pc then (bif Nat.beq pc 22 then some (.iload_n 1, 0) else none) else (bif Nat.beq pc 21 then some (.aload_n 0, 0) else none)))) else (bif Nat.ble 10 pc then (bif Nat.ble 12 pc then (bif Nat.ble 15 pc then (bif Nat.ble 18 pc then (bif Nat.beq pc 18 then some (.ifCond .eq (13), 31) else none) else (bif Nat.beq pc 15 then some (.invokestatic 56, 86) else none)) else (bif Nat.beq pc 12 then some (.getfield 52, 514) else none)) else (bif Nat.ble 11 pc then (bif Nat.beq pc 11 then some (.aload_n 0, 0) else none) else (bif Nat.beq pc 10 then some (.iload_n 2, 0) else none))) else (bif Nat.ble 4 pc then (bif Nat.ble 7 pc then (bif Nat.beq pc 7 then some (.if_icmp .ge (24), 31) else none) else (bif Nat.beq pc 4 then some (.sipush (200), 0) else none)) else (bif Nat.ble 1 pc then (bif Nat.beq pc 1 then some (.getfield 60, 515) else none) else (bif Nat.beq pc 0 then some (.aload_n 0, 0) else none)))))))
def am_f47 (pc : Nat) : Option (Instr × Nat) := am_gd 67 pc (bif Nat.ble 49 pc then (bif Nat.ble 59 pc then (bif Nat.ble 64 pc then (bif Nat.ble 65 pc then (bif Nat.ble 66 pc then (bif Nat.beq pc 66 then some (.ireturn, 0) else none) else (bif Nat.beq pc 65 then some (.iconst (0), 0) else none)) else (bif Nat.beq pc 64 then some (.ireturn, 0) else none)) else (bif Nat.ble 60 pc then (bif Nat.ble 63 pc then (bif Nat.beq pc 63 then some (.iconst (0), 0) else none) else (bif Nat.beq pc 60 then some (.goto (4), 64) else none)) else (bif Nat.beq pc 59 then some (.iconst (1), 0) else none))) else (bif Nat.ble 54 pc then (bif Nat.ble 55 pc then (bif Nat.ble 56 pc then (bif Nat.beq pc 56 then some (.if_icmp .ne (7), 63) else none) else (bif Nat.beq pc 55 then some (.iconst (-1), 0) else none)) else (bif Nat.beq pc 54 then some (.iload_n 3, 0) else none)) else (bif Nat.ble 52 pc then (bif Nat.ble 53 pc then (bif Nat.beq pc 53 then some (.ireturn, 0) else none) else (bif Nat.beq pc 52 then some (.iconst (0), 0) else none)) else (bif Nat.beq pc 49 then some (.goto (4), 53) else none)))) else (bif Nat.ble 37 pc then (bif Nat.ble 44 pc then (bif Nat.ble 45 pc then (bif Nat.ble 48 pc then (bif Nat.beq pc 48 then some (.iconst (1), 0) else none) else (bif Nat.beq pc 45 then some (.if_icmp .eq (7), 52) else none)) else (bif Nat.beq pc 44 then some (.iload_n 3, 0) else none)) else (bif Nat.ble 40 pc then (bif Nat.ble 43 pc then (bif Nat.beq pc 43 then some (.iload_n 2, 0) else none) else (bif Nat.beq pc 40 then some (.ifCond .eq (12), 52) else none)) else (bif Nat.beq pc 37 then some (.invokestatic 56, 86) else none))) else (bif Nat.ble 32 pc then (bif Nat.ble 33 pc then (bif Nat.ble 34 pc then (bif Nat.beq pc 34 then some (.getfield 52, 514) else none) else (bif Nat.beq pc 33 then some (.aload_n 0, 0) else none)) else (bif Nat.beq pc 32 then some (.iload_n 3, 0) else none)) else (bif Nat.ble 1 pc then (bif Nat.beq pc 1 then some (.tableswitch (64) (0) (3) #[31, 31, 53, 53], 0) else none) else (bif Nat.beq pc 0 then some (.iload_n 1, 0) else none)))))
def am_f48 (pc : Nat) : Option (Instr × Nat) := am_gd 97 pc (bif Nat.ble 51 pc then (bif Nat.ble 73 pc then (bif Nat.ble 86 pc then (bif Nat.ble 91 pc then (bif Nat.ble 95 pc then (bif Nat.ble 96 pc then (bif Nat.beq pc 96 then some (.ireturn, 0) else none) else (bif Nat.beq pc 95 then some (.isub, 0) else none)) else (bif Nat.ble 94 pc then (bif Nat.beq pc 94 then some (.iconst (1), 0) else none) else (bif Nat.beq pc 91 then some (.getfield 71, 516) else none))) else (bif Nat.ble 87 pc then (bif Nat.ble 90 pc then (bif Nat.beq pc 90 then some (.aload_n 0, 0) else none) else (bif Nat.beq pc 87 then some (.putfield 71, 516) else none)) else (bif Nat.beq pc 86 then some (.iadd, 0) else none))) else (bif Nat.ble 80 pc then (bif Nat.ble 82 pc then (bif Nat.ble 85 pc then (bif Nat.beq pc 85 then some (.iconst (1), 0) else none) else (bif Nat.beq pc 82 then some (.getfield 71, 516) else none)) else (bif Nat.ble 81 pc then (bif Nat.beq pc 81 then some (.dup, 0) else none) else (bif Nat.beq pc 80 then some (.aload_n 0, 0) else none))) else (bif Nat.ble 74 pc then (bif Nat.ble 77 pc then (bif Nat.beq pc 77 then some (.invokevirtual 67, 49) else none) else (bif Nat.beq pc 74 then some (.getfield 71, 516) else none)) else (bif Nat.beq pc 73 then some (.aload_n 0, 0) else none)))) else (bif Nat.ble 61 pc then (bif Nat.ble 66 pc then (bif Nat.ble 71 pc then (bif Nat.ble 72 pc then (bif Nat.beq pc 72 then some (.aload_n 0, 0) else none) else (bif Nat.beq pc 71 then some (.iastore, 0) else none)) else (bif Nat.ble 69 pc then (bif Nat.beq pc 69 then some (.iload 4, 0) else none) else (bif Nat.beq pc 66 then some (.getfield 71, 516) else none))) else (bif Nat.ble 62 pc then (bif Nat.ble 65 pc then (bif Nat.beq pc 65 then some (.aload_n 0, 0) else none) else (bif Nat.beq pc 62 then some (.getfield 46, 511) else none)) else (bif Nat.beq pc 61 then some (.aload_n 0, 0) else none))) else (bif Nat.ble 56 pc then (bif Nat.ble 59 pc then (bif Nat.ble 60 pc then (bif Nat.beq pc 60 then some (.iastore, 0) else none) else (bif Nat.beq pc 59 then some (.iload_n 3, 0) else none)) else (bif Nat.beq pc 56 then some (.getfield 71, 516) else none)) else (bif Nat.ble 52 pc then (bif Nat.ble 55 pc then (bif Nat.beq pc 55 then some (.aload_n 0, 0) else none) else (bif Nat.beq pc 52 then some (.getfield 43, 510) else none)) else (bif Nat.beq pc 51 then some (.aload_n 0, 0) else none))))) else (bif Nat.ble 29 pc then (bif Nat.ble 40 pc then (bif Nat.ble 45 pc then (bif Nat.ble 49 pc then (bif Nat.ble 50 pc then (bif Nat.beq pc 50 then some (.iastore, 0) else none) else (bif Nat.beq pc 49 then some (.iload_n 2, 0) else none)) else (bif Nat.ble 46 pc then (bif Nat.beq pc 46 then some (.getfield 71, 516) else none) else (bif Nat.beq pc 45 then some (.aload_n 0, 0) else none))) else (bif Nat.ble 41 pc then (bif Nat.ble 42 pc then (bif Nat.beq pc 42 then some (.getfield 40, 509) else none) else (bif Nat.beq pc 41 then some (.aload_n 0, 0) else none)) else (bif Nat.beq pc 40 then some (.iastore, 0) else none))) else (bif Nat.ble 32 pc then (bif Nat.ble 36 pc then (bif Nat.ble 39 pc then (bif Nat.beq pc 39 then some (.iload_n 1, 0) else none) else (bif Nat.beq pc 36 then some (.getfield 71, 516) else none)) else (bif Nat.ble 35 pc then (bif Nat.beq pc 35 then some (.aload_n 0, 0) else none) else (bif Nat.beq pc 32 then some (.getfield 37, 508) else none))) else (bif Nat.ble 30 pc then (bif Nat.ble 31 pc then (bif Nat.beq pc 31 then some (.aload_n 0, 0) else none) else (bif Nat.beq pc 30 then some (.ireturn, 0) else none)) else (bif Nat.beq pc 29 then some (.iconst (-1), 0) else none)))) else (bif Nat.ble 11 pc then (bif Nat.ble 20 pc then (bif Nat.ble 23 pc then (bif Nat.ble 26 pc then (bif Nat.beq pc 26 then some (.ifCond .ne (5), 31) else none) else (bif Nat.beq pc 23 then some (.invokestatic 56, 86) else none)) else (bif Nat.ble 21 pc then (bif Nat.beq pc 21 then some (.bipush (8), 0) else none) else (bif Nat.beq pc 20 then some (.iload_n 2, 0) else none))) else (bif Nat.ble 14 pc then (bif Nat.ble 17 pc then (bif Nat.beq pc 17 then some (.ifCond .eq (12), 29) else none) else (bif Nat.beq pc 14 then some (.invokestatic 56, 86) else none)) else (bif Nat.beq pc 11 then some (.getfield 52, 514) else none))) else (bif Nat.ble 6 pc then (bif Nat.ble 9 pc then (bif Nat.ble 10 pc then (bif Nat.beq pc 10 then some (.aload_n 0, 0) else none) else (bif Nat.beq pc 9 then some (.iload_n 1, 0) else none)) else (bif Nat.beq pc 6 then some (.if_icmp .ge (23), 29) else none)) else (bif Nat.ble 1 pc then (bif Nat.ble 4 pc then (bif Nat.beq pc 4 then some (.bipush (10), 0) else none) else (bif Nat.beq pc 1 then some (.getfield 71, 516) else none)) else (bif Nat.beq pc 0 then some (.aload_n 0, 0) else none))))))
def am_f49 (pc : Nat) : Option (Instr × Nat) := am_gd 85 pc (bif Nat.ble 44 pc then (bif Nat.ble 61 pc then (bif Nat.ble 74 pc then (bif Nat.ble 79 pc then (bif Nat.ble 81 pc then (bif Nat.ble 84 pc then (bif Nat.beq pc 84 then some (.return_, 0) else none) else (bif Nat.beq pc 81 then some (.putfield 74, 513) else none)) else (bif Nat.ble 80 pc then (bif Nat.beq pc 80 then some (.iadd, 0) else none) else (bif Nat.beq pc 79 then some (.iconst (1), 0) else none))) else (bif Nat.ble 75 pc then (bif Nat.ble 76 pc then (bif Nat.beq pc 76 then some (.getfield 74, 513) else none) else (bif Nat.beq pc 75 then some (.dup, 0) else none)) else (bif Nat.beq pc 74 then some (.aload_n 0, 0) else none))) else (bif Nat.ble 68 pc then (bif Nat.ble 72 pc then (bif Nat.ble 73 pc then (bif Nat.beq pc 73 then some (.iastore, 0) else none) else (bif Nat.beq pc 72 then some (.iload_n 1, 0) else none)) else (bif Nat.ble 71 pc then (bif Nat.beq pc 71 then some (.iload_n 2, 0) else none) else (bif Nat.beq pc 68 then some (.getfield 49, 512) else none))) else (bif Nat.ble 64 pc then (bif Nat.ble 67 pc then (bif Nat.beq pc 67 then some (.aload_n 0, 0) else none) else (bif Nat.beq pc 64 then some (.goto (-41), 23) else none)) else (bif Nat.beq pc 61 then some (.iinc 3 (-1), 0) else none)))) else (bif Nat.ble 54 pc then (bif Nat.ble 57 pc then (bif Nat.ble 59 pc then (bif Nat.ble 60 pc then (bif Nat.beq pc 60 then some (.istore_n 2, 0) else none) else (bif Nat.beq pc 59 then some (.isub, 0) else none)) else (bif Nat.ble 58 pc then (bif Nat.beq pc 58 then some (.iconst (1), 0) else none) else (bif Nat.beq pc 57 then some (.iload_n 3, 0) else none))) else (bif Nat.ble 55 pc then (bif Nat.ble 56 pc then (bif Nat.beq pc 56 then some (.iastore, 0) else none) else (bif Nat.beq pc 55 then some (.iaload, 0) else none)) else (bif Nat.beq pc 54 then some (.isub, 0) else none))) else (bif Nat.ble 49 pc then (bif Nat.ble 52 pc then (bif Nat.ble 53 pc then (bif Nat.beq pc 53 then some (.iconst (1), 0) else none) else (bif Nat.beq pc 52 then some (.iload_n 3, 0) else none)) else (bif Nat.beq pc 49 then some (.getfield 49, 512) else none)) else (bif Nat.ble 47 pc then (bif Nat.ble 48 pc then (bif Nat.beq pc 48 then some (.aload_n 0, 0) else none) else (bif Nat.beq pc 47 then some (.iload_n 3, 0) else none)) else (bif Nat.beq pc 44 then some (.getfield 49, 512) else none))))) else (bif Nat.ble 23 pc then (bif Nat.ble 33 pc then (bif Nat.ble 36 pc then (bif Nat.ble 40 pc then (bif Nat.ble 43 pc then (bif Nat.beq pc 43 then some (.aload_n 0, 0) else none) else (bif Nat.beq pc 40 then some (.ifCond .eq (27), 67) else none)) else (bif Nat.ble 37 pc then (bif Nat.beq pc 37 then some (.invokevirtual 77, 50) else none) else (bif Nat.beq pc 36 then some (.iaload, 0) else none))) else (bif Nat.ble 34 pc then (bif Nat.ble 35 pc then (bif Nat.beq pc 35 then some (.isub, 0) else none) else (bif Nat.beq pc 34 then some (.iconst (1), 0) else none)) else (bif Nat.beq pc 33 then some (.iload_n 3, 0) else none))) else (bif Nat.ble 28 pc then (bif Nat.ble 29 pc then (bif Nat.ble 30 pc then (bif Nat.beq pc 30 then some (.getfield 49, 512) else none) else (bif Nat.beq pc 29 then some (.aload_n 0, 0) else none)) else (bif Nat.beq pc 28 then some (.iload_n 1, 0) else none)) else (bif Nat.ble 24 pc then (bif Nat.ble 27 pc then (bif Nat.beq pc 27 then some (.aload_n 0, 0) else none) else (bif Nat.beq pc 24 then some (.ifCond .le (43), 67) else none)) else (bif Nat.beq pc 23 then some (.iload_n 3, 0) else none)))) else (bif Nat.ble 12 pc then (bif Nat.ble 17 pc then (bif Nat.ble 19 pc then (bif Nat.ble 22 pc then (bif Nat.beq pc 22 then some (.istore_n 3, 0) else none) else (bif Nat.beq pc 19 then some (.getfield 74, 513) else none)) else (bif Nat.ble 18 pc then (bif Nat.beq pc 18 then some (.aload_n 0, 0) else none) else (bif Nat.beq pc 17 then some (.istore_n 2, 0) else none))) else (bif Nat.ble 13 pc then (bif Nat.ble 14 pc then (bif Nat.beq pc 14 then some (.getfield 74, 513) else none) else (bif Nat.beq pc 13 then some (.aload_n 0, 0) else none)) else (bif Nat.beq pc 12 then some (.return_, 0) else none))) else (bif Nat.ble 5 pc then (bif Nat.ble 8 pc then (bif Nat.ble 9 pc then (bif Nat.beq pc 9 then some (.if_icmp .lt (4), 13) else none) else (bif Nat.beq pc 8 then some (.arraylength, 0) else none)) else (bif Nat.beq pc 5 then some (.getfield 49, 512) else none)) else (bif Nat.ble 1 pc then (bif Nat.ble 4 pc then (bif Nat.beq pc 4 then some (.aload_n 0, 0) else none) else (bif Nat.beq pc 1 then some (.getfield 74, 513) else none)) else (bif Nat.beq pc 0 then some (.aload_n 0, 0) else none))))))
def am_f50 (pc : Nat) : Option (Instr × Nat) := am_gd 31 pc (bif Nat.ble 13 pc then (bif Nat.ble 22 pc then (bif Nat.ble 26 pc then (bif Nat.ble 29 pc then (bif Nat.ble 30 pc then (bif Nat.beq pc 30 then some (.ireturn, 0) else none) else (bif Nat.beq pc 29 then some (.iconst (0), 0) else none)) else (bif Nat.beq pc 26 then some (.goto (4), 30) else none)) else (bif Nat.ble 25 pc then (bif Nat.beq pc 25 then some (.iconst (1), 0) else none) else (bif Nat.beq pc 22 then some (.if_icmp .ge (7), 29) else none))) else (bif Nat.ble 17 pc then (bif Nat.ble 20 pc then (bif Nat.ble 21 pc then (bif Nat.beq pc 21 then some (.iload_n 2, 0) else none) else (bif Nat.beq pc 20 then some (.iload_n 1, 0) else none)) else (bif Nat.beq pc 17 then some (.ifCond .ne (12), 29) else none)) else (bif Nat.ble 16 pc then (bif Nat.beq pc 16 then some (.iload_n 3, 0) else none) else (bif Nat.beq pc 13 then some (.ifCond .lt (12), 25) else none)))) else (bif Nat.ble 6 pc then (bif Nat.ble 10 pc then (bif Nat.ble 11 pc then (bif Nat.ble 12 pc then (bif Nat.beq pc 12 then some (.iload_n 3, 0) else none) else (bif Nat.beq pc 11 then some (.istore_n 3, 0) else none)) else (bif Nat.beq pc 10 then some (.isub, 0) else none)) else (bif Nat.ble 7 pc then (bif Nat.beq pc 7 then some (.invokevirtual 80, 52) else none) else (bif Nat.beq pc 6 then some (.iload_n 2, 0) else none))) else (bif Nat.ble 2 pc then (bif Nat.ble 5 pc then (bif Nat.beq pc 5 then some (.aload_n 0, 0) else none) else (bif Nat.beq pc 2 then some (.invokevirtual 80, 52) else none)) else (bif Nat.ble 1 pc then (bif Nat.beq pc 1 then some (.iload_n 1, 0) else none) else (bif Nat.beq pc 0 then some (.aload_n 0, 0) else none)))))
def am_f51 (pc : Nat) : Option (Instr × Nat) := am_gd 12 pc (bif Nat.ble 6 pc then (bif Nat.ble 10 pc then (bif Nat.ble 11 pc then (bif Nat.beq pc 11 then some (.ireturn, 0) else none) else (bif Nat.beq pc 10 then some (.iconst (0), 0) else none)) else (bif Nat.ble 7 pc then (bif Nat.beq pc 7 then some (.goto (4), 11) else none) else (bif Nat.beq pc 6 then some (.iconst (1), 0) else none))) else (bif Nat.ble 1 pc then (bif Nat.ble 3 pc then (bif Nat.beq pc 3 then some (.if_icmp .ge (7), 10) else none) else (bif Nat.beq pc 1 then some (.bipush (10), 0) else none)) else (bif Nat.beq pc 0 then some (.iload_n 1, 0) else none)))
def am_f52 (pc : Nat) : Option (Instr × Nat) := am_gd 27 pc (bif Nat.ble 14 pc then (bif Nat.ble 22 pc then (bif Nat.ble 25 pc then (bif Nat.ble 26 pc then (bif Nat.beq pc 26 then some (.ireturn, 0) else none) else (bif Nat.beq pc 25 then some (.iaload, 0) else none)) else (bif Nat.ble 24 pc then (bif Nat.beq pc 24 then some (.isub, 0) else none) else (bif Nat.beq pc 22 then some (.bipush (10), 0) else none))) else (bif Nat.ble 18 pc then (bif Nat.ble 21 pc then (bif Nat.beq pc 21 then some (.iload_n 1, 0) else none) else (bif Nat.beq pc 18 then some (.getfield 24, 504) else none)) else (bif Nat.ble 17 pc then (bif Nat.beq pc 17 then some (.aload_n 0, 0) else none) else (bif Nat.beq pc 14 then some (.goto (12), 26) else none)))) else (bif Nat.ble 8 pc then (bif Nat.ble 12 pc then (bif Nat.ble 13 pc then (bif Nat.beq pc 13 then some (.iaload, 0) else none) else (bif Nat.beq pc 12 then some (.iload_n 1, 0) else none)) else (bif Nat.ble 9 pc then (bif Nat.beq pc 9 then some (.getfield 43, 510) else none) else (bif Nat.beq pc 8 then some (.aload_n 0, 0) else none))) else (bif Nat.ble 2 pc then (bif Nat.ble 5 pc then (bif Nat.beq pc 5 then some (.ifCond .eq (12), 17) else none) else (bif Nat.beq pc 2 then some (.invokevirtual 84, 51) else none)) else (bif Nat.ble 1 pc then (bif Nat.beq pc 1 then some (.iload_n 1, 0) else none) else (bif Nat.beq pc 0 then some (.aload_n 0, 0) else none)))))
def am_f53 (pc : Nat) : Option (Instr × Nat) := am_gd 65 pc (bif Nat.ble 33 pc then (bif Nat.ble 49 pc then (bif Nat.ble 56 pc then (bif Nat.ble 60 pc then (bif Nat.ble 63 pc then (bif Nat.ble 64 pc then (bif Nat.beq pc 64 then some (.ireturn, 0) else none) else (bif Nat.beq pc 63 then some (.iconst (0), 0) else none)) else (bif Nat.beq pc 60 then some (.goto (4), 64) else none)) else (bif Nat.ble 59 pc then (bif Nat.beq pc 59 then some (.iconst (1), 0) else none) else (bif Nat.beq pc 56 then some (.if_icmp .ge (7), 63) else none))) else (bif Nat.ble 51 pc then (bif Nat.ble 54 pc then (bif Nat.ble 55 pc then (bif Nat.beq pc 55 then some (.iaload, 0) else none) else (bif Nat.beq pc 54 then some (.iload_n 3, 0) else none)) else (bif Nat.beq pc 51 then some (.getfield 34, 507) else none)) else (bif Nat.ble 50 pc then (bif Nat.beq pc 50 then some (.aload_n 0, 0) else none) else (bif Nat.beq pc 49 then some (.iload_n 2, 0) else none)))) else (bif Nat.ble 40 pc then (bif Nat.ble 44 pc then (bif Nat.ble 45 pc then (bif Nat.ble 46 pc then (bif Nat.beq pc 46 then some (.if_icmp .eq (13), 59) else none) else (bif Nat.beq pc 45 then some (.iconst (-1), 0) else none)) else (bif Nat.beq pc 44 then some (.iaload, 0) else none)) else (bif Nat.ble 43 pc then (bif Nat.beq pc 43 then some (.iload_n 3, 0) else none) else (bif Nat.beq pc 40 then some (.getfield 34, 507) else none))) else (bif Nat.ble 35 pc then (bif Nat.ble 36 pc then (bif Nat.ble 39 pc then (bif Nat.beq pc 39 then some (.aload_n 0, 0) else none) else (bif Nat.beq pc 36 then some (.if_icmp .gt (27), 63) else none)) else (bif Nat.beq pc 35 then some (.iload_n 2, 0) else none)) else (bif Nat.ble 34 pc then (bif Nat.beq pc 34 then some (.iaload, 0) else none) else (bif Nat.beq pc 33 then some (.iload_n 3, 0) else none))))) else (bif Nat.ble 18 pc then (bif Nat.ble 25 pc then (bif Nat.ble 28 pc then (bif Nat.ble 29 pc then (bif Nat.ble 30 pc then (bif Nat.beq pc 30 then some (.getfield 31, 506) else none) else (bif Nat.beq pc 29 then some (.aload_n 0, 0) else none)) else (bif Nat.beq pc 28 then some (.istore_n 3, 0) else none)) else (bif Nat.ble 27 pc then (bif Nat.beq pc 27 then some (.isub, 0) else none) else (bif Nat.beq pc 25 then some (.bipush (10), 0) else none))) else (bif Nat.ble 22 pc then (bif Nat.ble 23 pc then (bif Nat.ble 24 pc then (bif Nat.beq pc 24 then some (.iload_n 1, 0) else none) else (bif Nat.beq pc 23 then some (.ireturn, 0) else none)) else (bif Nat.beq pc 22 then some (.iconst (0), 0) else none)) else (bif Nat.ble 19 pc then (bif Nat.beq pc 19 then some (.goto (4), 23) else none) else (bif Nat.beq pc 18 then some (.iconst (1), 0) else none)))) else (bif Nat.ble 9 pc then (bif Nat.ble 13 pc then (bif Nat.ble 14 pc then (bif Nat.ble 15 pc then (bif Nat.beq pc 15 then some (.if_icmp .gt (7), 22) else none) else (bif Nat.beq pc 14 then some (.iload_n 2, 0) else none)) else (bif Nat.beq pc 13 then some (.iaload, 0) else none)) else (bif Nat.ble 12 pc then (bif Nat.beq pc 12 then some (.iload_n 1, 0) else none) else (bif Nat.beq pc 9 then some (.getfield 46, 511) else none))) else (bif Nat.ble 2 pc then (bif Nat.ble 5 pc then (bif Nat.ble 8 pc then (bif Nat.beq pc 8 then some (.aload_n 0, 0) else none) else (bif Nat.beq pc 5 then some (.ifCond .eq (19), 24) else none)) else (bif Nat.beq pc 2 then some (.invokevirtual 84, 51) else none)) else (bif Nat.ble 1 pc then (bif Nat.beq pc 1 then some (.iload_n 1, 0) else none) else (bif Nat.beq pc 0 then some (.aload_n 0, 0) else none))))))
def am_f54 (pc : Nat) : Option (Instr × Nat) := am_gd 26 pc (bif Nat.ble 14 pc then (bif Nat.ble 20 pc then (bif Nat.ble 24 pc then (bif Nat.ble 25 pc then (bif Nat.beq pc 25 then some (.ireturn, 0) else none) else (bif Nat.beq pc 24 then some (.iaload, 0) else none)) else (bif Nat.ble 23 pc then (bif Nat.beq pc 23 then some (.iload_n 1, 0) else none) else (bif Nat.beq pc 20 then some (.getfield 18, 502) else none))) else (bif Nat.ble 16 pc then (bif Nat.ble 19 pc then (bif Nat.beq pc 19 then some (.aload_n 0, 0) else none) else (bif Nat.beq pc 16 then some (.goto (9), 25) else none)) else (bif Nat.ble 15 pc then (bif Nat.beq pc 15 then some (.iaload, 0) else none) else (bif Nat.beq pc 14 then some (.iload_n 1, 0) else none)))) else (bif Nat.ble 6 pc then (bif Nat.ble 10 pc then (bif Nat.ble 11 pc then (bif Nat.beq pc 11 then some (.getfield 21, 503) else none) else (bif Nat.beq pc 10 then some (.aload_n 0, 0) else none)) else (bif Nat.ble 7 pc then (bif Nat.beq pc 7 then some (.if_icmp .ne (12), 19) else none) else (bif Nat.beq pc 6 then some (.iload_n 2, 0) else none))) else (bif Nat.ble 4 pc then (bif Nat.ble 5 pc then (bif Nat.beq pc 5 then some (.iaload, 0) else none) else (bif Nat.beq pc 4 then some (.iload_n 1, 0) else none)) else (bif Nat.ble 1 pc then (bif Nat.beq pc 1 then some (.getfield 18, 502) else none) else (bif Nat.beq pc 0 then some (.aload_n 0, 0) else none)))))
def am_f55 (pc : Nat) : Option (Instr × Nat) := am_gd 106 pc (bif Nat.ble 53 pc then (bif Nat.ble 79 pc then (bif Nat.ble 93 pc then (bif Nat.ble 100 pc then (bif Nat.ble 102 pc then (bif Nat.ble 105 pc then (bif Nat.beq pc 105 then some (.return_, 0) else none) else (bif Nat.beq pc 102 then some (.putfield 49, 600) else none)) else (bif Nat.ble 101 pc then (bif Nat.beq pc 101 then some (.aload_n 1, 0) else none) else (bif Nat.beq pc 100 then some (.aload_n 0, 0) else none))) else (bif Nat.ble 95 pc then (bif Nat.ble 97 pc then (bif Nat.beq pc 97 then some (.putfield 46, 612) else none) else (bif Nat.beq pc 95 then some (.newarray .int, 0) else none)) else (bif Nat.beq pc 93 then some (.bipush (8), 0) else none))) else (bif Nat.ble 85 pc then (bif Nat.ble 89 pc then (bif Nat.ble 92 pc then (bif Nat.beq pc 92 then some (.aload_n 0, 0) else none) else (bif Nat.beq pc 89 then some (.putfield 43, 611) else none)) else (bif Nat.ble 87 pc then (bif Nat.beq pc 87 then some (.newarray .int, 0) else none) else (bif Nat.beq pc 85 then some (.bipush (8), 0) else none))) else (bif Nat.ble 81 pc then (bif Nat.ble 84 pc then (bif Nat.beq pc 84 then some (.aload_n 0, 0) else none) else (bif Nat.beq pc 81 then some (.putfield 40, 610) else none)) else (bif Nat.beq pc 79 then some (.newarray .int, 0) else none)))) else (bif Nat.ble 65 pc then (bif Nat.ble 71 pc then (bif Nat.ble 76 pc then (bif Nat.ble 77 pc then (bif Nat.beq pc 77 then some (.bipush (8), 0) else none) else (bif Nat.beq pc 76 then some (.aload_n 0, 0) else none)) else (bif Nat.ble 73 pc then (bif Nat.beq pc 73 then some (.putfield 36, 609) else none) else (bif Nat.beq pc 71 then some (.newarray .boolean, 0) else none))) else (bif Nat.ble 68 pc then (bif Nat.ble 69 pc then (bif Nat.beq pc 69 then some (.bipush (100), 0) else none) else (bif Nat.beq pc 68 then some (.aload_n 0, 0) else none)) else (bif Nat.beq pc 65 then some (.putfield 33, 608) else none))) else (bif Nat.ble 60 pc then (bif Nat.ble 61 pc then (bif Nat.ble 63 pc then (bif Nat.beq pc 63 then some (.newarray .int, 0) else none) else (bif Nat.beq pc 61 then some (.bipush (100), 0) else none)) else (bif Nat.beq pc 60 then some (.aload_n 0, 0) else none)) else (bif Nat.ble 55 pc then (bif Nat.ble 57 pc then (bif Nat.beq pc 57 then some (.putfield 30, 607) else none) else (bif Nat.beq pc 55 then some (.newarray .int, 0) else none)) else (bif Nat.beq pc 53 then some (.bipush (100), 0) else none))))) else (bif Nat.ble 25 pc then (bif Nat.ble 39 pc then (bif Nat.ble 45 pc then (bif Nat.ble 49 pc then (bif Nat.ble 52 pc then (bif Nat.beq pc 52 then some (.aload_n 0, 0) else none) else (bif Nat.beq pc 49 then some (.putfield 27, 606) else none)) else (bif Nat.ble 47 pc then (bif Nat.beq pc 47 then some (.newarray .int, 0) else none) else (bif Nat.beq pc 45 then some (.bipush (100), 0) else none))) else (bif Nat.ble 41 pc then (bif Nat.ble 44 pc then (bif Nat.beq pc 44 then some (.aload_n 0, 0) else none) else (bif Nat.beq pc 41 then some (.putfield 24, 605) else none)) else (bif Nat.beq pc 39 then some (.newarray .int, 0) else none))) else (bif Nat.ble 31 pc then (bif Nat.ble 36 pc then (bif Nat.ble 37 pc then (bif Nat.beq pc 37 then some (.bipush (100), 0) else none) else (bif Nat.beq pc 36 then some (.aload_n 0, 0) else none)) else (bif Nat.ble 33 pc then (bif Nat.beq pc 33 then some (.putfield 21, 604) else none) else (bif Nat.beq pc 31 then some (.newarray .int, 0) else none))) else (bif Nat.ble 28 pc then (bif Nat.ble 29 pc then (bif Nat.beq pc 29 then some (.bipush (80), 0) else none) else (bif Nat.beq pc 28 then some (.aload_n 0, 0) else none)) else (bif Nat.beq pc 25 then some (.putfield 18, 603) else none)))) else (bif Nat.ble 12 pc then (bif Nat.ble 17 pc then (bif Nat.ble 21 pc then (bif Nat.ble 23 pc then (bif Nat.beq pc 23 then some (.newarray .int, 0) else none) else (bif Nat.beq pc 21 then some (.bipush (10), 0) else none)) else (bif Nat.ble 20 pc then (bif Nat.beq pc 20 then some (.aload_n 0, 0) else none) else (bif Nat.beq pc 17 then some (.putfield 15, 602) else none))) else (bif Nat.ble 13 pc then (bif Nat.ble 15 pc then (bif Nat.beq pc 15 then some (.newarray .int, 0) else none) else (bif Nat.beq pc 13 then some (.bipush (10), 0) else none)) else (bif Nat.beq pc 12 then some (.aload_n 0, 0) else none))) else (bif Nat.ble 5 pc then (bif Nat.ble 7 pc then (bif Nat.ble 9 pc then (bif Nat.beq pc 9 then some (.putfield 9, 601) else none) else (bif Nat.beq pc 7 then some (.newarray .int, 0) else none)) else (bif Nat.beq pc 5 then some (.bipush (10), 0) else none)) else (bif Nat.ble 1 pc then (bif Nat.ble 4 pc then (bif Nat.beq pc 4 then some (.aload_n 0, 0) else none) else (bif Nat.beq pc 1 then some (.invokespecial 3, 1000) else none)) else (bif Nat.beq pc 0 then some (.aload_n 0, 0) else none))))))
def am_f56 (pc : Nat) : Option (Instr × Nat) := am_gd 32 pc (bif Nat.ble 14 pc then (bif Nat.ble 23 pc then (bif Nat.ble 28 pc then (bif Nat.ble 31 pc then (bif Nat.beq pc 31 then some (.return_, 0) else none) else (bif Nat.beq pc 28 then some (.putfield 18, 702) else none)) else (bif Nat.ble 26 pc then (bif Nat.beq pc 26 then some (.newarray .int, 0) else none) else (bif Nat.beq pc 23 then some (.sipush (160), 0) else none))) else (bif Nat.ble 19 pc then (bif Nat.ble 22 pc then (bif Nat.beq pc 22 then some (.aload_n 0, 0) else none) else (bif Nat.beq pc 19 then some (.putfield 15, 701) else none)) else (bif Nat.ble 17 pc then (bif Nat.beq pc 17 then some (.newarray .int, 0) else none) else (bif Nat.beq pc 14 then some (.sipush (160), 0) else none)))) else (bif Nat.ble 5 pc then (bif Nat.ble 10 pc then (bif Nat.ble 13 pc then (bif Nat.beq pc 13 then some (.aload_n 0, 0) else none) else (bif Nat.beq pc 10 then some (.putfield 9, 700) else none)) else (bif Nat.ble 8 pc then (bif Nat.beq pc 8 then some (.newarray .int, 0) else none) else (bif Nat.beq pc 5 then some (.sipush (160), 0) else none))) else (bif Nat.ble 1 pc then (bif Nat.ble 4 pc then (bif Nat.beq pc 4 then some (.aload_n 0, 0) else none) else (bif Nat.beq pc 1 then some (.invokespecial 3, 1000) else none)) else (bif Nat.beq pc 0 then some (.aload_n 0, 0) else none))))
def am_f57 (pc : Nat) : Option (Instr × Nat) := am_gd 46 pc (bif Nat.ble 23 pc then (bif Nat.ble 32 pc then (bif Nat.ble 36 pc then (bif Nat.ble 42 pc then (bif Nat.ble 45 pc then (bif Nat.beq pc 45 then some (.return_, 0) else none) else (bif Nat.beq pc 42 then some (.goto (-40), 2) else none)) else (bif Nat.ble 39 pc then (bif Nat.beq pc 39 then some (.iinc 2 (1), 0) else none) else (bif Nat.beq pc 36 then some (.invokevirtual 30, 58) else none))) else (bif Nat.ble 34 pc then (bif Nat.ble 35 pc then (bif Nat.beq pc 35 then some (.iconst (0), 0) else none) else (bif Nat.beq pc 34 then some (.imul, 0) else none)) else (bif Nat.ble 33 pc then (bif Nat.beq pc 33 then some (.iconst (2), 0) else none) else (bif Nat.beq pc 32 then some (.iand, 0) else none)))) else (bif Nat.ble 27 pc then (bif Nat.ble 30 pc then (bif Nat.ble 31 pc then (bif Nat.beq pc 31 then some (.iconst (1), 0) else none) else (bif Nat.beq pc 30 then some (.ishr, 0) else none)) else (bif Nat.ble 29 pc then (bif Nat.beq pc 29 then some (.irem, 0) else none) else (bif Nat.beq pc 27 then some (.bipush (8), 0) else none))) else (bif Nat.ble 25 pc then (bif Nat.ble 26 pc then (bif Nat.beq pc 26 then some (.iload_n 2, 0) else none) else (bif Nat.beq pc 25 then some (.iload_n 3, 0) else none)) else (bif Nat.ble 24 pc then (bif Nat.beq pc 24 then some (.iload_n 2, 0) else none) else (bif Nat.beq pc 23 then some (.aload_n 0, 0) else none))))) else (bif Nat.ble 10 pc then (bif Nat.ble 18 pc then (bif Nat.ble 21 pc then (bif Nat.ble 22 pc then (bif Nat.beq pc 22 then some (.istore_n 3, 0) else none) else (bif Nat.beq pc 21 then some (.iaload, 0) else none)) else (bif Nat.ble 20 pc then (bif Nat.beq pc 20 then some (.idiv, 0) else none) else (bif Nat.beq pc 18 then some (.bipush (8), 0) else none))) else (bif Nat.ble 14 pc then (bif Nat.ble 17 pc then (bif Nat.beq pc 17 then some (.iload_n 2, 0) else none) else (bif Nat.beq pc 14 then some (.getfield 27, 500) else none)) else (bif Nat.ble 13 pc then (bif Nat.beq pc 13 then some (.aload_n 1, 0) else none) else (bif Nat.beq pc 10 then some (.if_icmp .ge (35), 45) else none)))) else (bif Nat.ble 3 pc then (bif Nat.ble 7 pc then (bif Nat.ble 9 pc then (bif Nat.beq pc 9 then some (.imul, 0) else none) else (bif Nat.beq pc 7 then some (.bipush (8), 0) else none)) else (bif Nat.ble 4 pc then (bif Nat.beq pc 4 then some (.getfield 21, 514) else none) else (bif Nat.beq pc 3 then some (.aload_n 1, 0) else none))) else (bif Nat.ble 1 pc then (bif Nat.ble 2 pc then (bif Nat.beq pc 2 then some (.iload_n 2, 0) else none) else (bif Nat.beq pc 1 then some (.istore_n 2, 0) else none)) else (bif Nat.beq pc 0 then some (.iconst (0), 0) else none)))))
def am_f58 (pc : Nat) : Option (Instr × Nat) := am_gd 22 pc (bif Nat.ble 12 pc then (bif Nat.ble 18 pc then (bif Nat.ble 20 pc then (bif Nat.ble 21 pc then (bif Nat.beq pc 21 then some (.return_, 0) else none) else (bif Nat.beq pc 20 then some (.iastore, 0) else none)) else (bif Nat.ble 19 pc then (bif Nat.beq pc 19 then some (.iload_n 3, 0) else none) else (bif Nat.beq pc 18 then some (.iload_n 1, 0) else none))) else (bif Nat.ble 14 pc then (bif Nat.ble 15 pc then (bif Nat.beq pc 15 then some (.getfield 18, 702) else none) else (bif Nat.beq pc 14 then some (.aload_n 0, 0) else none)) else (bif Nat.ble 13 pc then (bif Nat.beq pc 13 then some (.iastore, 0) else none) else (bif Nat.beq pc 12 then some (.iload_n 3, 0) else none)))) else (bif Nat.ble 6 pc then (bif Nat.ble 8 pc then (bif Nat.ble 11 pc then (bif Nat.beq pc 11 then some (.iload_n 1, 0) else none) else (bif Nat.beq pc 8 then some (.getfield 15, 701) else none)) else (bif Nat.ble 7 pc then (bif Nat.beq pc 7 then some (.aload_n 0, 0) else none) else (bif Nat.beq pc 6 then some (.iastore, 0) else none))) else (bif Nat.ble 4 pc then (bif Nat.ble 5 pc then (bif Nat.beq pc 5 then some (.iload_n 2, 0) else none) else (bif Nat.beq pc 4 then some (.iload_n 1, 0) else none)) else (bif Nat.ble 1 pc then (bif Nat.beq pc 1 then some (.getfield 9, 700) else none) else (bif Nat.beq pc 0 then some (.aload_n 0, 0) else none)))))
def am_f59 (pc : Nat) : Option (Instr × Nat) := am_gd 102 pc (bif Nat.ble 49 pc then (bif Nat.ble 75 pc then (bif Nat.ble 89 pc then (bif Nat.ble 98 pc then (bif Nat.ble 100 pc then (bif Nat.ble 101 pc then (bif Nat.beq pc 101 then some (.return_, 0) else none) else (bif Nat.beq pc 100 then some (.iastore, 0) else none)) else (bif Nat.ble 99 pc then (bif Nat.beq pc 99 then some (.iaload, 0) else none) else (bif Nat.beq pc 98 then some (.iload_n 1, 0) else none))) else (bif Nat.ble 94 pc then (bif Nat.ble 95 pc then (bif Nat.beq pc 95 then some (.getfield 18, 702) else none) else (bif Nat.beq pc 94 then some (.aload_n 0, 0) else none)) else (bif Nat.ble 91 pc then (bif Nat.beq pc 91 then some (.goto (9), 100) else none) else (bif Nat.beq pc 89 then some (.iload 4, 0) else none)))) else (bif Nat.ble 81 pc then (bif Nat.ble 85 pc then (bif Nat.ble 86 pc then (bif Nat.beq pc 86 then some (.if_icmp .le (8), 94) else none) else (bif Nat.beq pc 85 then some (.iaload, 0) else none)) else (bif Nat.ble 84 pc then (bif Nat.beq pc 84 then some (.iload_n 1, 0) else none) else (bif Nat.beq pc 81 then some (.getfield 18, 702) else none))) else (bif Nat.ble 78 pc then (bif Nat.ble 80 pc then (bif Nat.beq pc 80 then some (.aload_n 0, 0) else none) else (bif Nat.beq pc 78 then some (.iload 4, 0) else none)) else (bif Nat.beq pc 75 then some (.ifCond .ne (14), 89) else none)))) else (bif Nat.ble 62 pc then (bif Nat.ble 68 pc then (bif Nat.ble 72 pc then (bif Nat.ble 73 pc then (bif Nat.beq pc 73 then some (.iload 5, 0) else none) else (bif Nat.beq pc 72 then some (.iload_n 1, 0) else none)) else (bif Nat.ble 69 pc then (bif Nat.beq pc 69 then some (.getfield 18, 702) else none) else (bif Nat.beq pc 68 then some (.aload_n 0, 0) else none))) else (bif Nat.ble 66 pc then (bif Nat.ble 67 pc then (bif Nat.beq pc 67 then some (.iastore, 0) else none) else (bif Nat.beq pc 66 then some (.iaload, 0) else none)) else (bif Nat.ble 65 pc then (bif Nat.beq pc 65 then some (.iload_n 1, 0) else none) else (bif Nat.beq pc 62 then some (.getfield 15, 701) else none)))) else (bif Nat.ble 54 pc then (bif Nat.ble 58 pc then (bif Nat.ble 61 pc then (bif Nat.beq pc 61 then some (.aload_n 0, 0) else none) else (bif Nat.beq pc 58 then some (.goto (9), 67) else none)) else (bif Nat.ble 57 pc then (bif Nat.beq pc 57 then some (.iload_n 3, 0) else none) else (bif Nat.beq pc 54 then some (.if_icmp .ge (7), 61) else none))) else (bif Nat.ble 52 pc then (bif Nat.ble 53 pc then (bif Nat.beq pc 53 then some (.iaload, 0) else none) else (bif Nat.beq pc 52 then some (.iload_n 1, 0) else none)) else (bif Nat.beq pc 49 then some (.getfield 15, 701) else none))))) else (bif Nat.ble 23 pc then (bif Nat.ble 34 pc then (bif Nat.ble 42 pc then (bif Nat.ble 47 pc then (bif Nat.ble 48 pc then (bif Nat.beq pc 48 then some (.aload_n 0, 0) else none) else (bif Nat.beq pc 47 then some (.iload_n 3, 0) else none)) else (bif Nat.ble 44 pc then (bif Nat.beq pc 44 then some (.ifCond .ne (13), 57) else none) else (bif Nat.beq pc 42 then some (.iload 5, 0) else none))) else (bif Nat.ble 38 pc then (bif Nat.ble 41 pc then (bif Nat.beq pc 41 then some (.iload_n 1, 0) else none) else (bif Nat.beq pc 38 then some (.getfield 15, 701) else none)) else (bif Nat.ble 37 pc then (bif Nat.beq pc 37 then some (.aload_n 0, 0) else none) else (bif Nat.beq pc 34 then some (.ifCond .eq (67), 101) else none)))) else (bif Nat.ble 30 pc then (bif Nat.ble 32 pc then (bif Nat.ble 33 pc then (bif Nat.beq pc 33 then some (.iload_n 2, 0) else none) else (bif Nat.beq pc 32 then some (.iastore, 0) else none)) else (bif Nat.ble 31 pc then (bif Nat.beq pc 31 then some (.iconst (1), 0) else none) else (bif Nat.beq pc 30 then some (.iload_n 1, 0) else none))) else (bif Nat.ble 26 pc then (bif Nat.ble 27 pc then (bif Nat.beq pc 27 then some (.getfield 9, 700) else none) else (bif Nat.beq pc 26 then some (.aload_n 0, 0) else none)) else (bif Nat.beq pc 23 then some (.if_icmp .eq (10), 33) else none)))) else (bif Nat.ble 13 pc then (bif Nat.ble 17 pc then (bif Nat.ble 21 pc then (bif Nat.ble 22 pc then (bif Nat.beq pc 22 then some (.iload_n 2, 0) else none) else (bif Nat.beq pc 21 then some (.iaload, 0) else none)) else (bif Nat.ble 20 pc then (bif Nat.beq pc 20 then some (.iload_n 1, 0) else none) else (bif Nat.beq pc 17 then some (.getfield 9, 700) else none))) else (bif Nat.ble 14 pc then (bif Nat.ble 16 pc then (bif Nat.beq pc 16 then some (.aload_n 0, 0) else none) else (bif Nat.beq pc 14 then some (.istore 5, 0) else none)) else (bif Nat.beq pc 13 then some (.iconst (0), 0) else none))) else (bif Nat.ble 5 pc then (bif Nat.ble 9 pc then (bif Nat.ble 10 pc then (bif Nat.beq pc 10 then some (.goto (4), 14) else none) else (bif Nat.beq pc 9 then some (.iconst (1), 0) else none)) else (bif Nat.ble 6 pc then (bif Nat.beq pc 6 then some (.ifCond .ne (7), 13) else none) else (bif Nat.beq pc 5 then some (.iaload, 0) else none))) else (bif Nat.ble 1 pc then (bif Nat.ble 4 pc then (bif Nat.beq pc 4 then some (.iload_n 1, 0) else none) else (bif Nat.beq pc 1 then some (.getfield 9, 700) else none)) else (bif Nat.beq pc 0 then some (.aload_n 0, 0) else none))))))
def am_f60 (pc : Nat) : Option (Instr × Nat) := am_gd 59 pc (bif Nat.ble 28 pc then (bif Nat.ble 41 pc then (bif Nat.ble 50 pc then (bif Nat.ble 52 pc then (bif Nat.ble 55 pc then (bif Nat.ble 58 pc then (bif Nat.beq pc 58 then some (.return_, 0) else none) else (bif Nat.beq pc 55 then some (.goto (-50), 5) else none)) else (bif Nat.beq pc 52 then some (.iinc 3 (1), 0) else none)) else (bif Nat.ble 51 pc then (bif Nat.beq pc 51 then some (.iastore, 0) else none) else (bif Nat.beq pc 50 then some (.iaload, 0) else none))) else (bif Nat.ble 45 pc then (bif Nat.ble 46 pc then (bif Nat.ble 49 pc then (bif Nat.beq pc 49 then some (.iload_n 3, 0) else none) else (bif Nat.beq pc 46 then some (.getfield 18, 702) else none)) else (bif Nat.beq pc 45 then some (.aload_n 1, 0) else none)) else (bif Nat.ble 44 pc then (bif Nat.beq pc 44 then some (.iload_n 3, 0) else none) else (bif Nat.beq pc 41 then some (.getfield 18, 702) else none)))) else (bif Nat.ble 34 pc then (bif Nat.ble 38 pc then (bif Nat.ble 39 pc then (bif Nat.ble 40 pc then (bif Nat.beq pc 40 then some (.aload_n 0, 0) else none) else (bif Nat.beq pc 39 then some (.iastore, 0) else none)) else (bif Nat.beq pc 38 then some (.iaload, 0) else none)) else (bif Nat.ble 37 pc then (bif Nat.beq pc 37 then some (.iload_n 3, 0) else none) else (bif Nat.beq pc 34 then some (.getfield 15, 701) else none))) else (bif Nat.ble 32 pc then (bif Nat.ble 33 pc then (bif Nat.beq pc 33 then some (.aload_n 1, 0) else none) else (bif Nat.beq pc 32 then some (.iload_n 3, 0) else none)) else (bif Nat.ble 29 pc then (bif Nat.beq pc 29 then some (.getfield 15, 701) else none) else (bif Nat.beq pc 28 then some (.aload_n 0, 0) else none))))) else (bif Nat.ble 12 pc then (bif Nat.ble 21 pc then (bif Nat.ble 25 pc then (bif Nat.ble 26 pc then (bif Nat.ble 27 pc then (bif Nat.beq pc 27 then some (.iastore, 0) else none) else (bif Nat.beq pc 26 then some (.iaload, 0) else none)) else (bif Nat.beq pc 25 then some (.iload_n 3, 0) else none)) else (bif Nat.ble 22 pc then (bif Nat.beq pc 22 then some (.getfield 9, 700) else none) else (bif Nat.beq pc 21 then some (.aload_n 1, 0) else none))) else (bif Nat.ble 16 pc then (bif Nat.ble 17 pc then (bif Nat.ble 20 pc then (bif Nat.beq pc 20 then some (.iload_n 3, 0) else none) else (bif Nat.beq pc 17 then some (.getfield 9, 700) else none)) else (bif Nat.beq pc 16 then some (.aload_n 0, 0) else none)) else (bif Nat.ble 13 pc then (bif Nat.beq pc 13 then some (.if_icmp .ge (45), 58) else none) else (bif Nat.beq pc 12 then some (.iadd, 0) else none)))) else (bif Nat.ble 5 pc then (bif Nat.ble 7 pc then (bif Nat.ble 9 pc then (bif Nat.ble 10 pc then (bif Nat.beq pc 10 then some (.bipush (8), 0) else none) else (bif Nat.beq pc 9 then some (.imul, 0) else none)) else (bif Nat.beq pc 7 then some (.bipush (8), 0) else none)) else (bif Nat.ble 6 pc then (bif Nat.beq pc 6 then some (.iload_n 2, 0) else none) else (bif Nat.beq pc 5 then some (.iload_n 3, 0) else none))) else (bif Nat.ble 3 pc then (bif Nat.ble 4 pc then (bif Nat.beq pc 4 then some (.istore_n 3, 0) else none) else (bif Nat.beq pc 3 then some (.imul, 0) else none)) else (bif Nat.ble 1 pc then (bif Nat.beq pc 1 then some (.bipush (8), 0) else none) else (bif Nat.beq pc 0 then some (.iload_n 2, 0) else none))))))
def am_f61 (pc : Nat) : Option (Instr × Nat) := am_gd 46 pc (bif Nat.ble 19 pc then (bif Nat.ble 30 pc then (bif Nat.ble 36 pc then (bif Nat.ble 42 pc then (bif Nat.ble 45 pc then (bif Nat.beq pc 45 then some (.return_, 0) else none) else (bif Nat.beq pc 42 then some (.goto (-37), 5) else none)) else (bif Nat.ble 39 pc then (bif Nat.beq pc 39 then some (.iinc 3 (1), 0) else none) else (bif Nat.beq pc 36 then some (.invokevirtual 34, 59) else none))) else (bif Nat.ble 34 pc then (bif Nat.ble 35 pc then (bif Nat.beq pc 35 then some (.iaload, 0) else none) else (bif Nat.beq pc 34 then some (.iload_n 3, 0) else none)) else (bif Nat.ble 31 pc then (bif Nat.beq pc 31 then some (.getfield 18, 702) else none) else (bif Nat.beq pc 30 then some (.aload_n 1, 0) else none)))) else (bif Nat.ble 24 pc then (bif Nat.ble 28 pc then (bif Nat.ble 29 pc then (bif Nat.beq pc 29 then some (.iaload, 0) else none) else (bif Nat.beq pc 28 then some (.iload_n 3, 0) else none)) else (bif Nat.ble 25 pc then (bif Nat.beq pc 25 then some (.getfield 15, 701) else none) else (bif Nat.beq pc 24 then some (.aload_n 1, 0) else none))) else (bif Nat.ble 22 pc then (bif Nat.ble 23 pc then (bif Nat.beq pc 23 then some (.iaload, 0) else none) else (bif Nat.beq pc 22 then some (.iload_n 3, 0) else none)) else (bif Nat.beq pc 19 then some (.getfield 9, 700) else none)))) else (bif Nat.ble 9 pc then (bif Nat.ble 13 pc then (bif Nat.ble 17 pc then (bif Nat.ble 18 pc then (bif Nat.beq pc 18 then some (.aload_n 1, 0) else none) else (bif Nat.beq pc 17 then some (.iload_n 3, 0) else none)) else (bif Nat.ble 16 pc then (bif Nat.beq pc 16 then some (.aload_n 0, 0) else none) else (bif Nat.beq pc 13 then some (.if_icmp .ge (32), 45) else none))) else (bif Nat.ble 10 pc then (bif Nat.ble 12 pc then (bif Nat.beq pc 12 then some (.iadd, 0) else none) else (bif Nat.beq pc 10 then some (.bipush (8), 0) else none)) else (bif Nat.beq pc 9 then some (.imul, 0) else none))) else (bif Nat.ble 4 pc then (bif Nat.ble 6 pc then (bif Nat.ble 7 pc then (bif Nat.beq pc 7 then some (.bipush (8), 0) else none) else (bif Nat.beq pc 6 then some (.iload_n 2, 0) else none)) else (bif Nat.ble 5 pc then (bif Nat.beq pc 5 then some (.iload_n 3, 0) else none) else (bif Nat.beq pc 4 then some (.istore_n 3, 0) else none))) else (bif Nat.ble 1 pc then (bif Nat.ble 3 pc then (bif Nat.beq pc 3 then some (.imul, 0) else none) else (bif Nat.beq pc 1 then some (.bipush (8), 0) else none)) else (bif Nat.beq pc 0 then some (.iload_n 2, 0) else none)))))
def am_f62 (pc : Nat) : Option (Instr × Nat) := am_gd 51 pc (bif Nat.ble 22 pc then (bif Nat.ble 35 pc then (bif Nat.ble 43 pc then (bif Nat.ble 49 pc then (bif Nat.ble 50 pc then (bif Nat.beq pc 50 then some (.ireturn, 0) else none) else (bif Nat.beq pc 49 then some (.iload_n 3, 0) else none)) else (bif Nat.ble 46 pc then (bif Nat.beq pc 46 then some (.goto (-38), 8) else none) else (bif Nat.beq pc 43 then some (.iinc 4 (1), 0) else none))) else (bif Nat.ble 39 pc then (bif Nat.ble 42 pc then (bif Nat.beq pc 42 then some (.istore_n 3, 0) else none) else (bif Nat.beq pc 39 then some (.invokestatic 44, 1001) else none)) else (bif Nat.ble 36 pc then (bif Nat.beq pc 36 then some (.invokestatic 38, 1003) else none) else (bif Nat.beq pc 35 then some (.isub, 0) else none)))) else (bif Nat.ble 28 pc then (bif Nat.ble 32 pc then (bif Nat.ble 34 pc then (bif Nat.beq pc 34 then some (.iaload, 0) else none) else (bif Nat.beq pc 32 then some (.iload 4, 0) else none)) else (bif Nat.ble 29 pc then (bif Nat.beq pc 29 then some (.getfield 9, 700) else none) else (bif Nat.beq pc 28 then some (.aload_n 1, 0) else none))) else (bif Nat.ble 25 pc then (bif Nat.ble 27 pc then (bif Nat.beq pc 27 then some (.iaload, 0) else none) else (bif Nat.beq pc 25 then some (.iload 4, 0) else none)) else (bif Nat.beq pc 22 then some (.getfield 9, 700) else none)))) else (bif Nat.ble 10 pc then (bif Nat.ble 16 pc then (bif Nat.ble 20 pc then (bif Nat.ble 21 pc then (bif Nat.beq pc 21 then some (.aload_n 0, 0) else none) else (bif Nat.beq pc 20 then some (.iload_n 3, 0) else none)) else (bif Nat.ble 17 pc then (bif Nat.beq pc 17 then some (.if_icmp .ge (32), 49) else none) else (bif Nat.beq pc 16 then some (.iadd, 0) else none))) else (bif Nat.ble 13 pc then (bif Nat.ble 14 pc then (bif Nat.beq pc 14 then some (.bipush (8), 0) else none) else (bif Nat.beq pc 13 then some (.imul, 0) else none)) else (bif Nat.ble 11 pc then (bif Nat.beq pc 11 then some (.bipush (8), 0) else none) else (bif Nat.beq pc 10 then some (.iload_n 2, 0) else none)))) else (bif Nat.ble 3 pc then (bif Nat.ble 6 pc then (bif Nat.ble 8 pc then (bif Nat.beq pc 8 then some (.iload 4, 0) else none) else (bif Nat.beq pc 6 then some (.istore 4, 0) else none)) else (bif Nat.ble 5 pc then (bif Nat.beq pc 5 then some (.imul, 0) else none) else (bif Nat.beq pc 3 then some (.bipush (8), 0) else none))) else (bif Nat.ble 1 pc then (bif Nat.ble 2 pc then (bif Nat.beq pc 2 then some (.iload_n 2, 0) else none) else (bif Nat.beq pc 1 then some (.istore_n 3, 0) else none)) else (bif Nat.beq pc 0 then some (.iconst (0), 0) else none)))))
def am_f63 (pc : Nat) : Option (Instr × Nat) := am_gd 53 pc (bif Nat.ble 27 pc then (bif Nat.ble 42 pc then (bif Nat.ble 47 pc then (bif Nat.ble 49 pc then (bif Nat.ble 52 pc then (bif Nat.beq pc 52 then some (.return_, 0) else none) else (bif Nat.beq pc 49 then some (.putfield 32, 801) else none)) else (bif Nat.ble 48 pc then (bif Nat.beq pc 48 then some (.aload_n 2, 0) else none) else (bif Nat.beq pc 47 then some (.aload_n 0, 0) else none))) else (bif Nat.ble 43 pc then (bif Nat.ble 44 pc then (bif Nat.beq pc 44 then some (.putfield 28, 800) else none) else (bif Nat.beq pc 43 then some (.aload_n 1, 0) else none)) else (bif Nat.beq pc 42 then some (.aload_n 0, 0) else none))) else (bif Nat.ble 34 pc then (bif Nat.ble 37 pc then (bif Nat.ble 39 pc then (bif Nat.beq pc 39 then some (.putfield 25, 805) else none) else (bif Nat.beq pc 37 then some (.newarray .int, 0) else none)) else (bif Nat.ble 35 pc then (bif Nat.beq pc 35 then some (.bipush (20), 0) else none) else (bif Nat.beq pc 34 then some (.aload_n 0, 0) else none))) else (bif Nat.ble 29 pc then (bif Nat.ble 31 pc then (bif Nat.beq pc 31 then some (.putfield 21, 804) else none) else (bif Nat.beq pc 29 then some (.newarray .int, 0) else none)) else (bif Nat.beq pc 27 then some (.bipush (20), 0) else none)))) else (bif Nat.ble 12 pc then (bif Nat.ble 19 pc then (bif Nat.ble 23 pc then (bif Nat.ble 26 pc then (bif Nat.beq pc 26 then some (.aload_n 0, 0) else none) else (bif Nat.beq pc 23 then some (.putfield 18, 803) else none)) else (bif Nat.ble 20 pc then (bif Nat.beq pc 20 then some (.invokespecial 11, 56) else none) else (bif Nat.beq pc 19 then some (.dup, 0) else none))) else (bif Nat.ble 15 pc then (bif Nat.ble 16 pc then (bif Nat.beq pc 16 then some (.new 9, 7) else none) else (bif Nat.beq pc 15 then some (.aload_n 0, 0) else none)) else (bif Nat.beq pc 12 then some (.putfield 12, 802) else none))) else (bif Nat.ble 5 pc then (bif Nat.ble 8 pc then (bif Nat.ble 9 pc then (bif Nat.beq pc 9 then some (.invokespecial 11, 56) else none) else (bif Nat.beq pc 8 then some (.dup, 0) else none)) else (bif Nat.beq pc 5 then some (.new 9, 7) else none)) else (bif Nat.ble 1 pc then (bif Nat.ble 4 pc then (bif Nat.beq pc 4 then some (.aload_n 0, 0) else none) else (bif Nat.beq pc 1 then some (.invokespecial 3, 1000) else none)) else (bif Nat.beq pc 0 then some (.aload_n 0, 0) else none)))))
def am_f64 (pc : Nat) : Option (Instr × Nat) := am_gd 179 pc (bif Nat.ble 88 pc then (bif Nat.ble 133 pc then (bif Nat.ble 157 pc then (bif Nat.ble 167 pc then (bif Nat.ble 172 pc then (bif Nat.ble 175 pc then (bif Nat.ble 178 pc then (bif Nat.beq pc 178 then some (.return_, 0) else none) else (bif Nat.beq pc 175 then some (.goto (-121), 54) else none)) else (bif Nat.beq pc 172 then some (.iinc 5 (1), 0) else none)) else (bif Nat.ble 168 pc then (bif Nat.ble 169 pc then (bif Nat.beq pc 169 then some (.invokevirtual 73, 65) else none) else (bif Nat.beq pc 168 then some (.iaload, 0) else none)) else (bif Nat.beq pc 167 then some (.iload_n 1, 0) else none))) else (bif Nat.ble 160 pc then (bif Nat.ble 161 pc then (bif Nat.ble 164 pc then (bif Nat.beq pc 164 then some (.getfield 70, 508) else none) else (bif Nat.beq pc 161 then some (.getfield 28, 800) else none)) else (bif Nat.beq pc 160 then some (.aload_n 0, 0) else none)) else (bif Nat.ble 159 pc then (bif Nat.beq pc 159 then some (.isub, 0) else none) else (bif Nat.beq pc 157 then some (.bipush (10), 0) else none)))) else (bif Nat.ble 143 pc then (bif Nat.ble 151 pc then (bif Nat.ble 154 pc then (bif Nat.ble 155 pc then (bif Nat.beq pc 155 then some (.iload 6, 0) else none) else (bif Nat.beq pc 154 then some (.aload_n 0, 0) else none)) else (bif Nat.beq pc 151 then some (.ifCond .ne (21), 172) else none)) else (bif Nat.ble 146 pc then (bif Nat.ble 148 pc then (bif Nat.beq pc 148 then some (.invokevirtual 66, 51) else none) else (bif Nat.beq pc 146 then some (.iload 6, 0) else none)) else (bif Nat.beq pc 143 then some (.getfield 28, 800) else none))) else (bif Nat.ble 137 pc then (bif Nat.ble 139 pc then (bif Nat.ble 142 pc then (bif Nat.beq pc 142 then some (.aload_n 0, 0) else none) else (bif Nat.beq pc 139 then some (.invokevirtual 60, 9) else none)) else (bif Nat.beq pc 137 then some (.iload 6, 0) else none)) else (bif Nat.ble 136 pc then (bif Nat.beq pc 136 then some (.iload_n 2, 0) else none) else (bif Nat.beq pc 133 then some (.getfield 18, 803) else none))))) else (bif Nat.ble 112 pc then (bif Nat.ble 122 pc then (bif Nat.ble 128 pc then (bif Nat.ble 129 pc then (bif Nat.ble 132 pc then (bif Nat.beq pc 132 then some (.aload_n 0, 0) else none) else (bif Nat.beq pc 129 then some (.getfield 32, 801) else none)) else (bif Nat.beq pc 128 then some (.aload_n 0, 0) else none)) else (bif Nat.ble 124 pc then (bif Nat.ble 125 pc then (bif Nat.beq pc 125 then some (.if_icmp .eq (17), 142) else none) else (bif Nat.beq pc 124 then some (.iload_n 1, 0) else none)) else (bif Nat.beq pc 122 then some (.iload 6, 0) else none))) else (bif Nat.ble 116 pc then (bif Nat.ble 117 pc then (bif Nat.ble 119 pc then (bif Nat.beq pc 119 then some (.invokevirtual 60, 9) else none) else (bif Nat.beq pc 117 then some (.iload 6, 0) else none)) else (bif Nat.beq pc 116 then some (.iload_n 2, 0) else none)) else (bif Nat.ble 113 pc then (bif Nat.beq pc 113 then some (.getfield 12, 802) else none) else (bif Nat.beq pc 112 then some (.aload_n 0, 0) else none)))) else (bif Nat.ble 99 pc then (bif Nat.ble 105 pc then (bif Nat.ble 108 pc then (bif Nat.ble 109 pc then (bif Nat.beq pc 109 then some (.getfield 32, 801) else none) else (bif Nat.beq pc 108 then some (.aload_n 0, 0) else none)) else (bif Nat.beq pc 105 then some (.goto (67), 172) else none)) else (bif Nat.ble 102 pc then (bif Nat.beq pc 102 then some (.ifCond .ne (6), 108) else none) else (bif Nat.beq pc 99 then some (.invokevirtual 56, 53) else none))) else (bif Nat.ble 92 pc then (bif Nat.ble 95 pc then (bif Nat.ble 97 pc then (bif Nat.beq pc 97 then some (.iload 4, 0) else none) else (bif Nat.beq pc 95 then some (.iload 6, 0) else none)) else (bif Nat.beq pc 92 then some (.getfield 28, 800) else none)) else (bif Nat.ble 91 pc then (bif Nat.beq pc 91 then some (.aload_n 0, 0) else none) else (bif Nat.beq pc 88 then some (.if_icmp .gt (84), 172) else none)))))) else (bif Nat.ble 44 pc then (bif Nat.ble 66 pc then (bif Nat.ble 76 pc then (bif Nat.ble 82 pc then (bif Nat.ble 84 pc then (bif Nat.ble 87 pc then (bif Nat.beq pc 87 then some (.iload_n 3, 0) else none) else (bif Nat.beq pc 84 then some (.invokevirtual 52, 52) else none)) else (bif Nat.beq pc 82 then some (.iload 6, 0) else none)) else (bif Nat.ble 78 pc then (bif Nat.ble 79 pc then (bif Nat.beq pc 79 then some (.getfield 28, 800) else none) else (bif Nat.beq pc 78 then some (.aload_n 0, 0) else none)) else (bif Nat.beq pc 76 then some (.istore 6, 0) else none))) else (bif Nat.ble 70 pc then (bif Nat.ble 73 pc then (bif Nat.ble 75 pc then (bif Nat.beq pc 75 then some (.iaload, 0) else none) else (bif Nat.beq pc 73 then some (.iload 5, 0) else none)) else (bif Nat.beq pc 70 then some (.getfield 49, 512) else none)) else (bif Nat.ble 67 pc then (bif Nat.beq pc 67 then some (.getfield 28, 800) else none) else (bif Nat.beq pc 66 then some (.aload_n 0, 0) else none)))) else (bif Nat.ble 54 pc then (bif Nat.ble 57 pc then (bif Nat.ble 60 pc then (bif Nat.ble 63 pc then (bif Nat.beq pc 63 then some (.if_icmp .ge (115), 178) else none) else (bif Nat.beq pc 60 then some (.getfield 46, 513) else none)) else (bif Nat.beq pc 57 then some (.getfield 28, 800) else none)) else (bif Nat.ble 56 pc then (bif Nat.beq pc 56 then some (.aload_n 0, 0) else none) else (bif Nat.beq pc 54 then some (.iload 5, 0) else none))) else (bif Nat.ble 48 pc then (bif Nat.ble 51 pc then (bif Nat.ble 52 pc then (bif Nat.beq pc 52 then some (.istore 5, 0) else none) else (bif Nat.beq pc 51 then some (.iconst (0), 0) else none)) else (bif Nat.beq pc 48 then some (.goto (-23), 25) else none)) else (bif Nat.ble 45 pc then (bif Nat.beq pc 45 then some (.iinc 5 (1), 0) else none) else (bif Nat.beq pc 44 then some (.iastore, 0) else none))))) else (bif Nat.ble 22 pc then (bif Nat.ble 31 pc then (bif Nat.ble 38 pc then (bif Nat.ble 41 pc then (bif Nat.ble 43 pc then (bif Nat.beq pc 43 then some (.iconst (-1), 0) else none) else (bif Nat.beq pc 41 then some (.iload 5, 0) else none)) else (bif Nat.beq pc 38 then some (.getfield 21, 804) else none)) else (bif Nat.ble 34 pc then (bif Nat.ble 37 pc then (bif Nat.beq pc 37 then some (.aload_n 0, 0) else none) else (bif Nat.beq pc 34 then some (.if_icmp .ge (17), 51) else none)) else (bif Nat.beq pc 31 then some (.getfield 40, 514) else none))) else (bif Nat.ble 25 pc then (bif Nat.ble 27 pc then (bif Nat.ble 28 pc then (bif Nat.beq pc 28 then some (.getfield 28, 800) else none) else (bif Nat.beq pc 27 then some (.aload_n 0, 0) else none)) else (bif Nat.beq pc 25 then some (.iload 5, 0) else none)) else (bif Nat.ble 23 pc then (bif Nat.beq pc 23 then some (.istore 5, 0) else none) else (bif Nat.beq pc 22 then some (.iconst (0), 0) else none)))) else (bif Nat.ble 11 pc then (bif Nat.ble 15 pc then (bif Nat.ble 16 pc then (bif Nat.ble 19 pc then (bif Nat.beq pc 19 then some (.invokevirtual 36, 57) else none) else (bif Nat.beq pc 16 then some (.getfield 28, 800) else none)) else (bif Nat.beq pc 15 then some (.aload_n 0, 0) else none)) else (bif Nat.ble 12 pc then (bif Nat.beq pc 12 then some (.getfield 18, 803) else none) else (bif Nat.beq pc 11 then some (.aload_n 0, 0) else none))) else (bif Nat.ble 4 pc then (bif Nat.ble 5 pc then (bif Nat.ble 8 pc then (bif Nat.beq pc 8 then some (.invokevirtual 36, 57) else none) else (bif Nat.beq pc 5 then some (.getfield 28, 800) else none)) else (bif Nat.beq pc 4 then some (.aload_n 0, 0) else none)) else (bif Nat.ble 1 pc then (bif Nat.beq pc 1 then some (.getfield 12, 802) else none) else (bif Nat.beq pc 0 then some (.aload_n 0, 0) else none)))))))
def am_f65 (pc : Nat) : Option (Instr × Nat) := am_gd 44 pc (bif Nat.ble 23 pc then (bif Nat.ble 33 pc then (bif Nat.ble 38 pc then (bif Nat.ble 40 pc then (bif Nat.ble 43 pc then (bif Nat.beq pc 43 then some (.return_, 0) else none) else (bif Nat.beq pc 40 then some (.invokevirtual 80, 66) else none)) else (bif Nat.ble 39 pc then (bif Nat.beq pc 39 then some (.iload_n 2, 0) else none) else (bif Nat.beq pc 38 then some (.iload_n 1, 0) else none))) else (bif Nat.ble 36 pc then (bif Nat.ble 37 pc then (bif Nat.beq pc 37 then some (.iaload, 0) else none) else (bif Nat.beq pc 36 then some (.iload_n 1, 0) else none)) else (bif Nat.beq pc 33 then some (.getfield 84, 503) else none))) else (bif Nat.ble 28 pc then (bif Nat.ble 29 pc then (bif Nat.ble 30 pc then (bif Nat.beq pc 30 then some (.getfield 28, 800) else none) else (bif Nat.beq pc 29 then some (.aload_n 0, 0) else none)) else (bif Nat.beq pc 28 then some (.aload_n 0, 0) else none)) else (bif Nat.ble 24 pc then (bif Nat.ble 25 pc then (bif Nat.beq pc 25 then some (.if_icmp .eq (18), 43) else none) else (bif Nat.beq pc 24 then some (.iconst (-1), 0) else none)) else (bif Nat.beq pc 23 then some (.iaload, 0) else none)))) else (bif Nat.ble 10 pc then (bif Nat.ble 15 pc then (bif Nat.ble 19 pc then (bif Nat.ble 22 pc then (bif Nat.beq pc 22 then some (.iload_n 1, 0) else none) else (bif Nat.beq pc 19 then some (.getfield 84, 503) else none)) else (bif Nat.ble 16 pc then (bif Nat.beq pc 16 then some (.getfield 28, 800) else none) else (bif Nat.beq pc 15 then some (.aload_n 0, 0) else none))) else (bif Nat.ble 11 pc then (bif Nat.ble 12 pc then (bif Nat.beq pc 12 then some (.invokevirtual 80, 66) else none) else (bif Nat.beq pc 11 then some (.iload_n 2, 0) else none)) else (bif Nat.beq pc 10 then some (.iload_n 1, 0) else none))) else (bif Nat.ble 5 pc then (bif Nat.ble 8 pc then (bif Nat.ble 9 pc then (bif Nat.beq pc 9 then some (.iaload, 0) else none) else (bif Nat.beq pc 8 then some (.iload_n 1, 0) else none)) else (bif Nat.beq pc 5 then some (.getfield 77, 502) else none)) else (bif Nat.ble 1 pc then (bif Nat.ble 2 pc then (bif Nat.beq pc 2 then some (.getfield 28, 800) else none) else (bif Nat.beq pc 1 then some (.aload_n 0, 0) else none)) else (bif Nat.beq pc 0 then some (.aload_n 0, 0) else none)))))
def am_f66 (pc : Nat) : Option (Instr × Nat) := am_gd 31 pc (bif Nat.ble 15 pc then (bif Nat.ble 24 pc then (bif Nat.ble 28 pc then (bif Nat.ble 29 pc then (bif Nat.ble 30 pc then (bif Nat.beq pc 30 then some (.return_, 0) else none) else (bif Nat.beq pc 29 then some (.iastore, 0) else none)) else (bif Nat.beq pc 28 then some (.iload_n 2, 0) else none)) else (bif Nat.ble 27 pc then (bif Nat.beq pc 27 then some (.iload_n 1, 0) else none) else (bif Nat.beq pc 24 then some (.getfield 21, 804) else none))) else (bif Nat.ble 17 pc then (bif Nat.ble 20 pc then (bif Nat.ble 23 pc then (bif Nat.beq pc 23 then some (.aload_n 0, 0) else none) else (bif Nat.beq pc 20 then some (.ifCond .le (10), 30) else none)) else (bif Nat.beq pc 17 then some (.invokevirtual 87, 67) else none)) else (bif Nat.ble 16 pc then (bif Nat.beq pc 16 then some (.iload_n 1, 0) else none) else (bif Nat.beq pc 15 then some (.aload_n 0, 0) else none)))) else (bif Nat.ble 6 pc then (bif Nat.ble 10 pc then (bif Nat.ble 11 pc then (bif Nat.ble 12 pc then (bif Nat.beq pc 12 then some (.if_icmp .ne (18), 30) else none) else (bif Nat.beq pc 11 then some (.iconst (-1), 0) else none)) else (bif Nat.beq pc 10 then some (.iaload, 0) else none)) else (bif Nat.ble 9 pc then (bif Nat.beq pc 9 then some (.iload_n 1, 0) else none) else (bif Nat.beq pc 6 then some (.getfield 21, 804) else none))) else (bif Nat.ble 2 pc then (bif Nat.ble 5 pc then (bif Nat.beq pc 5 then some (.aload_n 0, 0) else none) else (bif Nat.beq pc 2 then some (.if_icmp .eq (28), 30) else none)) else (bif Nat.ble 1 pc then (bif Nat.beq pc 1 then some (.iload_n 3, 0) else none) else (bif Nat.beq pc 0 then some (.iload_n 1, 0) else none)))))
def am_f67 (pc : Nat) : Option (Instr × Nat) := am_gd 13 pc (bif Nat.ble 5 pc then (bif Nat.ble 9 pc then (bif Nat.ble 12 pc then (bif Nat.beq pc 12 then some (.ireturn, 0) else none) else (bif Nat.beq pc 9 then some (.invokevirtual 90, 62) else none)) else (bif Nat.ble 8 pc then (bif Nat.beq pc 8 then some (.iload_n 1, 0) else none) else (bif Nat.beq pc 5 then some (.getfield 18, 803) else none))) else (bif Nat.ble 1 pc then (bif Nat.ble 4 pc then (bif Nat.beq pc 4 then some (.aload_n 0, 0) else none) else (bif Nat.beq pc 1 then some (.getfield 12, 802) else none)) else (bif Nat.beq pc 0 then some (.aload_n 0, 0) else none)))
def am_f68 (pc : Nat) : Option (Instr × Nat) := am_gd 120 pc (bif Nat.ble 54 pc then (bif Nat.ble 86 pc then (bif Nat.ble 103 pc then (bif Nat.ble 111 pc then (bif Nat.ble 117 pc then (bif Nat.ble 119 pc then (bif Nat.beq pc 119 then some (.ireturn, 0) else none) else (bif Nat.beq pc 117 then some (.iload 4, 0) else none)) else (bif Nat.ble 114 pc then (bif Nat.beq pc 114 then some (.goto (-78), 36) else none) else (bif Nat.beq pc 111 then some (.iinc 6 (1), 0) else none))) else (bif Nat.ble 106 pc then (bif Nat.ble 109 pc then (bif Nat.beq pc 109 then some (.istore 5, 0) else none) else (bif Nat.beq pc 106 then some (.invokevirtual 97, 54) else none)) else (bif Nat.ble 104 pc then (bif Nat.beq pc 104 then some (.iload 5, 0) else none) else (bif Nat.beq pc 103 then some (.iaload, 0) else none)))) else (bif Nat.ble 94 pc then (bif Nat.ble 98 pc then (bif Nat.ble 101 pc then (bif Nat.beq pc 101 then some (.iload 5, 0) else none) else (bif Nat.beq pc 98 then some (.getfield 21, 804) else none)) else (bif Nat.ble 97 pc then (bif Nat.beq pc 97 then some (.aload_n 0, 0) else none) else (bif Nat.beq pc 94 then some (.getfield 28, 800) else none))) else (bif Nat.ble 90 pc then (bif Nat.ble 93 pc then (bif Nat.beq pc 93 then some (.aload_n 0, 0) else none) else (bif Nat.beq pc 90 then some (.goto (19), 109) else none)) else (bif Nat.ble 89 pc then (bif Nat.beq pc 89 then some (.iconst (-1), 0) else none) else (bif Nat.beq pc 86 then some (.if_icmp .ne (7), 93) else none))))) else (bif Nat.ble 72 pc then (bif Nat.ble 79 pc then (bif Nat.ble 84 pc then (bif Nat.ble 85 pc then (bif Nat.beq pc 85 then some (.iconst (-1), 0) else none) else (bif Nat.beq pc 84 then some (.iaload, 0) else none)) else (bif Nat.ble 82 pc then (bif Nat.beq pc 82 then some (.iload 5, 0) else none) else (bif Nat.beq pc 79 then some (.getfield 21, 804) else none))) else (bif Nat.ble 75 pc then (bif Nat.ble 78 pc then (bif Nat.beq pc 78 then some (.aload_n 0, 0) else none) else (bif Nat.beq pc 75 then some (.if_icmp .eq (14), 89) else none)) else (bif Nat.ble 74 pc then (bif Nat.beq pc 74 then some (.iload_n 3, 0) else none) else (bif Nat.beq pc 72 then some (.iload 5, 0) else none)))) else (bif Nat.ble 64 pc then (bif Nat.ble 68 pc then (bif Nat.ble 69 pc then (bif Nat.beq pc 69 then some (.iinc 4 (1), 0) else none) else (bif Nat.beq pc 68 then some (.iastore, 0) else none)) else (bif Nat.ble 66 pc then (bif Nat.beq pc 66 then some (.iload 5, 0) else none) else (bif Nat.beq pc 64 then some (.iload 4, 0) else none))) else (bif Nat.ble 60 pc then (bif Nat.ble 61 pc then (bif Nat.beq pc 61 then some (.getfield 25, 805) else none) else (bif Nat.beq pc 60 then some (.aload_n 0, 0) else none)) else (bif Nat.ble 57 pc then (bif Nat.beq pc 57 then some (.ifCond .ne (60), 117) else none) else (bif Nat.beq pc 54 then some (.invokevirtual 94, 69) else none)))))) else (bif Nat.ble 26 pc then (bif Nat.ble 38 pc then (bif Nat.ble 46 pc then (bif Nat.ble 50 pc then (bif Nat.ble 52 pc then (bif Nat.beq pc 52 then some (.iload 4, 0) else none) else (bif Nat.beq pc 50 then some (.iload 5, 0) else none)) else (bif Nat.ble 49 pc then (bif Nat.beq pc 49 then some (.aload_n 0, 0) else none) else (bif Nat.beq pc 46 then some (.if_icmp .eq (71), 117) else none))) else (bif Nat.ble 43 pc then (bif Nat.ble 45 pc then (bif Nat.beq pc 45 then some (.iconst (-1), 0) else none) else (bif Nat.beq pc 43 then some (.iload 5, 0) else none)) else (bif Nat.ble 40 pc then (bif Nat.beq pc 40 then some (.if_icmp .ge (77), 117) else none) else (bif Nat.beq pc 38 then some (.bipush (20), 0) else none)))) else (bif Nat.ble 31 pc then (bif Nat.ble 34 pc then (bif Nat.ble 36 pc then (bif Nat.beq pc 36 then some (.iload 6, 0) else none) else (bif Nat.beq pc 34 then some (.istore 6, 0) else none)) else (bif Nat.ble 33 pc then (bif Nat.beq pc 33 then some (.iconst (0), 0) else none) else (bif Nat.beq pc 31 then some (.istore 5, 0) else none))) else (bif Nat.ble 28 pc then (bif Nat.ble 30 pc then (bif Nat.beq pc 30 then some (.iload_n 2, 0) else none) else (bif Nat.beq pc 28 then some (.istore 4, 0) else none)) else (bif Nat.ble 27 pc then (bif Nat.beq pc 27 then some (.iconst (0), 0) else none) else (bif Nat.beq pc 26 then some (.ireturn, 0) else none))))) else (bif Nat.ble 12 pc then (bif Nat.ble 20 pc then (bif Nat.ble 22 pc then (bif Nat.ble 25 pc then (bif Nat.beq pc 25 then some (.iconst (0), 0) else none) else (bif Nat.beq pc 22 then some (.if_icmp .ne (5), 27) else none)) else (bif Nat.ble 21 pc then (bif Nat.beq pc 21 then some (.iconst (-1), 0) else none) else (bif Nat.beq pc 20 then some (.iaload, 0) else none))) else (bif Nat.ble 16 pc then (bif Nat.ble 19 pc then (bif Nat.beq pc 19 then some (.iload_n 2, 0) else none) else (bif Nat.beq pc 16 then some (.getfield 21, 804) else none)) else (bif Nat.ble 15 pc then (bif Nat.beq pc 15 then some (.aload_n 0, 0) else none) else (bif Nat.beq pc 12 then some (.if_icmp .eq (15), 27) else none)))) else (bif Nat.ble 8 pc then (bif Nat.ble 10 pc then (bif Nat.ble 11 pc then (bif Nat.beq pc 11 then some (.iload_n 3, 0) else none) else (bif Nat.beq pc 10 then some (.iload_n 2, 0) else none)) else (bif Nat.ble 9 pc then (bif Nat.beq pc 9 then some (.istore_n 3, 0) else none) else (bif Nat.beq pc 8 then some (.iaload, 0) else none))) else (bif Nat.ble 4 pc then (bif Nat.ble 7 pc then (bif Nat.beq pc 7 then some (.iload_n 1, 0) else none) else (bif Nat.beq pc 4 then some (.getfield 70, 508) else none)) else (bif Nat.ble 1 pc then (bif Nat.beq pc 1 then some (.getfield 28, 800) else none) else (bif Nat.beq pc 0 then some (.aload_n 0, 0) else none)))))))
def am_f69 (pc : Nat) : Option (Instr × Nat) := am_gd 27 pc (bif Nat.ble 12 pc then (bif Nat.ble 18 pc then (bif Nat.ble 22 pc then (bif Nat.ble 25 pc then (bif Nat.ble 26 pc then (bif Nat.beq pc 26 then some (.ireturn, 0) else none) else (bif Nat.beq pc 25 then some (.iconst (0), 0) else none)) else (bif Nat.beq pc 22 then some (.goto (-20), 2) else none)) else (bif Nat.ble 19 pc then (bif Nat.beq pc 19 then some (.iinc 3 (1), 0) else none) else (bif Nat.beq pc 18 then some (.ireturn, 0) else none))) else (bif Nat.ble 14 pc then (bif Nat.ble 17 pc then (bif Nat.beq pc 17 then some (.iconst (1), 0) else none) else (bif Nat.beq pc 14 then some (.if_icmp .ne (5), 19) else none)) else (bif Nat.ble 13 pc then (bif Nat.beq pc 13 then some (.iload_n 1, 0) else none) else (bif Nat.beq pc 12 then some (.iaload, 0) else none)))) else (bif Nat.ble 4 pc then (bif Nat.ble 8 pc then (bif Nat.ble 11 pc then (bif Nat.beq pc 11 then some (.iload_n 3, 0) else none) else (bif Nat.beq pc 8 then some (.getfield 25, 805) else none)) else (bif Nat.ble 7 pc then (bif Nat.beq pc 7 then some (.aload_n 0, 0) else none) else (bif Nat.beq pc 4 then some (.if_icmp .ge (21), 25) else none))) else (bif Nat.ble 2 pc then (bif Nat.ble 3 pc then (bif Nat.beq pc 3 then some (.iload_n 2, 0) else none) else (bif Nat.beq pc 2 then some (.iload_n 3, 0) else none)) else (bif Nat.ble 1 pc then (bif Nat.beq pc 1 then some (.istore_n 3, 0) else none) else (bif Nat.beq pc 0 then some (.iconst (0), 0) else none)))))
def am_f70 (pc : Nat) : Option (Instr × Nat) := am_gd 42 pc (bif Nat.ble 20 pc then (bif Nat.ble 30 pc then (bif Nat.ble 37 pc then (bif Nat.ble 40 pc then (bif Nat.ble 41 pc then (bif Nat.beq pc 41 then some (.ireturn, 0) else none) else (bif Nat.beq pc 40 then some (.iconst (-1), 0) else none)) else (bif Nat.beq pc 37 then some (.goto (-34), 3) else none)) else (bif Nat.ble 31 pc then (bif Nat.ble 34 pc then (bif Nat.beq pc 34 then some (.iinc 4 (1), 0) else none) else (bif Nat.beq pc 31 then some (.invokevirtual 101, 10) else none)) else (bif Nat.beq pc 30 then some (.iload_n 3, 0) else none))) else (bif Nat.ble 25 pc then (bif Nat.ble 28 pc then (bif Nat.ble 29 pc then (bif Nat.beq pc 29 then some (.iload_n 2, 0) else none) else (bif Nat.beq pc 28 then some (.iload_n 1, 0) else none)) else (bif Nat.beq pc 25 then some (.getfield 12, 802) else none)) else (bif Nat.ble 21 pc then (bif Nat.ble 24 pc then (bif Nat.beq pc 24 then some (.aload_n 0, 0) else none) else (bif Nat.beq pc 21 then some (.getfield 32, 801) else none)) else (bif Nat.beq pc 20 then some (.aload_n 0, 0) else none)))) else (bif Nat.ble 9 pc then (bif Nat.ble 14 pc then (bif Nat.ble 17 pc then (bif Nat.ble 19 pc then (bif Nat.beq pc 19 then some (.ireturn, 0) else none) else (bif Nat.beq pc 17 then some (.iload 4, 0) else none)) else (bif Nat.beq pc 14 then some (.ifCond .ne (6), 20) else none)) else (bif Nat.ble 10 pc then (bif Nat.ble 11 pc then (bif Nat.beq pc 11 then some (.invokevirtual 87, 67) else none) else (bif Nat.beq pc 10 then some (.iload_n 2, 0) else none)) else (bif Nat.beq pc 9 then some (.aload_n 0, 0) else none))) else (bif Nat.ble 3 pc then (bif Nat.ble 5 pc then (bif Nat.ble 6 pc then (bif Nat.beq pc 6 then some (.if_icmp .gt (34), 40) else none) else (bif Nat.beq pc 5 then some (.iconst (5), 0) else none)) else (bif Nat.beq pc 3 then some (.iload 4, 0) else none)) else (bif Nat.ble 1 pc then (bif Nat.beq pc 1 then some (.istore 4, 0) else none) else (bif Nat.beq pc 0 then some (.iconst (0), 0) else none)))))
def am_f71 (pc : Nat) : Option (Instr × Nat) := am_gd 39 pc (bif Nat.ble 17 pc then (bif Nat.ble 29 pc then (bif Nat.ble 33 pc then (bif Nat.ble 35 pc then (bif Nat.ble 38 pc then (bif Nat.beq pc 38 then some (.return_, 0) else none) else (bif Nat.beq pc 35 then some (.putfield 21, 903) else none)) else (bif Nat.beq pc 33 then some (.newarray .int, 0) else none)) else (bif Nat.ble 30 pc then (bif Nat.beq pc 30 then some (.sipush (160), 0) else none) else (bif Nat.beq pc 29 then some (.aload_n 0, 0) else none))) else (bif Nat.ble 21 pc then (bif Nat.ble 24 pc then (bif Nat.ble 26 pc then (bif Nat.beq pc 26 then some (.putfield 18, 902) else none) else (bif Nat.beq pc 24 then some (.newarray .int, 0) else none)) else (bif Nat.beq pc 21 then some (.sipush (160), 0) else none)) else (bif Nat.ble 20 pc then (bif Nat.beq pc 20 then some (.aload_n 0, 0) else none) else (bif Nat.beq pc 17 then some (.putfield 15, 901) else none)))) else (bif Nat.ble 7 pc then (bif Nat.ble 12 pc then (bif Nat.ble 13 pc then (bif Nat.ble 15 pc then (bif Nat.beq pc 15 then some (.newarray .int, 0) else none) else (bif Nat.beq pc 13 then some (.bipush (6), 0) else none)) else (bif Nat.beq pc 12 then some (.aload_n 0, 0) else none)) else (bif Nat.ble 9 pc then (bif Nat.beq pc 9 then some (.putfield 9, 900) else none) else (bif Nat.beq pc 7 then some (.newarray .int, 0) else none))) else (bif Nat.ble 4 pc then (bif Nat.ble 5 pc then (bif Nat.beq pc 5 then some (.bipush (6), 0) else none) else (bif Nat.beq pc 4 then some (.aload_n 0, 0) else none)) else (bif Nat.ble 1 pc then (bif Nat.beq pc 1 then some (.invokespecial 3, 1000) else none) else (bif Nat.beq pc 0 then some (.aload_n 0, 0) else none)))))
def am_f72 (pc : Nat) : Option (Instr × Nat) := am_gd 89 pc (bif Nat.ble 47 pc then (bif Nat.ble 68 pc then (bif Nat.ble 79 pc then (bif Nat.ble 82 pc then (bif Nat.ble 85 pc then (bif Nat.ble 88 pc then (bif Nat.beq pc 88 then some (.return_, 0) else none) else (bif Nat.beq pc 85 then some (.goto (-16), 69) else none)) else (bif Nat.beq pc 82 then some (.iinc 3 (1), 0) else none)) else (bif Nat.ble 80 pc then (bif Nat.ble 81 pc then (bif Nat.beq pc 81 then some (.iastore, 0) else none) else (bif Nat.beq pc 80 then some (.iconst (-1), 0) else none)) else (bif Nat.beq pc 79 then some (.iload_n 3, 0) else none))) else (bif Nat.ble 72 pc then (bif Nat.ble 75 pc then (bif Nat.ble 76 pc then (bif Nat.beq pc 76 then some (.getfield 18, 1004) else none) else (bif Nat.beq pc 75 then some (.aload_n 0, 0) else none)) else (bif Nat.beq pc 72 then some (.if_icmp .ge (16), 88) else none)) else (bif Nat.ble 69 pc then (bif Nat.ble 70 pc then (bif Nat.beq pc 70 then some (.bipush (8), 0) else none) else (bif Nat.beq pc 69 then some (.iload_n 3, 0) else none)) else (bif Nat.beq pc 68 then some (.istore_n 3, 0) else none)))) else (bif Nat.ble 58 pc then (bif Nat.ble 63 pc then (bif Nat.ble 64 pc then (bif Nat.ble 67 pc then (bif Nat.beq pc 67 then some (.iconst (0), 0) else none) else (bif Nat.beq pc 64 then some (.putfield 38, 1001) else none)) else (bif Nat.beq pc 63 then some (.aload_n 2, 0) else none)) else (bif Nat.ble 59 pc then (bif Nat.ble 62 pc then (bif Nat.beq pc 62 then some (.aload_n 0, 0) else none) else (bif Nat.beq pc 59 then some (.putfield 34, 1000) else none)) else (bif Nat.beq pc 58 then some (.aload_n 1, 0) else none))) else (bif Nat.ble 52 pc then (bif Nat.ble 54 pc then (bif Nat.ble 57 pc then (bif Nat.beq pc 57 then some (.aload_n 0, 0) else none) else (bif Nat.beq pc 54 then some (.putfield 31, 1009) else none)) else (bif Nat.beq pc 52 then some (.bipush (7), 0) else none)) else (bif Nat.ble 48 pc then (bif Nat.ble 51 pc then (bif Nat.beq pc 51 then some (.aload_n 0, 0) else none) else (bif Nat.beq pc 48 then some (.putfield 27, 1008) else none)) else (bif Nat.beq pc 47 then some (.iconst (1), 0) else none))))) else (bif Nat.ble 23 pc then (bif Nat.ble 35 pc then (bif Nat.ble 41 pc then (bif Nat.ble 43 pc then (bif Nat.ble 46 pc then (bif Nat.beq pc 46 then some (.aload_n 0, 0) else none) else (bif Nat.beq pc 43 then some (.putfield 24, 1006) else none)) else (bif Nat.beq pc 41 then some (.newarray .int, 0) else none)) else (bif Nat.ble 38 pc then (bif Nat.ble 39 pc then (bif Nat.beq pc 39 then some (.bipush (48), 0) else none) else (bif Nat.beq pc 38 then some (.aload_n 0, 0) else none)) else (bif Nat.beq pc 35 then some (.putfield 21, 1005) else none))) else (bif Nat.ble 30 pc then (bif Nat.ble 31 pc then (bif Nat.ble 33 pc then (bif Nat.beq pc 33 then some (.newarray .int, 0) else none) else (bif Nat.beq pc 31 then some (.bipush (8), 0) else none)) else (bif Nat.beq pc 30 then some (.aload_n 0, 0) else none)) else (bif Nat.ble 25 pc then (bif Nat.ble 27 pc then (bif Nat.beq pc 27 then some (.putfield 18, 1004) else none) else (bif Nat.beq pc 25 then some (.newarray .int, 0) else none)) else (bif Nat.beq pc 23 then some (.bipush (8), 0) else none)))) else (bif Nat.ble 10 pc then (bif Nat.ble 17 pc then (bif Nat.ble 19 pc then (bif Nat.ble 22 pc then (bif Nat.beq pc 22 then some (.aload_n 0, 0) else none) else (bif Nat.beq pc 19 then some (.putfield 15, 1003) else none)) else (bif Nat.beq pc 17 then some (.newarray .int, 0) else none)) else (bif Nat.ble 13 pc then (bif Nat.ble 14 pc then (bif Nat.beq pc 14 then some (.sipush (400), 0) else none) else (bif Nat.beq pc 13 then some (.aload_n 0, 0) else none)) else (bif Nat.beq pc 10 then some (.putfield 9, 1002) else none))) else (bif Nat.ble 4 pc then (bif Nat.ble 5 pc then (bif Nat.ble 8 pc then (bif Nat.beq pc 8 then some (.newarray .int, 0) else none) else (bif Nat.beq pc 5 then some (.sipush (400), 0) else none)) else (bif Nat.beq pc 4 then some (.aload_n 0, 0) else none)) else (bif Nat.ble 1 pc then (bif Nat.beq pc 1 then some (.invokespecial 3, 1000) else none) else (bif Nat.beq pc 0 then some (.aload_n 0, 0) else none))))))
def am_f73 (pc : Nat) : Option (Instr × Nat) := am_gd 159 pc (bif Nat.ble 79 pc then (bif Nat.ble 120 pc then (bif Nat.ble 139 pc then (bif Nat.ble 150 pc then (bif Nat.ble 154 pc then (bif Nat.ble 155 pc then (bif Nat.ble 158 pc then (bif Nat.beq pc 158 then some (.return_, 0) else none) else (bif Nat.beq pc 155 then some (.putfield 90, 1111) else none)) else (bif Nat.beq pc 154 then some (.iconst (0), 0) else none)) else (bif Nat.ble 153 pc then (bif Nat.beq pc 153 then some (.aload_n 0, 0) else none) else (bif Nat.beq pc 150 then some (.putfield 86, 1110) else none))) else (bif Nat.ble 143 pc then (bif Nat.ble 144 pc then (bif Nat.ble 147 pc then (bif Nat.beq pc 147 then some (.invokespecial 83, 72) else none) else (bif Nat.beq pc 144 then some (.getfield 77, 1109) else none)) else (bif Nat.beq pc 143 then some (.aload_n 0, 0) else none)) else (bif Nat.ble 140 pc then (bif Nat.beq pc 140 then some (.getfield 61, 1107) else none) else (bif Nat.beq pc 139 then some (.aload_n 0, 0) else none)))) else (bif Nat.ble 128 pc then (bif Nat.ble 134 pc then (bif Nat.ble 135 pc then (bif Nat.ble 138 pc then (bif Nat.beq pc 138 then some (.dup, 0) else none) else (bif Nat.beq pc 135 then some (.new 81, 10) else none)) else (bif Nat.beq pc 134 then some (.aload_n 0, 0) else none)) else (bif Nat.ble 131 pc then (bif Nat.beq pc 131 then some (.putfield 77, 1109) else none) else (bif Nat.beq pc 128 then some (.invokespecial 76, 71) else none))) else (bif Nat.ble 124 pc then (bif Nat.ble 127 pc then (bif Nat.beq pc 127 then some (.dup, 0) else none) else (bif Nat.beq pc 124 then some (.new 74, 9) else none)) else (bif Nat.ble 123 pc then (bif Nat.beq pc 123 then some (.aload_n 0, 0) else none) else (bif Nat.beq pc 120 then some (.putfield 70, 1108) else none))))) else (bif Nat.ble 98 pc then (bif Nat.ble 109 pc then (bif Nat.ble 113 pc then (bif Nat.ble 114 pc then (bif Nat.ble 117 pc then (bif Nat.beq pc 117 then some (.invokespecial 67, 55) else none) else (bif Nat.beq pc 114 then some (.getfield 61, 1107) else none)) else (bif Nat.beq pc 113 then some (.aload_n 0, 0) else none)) else (bif Nat.ble 112 pc then (bif Nat.beq pc 112 then some (.dup, 0) else none) else (bif Nat.beq pc 109 then some (.new 65, 6) else none))) else (bif Nat.ble 102 pc then (bif Nat.ble 105 pc then (bif Nat.ble 108 pc then (bif Nat.beq pc 108 then some (.aload_n 0, 0) else none) else (bif Nat.beq pc 105 then some (.putfield 61, 1107) else none)) else (bif Nat.beq pc 102 then some (.invokespecial 60, 16) else none)) else (bif Nat.ble 101 pc then (bif Nat.beq pc 101 then some (.dup, 0) else none) else (bif Nat.beq pc 98 then some (.new 58, 2) else none)))) else (bif Nat.ble 87 pc then (bif Nat.ble 91 pc then (bif Nat.ble 94 pc then (bif Nat.ble 97 pc then (bif Nat.beq pc 97 then some (.aload_n 0, 0) else none) else (bif Nat.beq pc 94 then some (.putfield 55, 1106) else none)) else (bif Nat.beq pc 91 then some (.invokespecial 50, 56) else none)) else (bif Nat.ble 90 pc then (bif Nat.beq pc 90 then some (.dup, 0) else none) else (bif Nat.beq pc 87 then some (.new 48, 7) else none))) else (bif Nat.ble 83 pc then (bif Nat.ble 86 pc then (bif Nat.beq pc 86 then some (.aload_n 0, 0) else none) else (bif Nat.beq pc 83 then some (.putfield 51, 1105) else none)) else (bif Nat.ble 80 pc then (bif Nat.beq pc 80 then some (.invokespecial 50, 56) else none) else (bif Nat.beq pc 79 then some (.dup, 0) else none)))))) else (bif Nat.ble 38 pc then (bif Nat.ble 57 pc then (bif Nat.ble 66 pc then (bif Nat.ble 72 pc then (bif Nat.ble 75 pc then (bif Nat.ble 76 pc then (bif Nat.beq pc 76 then some (.new 48, 7) else none) else (bif Nat.beq pc 75 then some (.aload_n 0, 0) else none)) else (bif Nat.beq pc 72 then some (.putfield 44, 1104) else none)) else (bif Nat.ble 69 pc then (bif Nat.beq pc 69 then some (.invokespecial 41, 63) else none) else (bif Nat.beq pc 66 then some (.getfield 35, 1103) else none))) else (bif Nat.ble 61 pc then (bif Nat.ble 62 pc then (bif Nat.ble 65 pc then (bif Nat.beq pc 65 then some (.aload_n 0, 0) else none) else (bif Nat.beq pc 62 then some (.getfield 26, 1102) else none)) else (bif Nat.beq pc 61 then some (.aload_n 0, 0) else none)) else (bif Nat.ble 60 pc then (bif Nat.beq pc 60 then some (.dup, 0) else none) else (bif Nat.beq pc 57 then some (.new 39, 8) else none)))) else (bif Nat.ble 46 pc then (bif Nat.ble 50 pc then (bif Nat.ble 53 pc then (bif Nat.ble 56 pc then (bif Nat.beq pc 56 then some (.aload_n 0, 0) else none) else (bif Nat.beq pc 53 then some (.putfield 35, 1103) else none)) else (bif Nat.beq pc 50 then some (.invokespecial 32, 5) else none)) else (bif Nat.ble 47 pc then (bif Nat.beq pc 47 then some (.getfield 10, 1100) else none) else (bif Nat.beq pc 46 then some (.aload_n 0, 0) else none))) else (bif Nat.ble 42 pc then (bif Nat.ble 43 pc then (bif Nat.beq pc 43 then some (.getfield 26, 1102) else none) else (bif Nat.beq pc 42 then some (.aload_n 0, 0) else none)) else (bif Nat.ble 41 pc then (bif Nat.beq pc 41 then some (.dup, 0) else none) else (bif Nat.beq pc 38 then some (.new 30, 1) else none))))) else (bif Nat.ble 19 pc then (bif Nat.ble 27 pc then (bif Nat.ble 31 pc then (bif Nat.ble 34 pc then (bif Nat.ble 37 pc then (bif Nat.beq pc 37 then some (.aload_n 0, 0) else none) else (bif Nat.beq pc 34 then some (.putfield 26, 1102) else none)) else (bif Nat.beq pc 31 then some (.invokespecial 25, 44) else none)) else (bif Nat.ble 30 pc then (bif Nat.beq pc 30 then some (.dup, 0) else none) else (bif Nat.beq pc 27 then some (.new 23, 5) else none))) else (bif Nat.ble 23 pc then (bif Nat.ble 26 pc then (bif Nat.beq pc 26 then some (.aload_n 0, 0) else none) else (bif Nat.beq pc 23 then some (.putfield 19, 1101) else none)) else (bif Nat.ble 20 pc then (bif Nat.beq pc 20 then some (.invokespecial 18, 25) else none) else (bif Nat.beq pc 19 then some (.dup, 0) else none)))) else (bif Nat.ble 8 pc then (bif Nat.ble 12 pc then (bif Nat.ble 15 pc then (bif Nat.ble 16 pc then (bif Nat.beq pc 16 then some (.new 16, 4) else none) else (bif Nat.beq pc 15 then some (.aload_n 0, 0) else none)) else (bif Nat.beq pc 12 then some (.putfield 10, 1100) else none)) else (bif Nat.ble 9 pc then (bif Nat.beq pc 9 then some (.invokespecial 9, 0) else none) else (bif Nat.beq pc 8 then some (.dup, 0) else none))) else (bif Nat.ble 4 pc then (bif Nat.ble 5 pc then (bif Nat.beq pc 5 then some (.new 7, 0) else none) else (bif Nat.beq pc 4 then some (.aload_n 0, 0) else none)) else (bif Nat.ble 1 pc then (bif Nat.beq pc 1 then some (.invokespecial 1, 1000) else none) else (bif Nat.beq pc 0 then some (.aload_n 0, 0) else none)))))))
def am_f74 (pc : Nat) : Option (Instr × Nat) := am_gd 24 pc (bif Nat.ble 15 pc then (bif Nat.ble 18 pc then (bif Nat.ble 22 pc then (bif Nat.ble 23 pc then (bif Nat.beq pc 23 then some (.ireturn, 0) else none) else (bif Nat.beq pc 22 then some (.iconst (1), 0) else none)) else (bif Nat.ble 19 pc then (bif Nat.beq pc 19 then some (.putfield 90, 1111) else none) else (bif Nat.beq pc 18 then some (.iload_n 1, 0) else none))) else (bif Nat.ble 16 pc then (bif Nat.ble 17 pc then (bif Nat.beq pc 17 then some (.aload_n 0, 0) else none) else (bif Nat.beq pc 16 then some (.ireturn, 0) else none)) else (bif Nat.beq pc 15 then some (.iconst (0), 0) else none))) else (bif Nat.ble 7 pc then (bif Nat.ble 9 pc then (bif Nat.ble 12 pc then (bif Nat.beq pc 12 then some (.if_icmp .ge (5), 17) else none) else (bif Nat.beq pc 9 then some (.getfield 90, 1111) else none)) else (bif Nat.ble 8 pc then (bif Nat.beq pc 8 then some (.aload_n 0, 0) else none) else (bif Nat.beq pc 7 then some (.iload_n 1, 0) else none))) else (bif Nat.ble 1 pc then (bif Nat.ble 4 pc then (bif Nat.beq pc 4 then some (.ifCond .eq (11), 15) else none) else (bif Nat.beq pc 1 then some (.invokestatic 94, 87) else none)) else (bif Nat.beq pc 0 then some (.iload_n 1, 0) else none))))
def am_f75 (pc : Nat) : Option (Instr × Nat) := am_gd 15 pc (bif Nat.ble 6 pc then (bif Nat.ble 9 pc then (bif Nat.ble 11 pc then (bif Nat.ble 14 pc then (bif Nat.beq pc 14 then some (.ireturn, 0) else none) else (bif Nat.beq pc 11 then some (.invokevirtual 116, 26) else none)) else (bif Nat.beq pc 9 then some (.iload 5, 0) else none)) else (bif Nat.ble 7 pc then (bif Nat.beq pc 7 then some (.iload 4, 0) else none) else (bif Nat.beq pc 6 then some (.iload_n 3, 0) else none))) else (bif Nat.ble 4 pc then (bif Nat.ble 5 pc then (bif Nat.beq pc 5 then some (.iload_n 2, 0) else none) else (bif Nat.beq pc 4 then some (.iload_n 1, 0) else none)) else (bif Nat.ble 1 pc then (bif Nat.beq pc 1 then some (.getfield 19, 1101) else none) else (bif Nat.beq pc 0 then some (.aload_n 0, 0) else none))))
def am_f76 (pc : Nat) : Option (Instr × Nat) := am_gd 62 pc (bif Nat.ble 29 pc then (bif Nat.ble 45 pc then (bif Nat.ble 53 pc then (bif Nat.ble 59 pc then (bif Nat.ble 61 pc then (bif Nat.beq pc 61 then some (.ireturn, 0) else none) else (bif Nat.beq pc 59 then some (.iload 4, 0) else none)) else (bif Nat.ble 56 pc then (bif Nat.beq pc 56 then some (.invokevirtual 134, 19) else none) else (bif Nat.beq pc 53 then some (.getfield 130, 401) else none))) else (bif Nat.ble 49 pc then (bif Nat.ble 50 pc then (bif Nat.beq pc 50 then some (.getfield 19, 1101) else none) else (bif Nat.beq pc 49 then some (.aload_n 0, 0) else none)) else (bif Nat.ble 46 pc then (bif Nat.beq pc 46 then some (.invokevirtual 126, 6) else none) else (bif Nat.beq pc 45 then some (.iload_n 2, 0) else none)))) else (bif Nat.ble 37 pc then (bif Nat.ble 41 pc then (bif Nat.ble 44 pc then (bif Nat.beq pc 44 then some (.iload_n 1, 0) else none) else (bif Nat.beq pc 41 then some (.getfield 35, 1103) else none)) else (bif Nat.ble 40 pc then (bif Nat.beq pc 40 then some (.aload_n 0, 0) else none) else (bif Nat.beq pc 37 then some (.ifCond .ne (22), 59) else none))) else (bif Nat.ble 33 pc then (bif Nat.ble 35 pc then (bif Nat.beq pc 35 then some (.iload 4, 0) else none) else (bif Nat.beq pc 33 then some (.istore 4, 0) else none)) else (bif Nat.ble 30 pc then (bif Nat.beq pc 30 then some (.invokevirtual 123, 28) else none) else (bif Nat.beq pc 29 then some (.iload_n 3, 0) else none))))) else (bif Nat.ble 13 pc then (bif Nat.ble 23 pc then (bif Nat.ble 25 pc then (bif Nat.ble 26 pc then (bif Nat.beq pc 26 then some (.getfield 19, 1101) else none) else (bif Nat.beq pc 25 then some (.aload_n 0, 0) else none)) else (bif Nat.ble 24 pc then (bif Nat.beq pc 24 then some (.ireturn, 0) else none) else (bif Nat.beq pc 23 then some (.iconst (-1), 0) else none))) else (bif Nat.ble 17 pc then (bif Nat.ble 20 pc then (bif Nat.beq pc 20 then some (.if_icmp .le (5), 25) else none) else (bif Nat.beq pc 17 then some (.getfield 120, 402) else none)) else (bif Nat.ble 14 pc then (bif Nat.beq pc 14 then some (.getfield 19, 1101) else none) else (bif Nat.beq pc 13 then some (.aload_n 0, 0) else none)))) else (bif Nat.ble 5 pc then (bif Nat.ble 9 pc then (bif Nat.ble 12 pc then (bif Nat.beq pc 12 then some (.iload_n 3, 0) else none) else (bif Nat.beq pc 9 then some (.ifCond .lt (14), 23) else none)) else (bif Nat.ble 8 pc then (bif Nat.beq pc 8 then some (.iload_n 3, 0) else none) else (bif Nat.beq pc 5 then some (.ifCond .eq (18), 23) else none))) else (bif Nat.ble 1 pc then (bif Nat.ble 2 pc then (bif Nat.beq pc 2 then some (.invokestatic 102, 86) else none) else (bif Nat.beq pc 1 then some (.iconst (2), 0) else none)) else (bif Nat.beq pc 0 then some (.iload_n 1, 0) else none)))))
def am_f77 (pc : Nat) : Option (Instr × Nat) := am_gd 23 pc (bif Nat.ble 10 pc then (bif Nat.ble 15 pc then (bif Nat.ble 19 pc then (bif Nat.ble 22 pc then (bif Nat.beq pc 22 then some (.ireturn, 0) else none) else (bif Nat.beq pc 19 then some (.getfield 140, 305) else none)) else (bif Nat.ble 16 pc then (bif Nat.beq pc 16 then some (.invokevirtual 126, 6) else none) else (bif Nat.beq pc 15 then some (.iload_n 2, 0) else none))) else (bif Nat.ble 11 pc then (bif Nat.ble 14 pc then (bif Nat.beq pc 14 then some (.iload_n 1, 0) else none) else (bif Nat.beq pc 11 then some (.getfield 35, 1103) else none)) else (bif Nat.beq pc 10 then some (.aload_n 0, 0) else none))) else (bif Nat.ble 5 pc then (bif Nat.ble 8 pc then (bif Nat.ble 9 pc then (bif Nat.beq pc 9 then some (.ireturn, 0) else none) else (bif Nat.beq pc 8 then some (.iconst (-1), 0) else none)) else (bif Nat.beq pc 5 then some (.ifCond .ne (5), 10) else none)) else (bif Nat.ble 1 pc then (bif Nat.ble 2 pc then (bif Nat.beq pc 2 then some (.invokestatic 102, 86) else none) else (bif Nat.beq pc 1 then some (.iconst (2), 0) else none)) else (bif Nat.beq pc 0 then some (.iload_n 1, 0) else none))))
def am_f78 (pc : Nat) : Option (Instr × Nat) := am_gd 9 pc (bif Nat.ble 4 pc then (bif Nat.ble 5 pc then (bif Nat.ble 8 pc then (bif Nat.beq pc 8 then some (.ireturn, 0) else none) else (bif Nat.beq pc 5 then some (.invokevirtual 143, 45) else none)) else (bif Nat.beq pc 4 then some (.iload_n 1, 0) else none)) else (bif Nat.ble 1 pc then (bif Nat.beq pc 1 then some (.getfield 26, 1102) else none) else (bif Nat.beq pc 0 then some (.aload_n 0, 0) else none)))
def am_f79 (pc : Nat) : Option (Instr × Nat) := am_gd 30 pc (bif Nat.ble 15 pc then (bif Nat.ble 20 pc then (bif Nat.ble 23 pc then (bif Nat.ble 26 pc then (bif Nat.ble 29 pc then (bif Nat.beq pc 29 then some (.ireturn, 0) else none) else (bif Nat.beq pc 26 then some (.invokevirtual 149, 46) else none)) else (bif Nat.beq pc 23 then some (.getfield 90, 1111) else none)) else (bif Nat.ble 22 pc then (bif Nat.beq pc 22 then some (.aload_n 0, 0) else none) else (bif Nat.beq pc 20 then some (.iload 5, 0) else none))) else (bif Nat.ble 17 pc then (bif Nat.ble 18 pc then (bif Nat.beq pc 18 then some (.iload 4, 0) else none) else (bif Nat.beq pc 17 then some (.iload_n 3, 0) else none)) else (bif Nat.ble 16 pc then (bif Nat.beq pc 16 then some (.iload_n 2, 0) else none) else (bif Nat.beq pc 15 then some (.iload_n 1, 0) else none)))) else (bif Nat.ble 9 pc then (bif Nat.ble 11 pc then (bif Nat.ble 12 pc then (bif Nat.beq pc 12 then some (.getfield 26, 1102) else none) else (bif Nat.beq pc 11 then some (.aload_n 0, 0) else none)) else (bif Nat.ble 10 pc then (bif Nat.beq pc 10 then some (.ireturn, 0) else none) else (bif Nat.beq pc 9 then some (.iconst (-1), 0) else none))) else (bif Nat.ble 3 pc then (bif Nat.ble 6 pc then (bif Nat.beq pc 6 then some (.ifCond .ne (5), 11) else none) else (bif Nat.beq pc 3 then some (.invokevirtual 146, 88) else none)) else (bif Nat.ble 1 pc then (bif Nat.beq pc 1 then some (.iload 4, 0) else none) else (bif Nat.beq pc 0 then some (.aload_n 0, 0) else none)))))
def am_f80 (pc : Nat) : Option (Instr × Nat) := am_gd 25 pc (bif Nat.ble 11 pc then (bif Nat.ble 17 pc then (bif Nat.ble 21 pc then (bif Nat.ble 24 pc then (bif Nat.beq pc 24 then some (.ireturn, 0) else none) else (bif Nat.beq pc 21 then some (.invokevirtual 156, 48) else none)) else (bif Nat.ble 18 pc then (bif Nat.beq pc 18 then some (.getfield 90, 1111) else none) else (bif Nat.beq pc 17 then some (.aload_n 0, 0) else none))) else (bif Nat.ble 15 pc then (bif Nat.ble 16 pc then (bif Nat.beq pc 16 then some (.iload_n 3, 0) else none) else (bif Nat.beq pc 15 then some (.iload_n 2, 0) else none)) else (bif Nat.ble 14 pc then (bif Nat.beq pc 14 then some (.iload_n 1, 0) else none) else (bif Nat.beq pc 11 then some (.getfield 26, 1102) else none)))) else (bif Nat.ble 5 pc then (bif Nat.ble 9 pc then (bif Nat.ble 10 pc then (bif Nat.beq pc 10 then some (.aload_n 0, 0) else none) else (bif Nat.beq pc 9 then some (.ireturn, 0) else none)) else (bif Nat.ble 8 pc then (bif Nat.beq pc 8 then some (.iconst (-1), 0) else none) else (bif Nat.beq pc 5 then some (.ifCond .ne (5), 10) else none))) else (bif Nat.ble 1 pc then (bif Nat.ble 2 pc then (bif Nat.beq pc 2 then some (.invokevirtual 146, 88) else none) else (bif Nat.beq pc 1 then some (.iload_n 3, 0) else none)) else (bif Nat.beq pc 0 then some (.aload_n 0, 0) else none))))
def am_f81 (pc : Nat) : Option (Instr × Nat) := am_gd 47 pc (bif Nat.ble 24 pc then (bif Nat.ble 39 pc then (bif Nat.ble 43 pc then (bif Nat.ble 45 pc then (bif Nat.ble 46 pc then (bif Nat.beq pc 46 then some (.ireturn, 0) else none) else (bif Nat.beq pc 45 then some (.iaload, 0) else none)) else (bif Nat.ble 44 pc then (bif Nat.beq pc 44 then some (.iadd, 0) else none) else (bif Nat.beq pc 43 then some (.iload_n 3, 0) else none))) else (bif Nat.ble 40 pc then (bif Nat.ble 42 pc then (bif Nat.beq pc 42 then some (.imul, 0) else none) else (bif Nat.beq pc 40 then some (.bipush (8), 0) else none)) else (bif Nat.beq pc 39 then some (.iload_n 2, 0) else none))) else (bif Nat.ble 29 pc then (bif Nat.ble 33 pc then (bif Nat.ble 36 pc then (bif Nat.beq pc 36 then some (.getfield 168, 700) else none) else (bif Nat.beq pc 33 then some (.getfield 51, 1105) else none)) else (bif Nat.ble 32 pc then (bif Nat.beq pc 32 then some (.aload_n 0, 0) else none) else (bif Nat.beq pc 29 then some (.invokevirtual 164, 8) else none))) else (bif Nat.ble 25 pc then (bif Nat.ble 27 pc then (bif Nat.beq pc 27 then some (.iload 5, 0) else none) else (bif Nat.beq pc 25 then some (.iload 4, 0) else none)) else (bif Nat.beq pc 24 then some (.iload_n 1, 0) else none)))) else (bif Nat.ble 11 pc then (bif Nat.ble 16 pc then (bif Nat.ble 20 pc then (bif Nat.ble 21 pc then (bif Nat.beq pc 21 then some (.getfield 51, 1105) else none) else (bif Nat.beq pc 20 then some (.aload_n 0, 0) else none)) else (bif Nat.ble 17 pc then (bif Nat.beq pc 17 then some (.getfield 35, 1103) else none) else (bif Nat.beq pc 16 then some (.aload_n 0, 0) else none))) else (bif Nat.ble 14 pc then (bif Nat.ble 15 pc then (bif Nat.beq pc 15 then some (.ireturn, 0) else none) else (bif Nat.beq pc 14 then some (.iconst (-1), 0) else none)) else (bif Nat.beq pc 11 then some (.ifCond .ne (5), 16) else none))) else (bif Nat.ble 3 pc then (bif Nat.ble 6 pc then (bif Nat.ble 8 pc then (bif Nat.beq pc 8 then some (.invokevirtual 160, 89) else none) else (bif Nat.beq pc 6 then some (.iload 5, 0) else none)) else (bif Nat.ble 4 pc then (bif Nat.beq pc 4 then some (.iload 4, 0) else none) else (bif Nat.beq pc 3 then some (.iload_n 3, 0) else none))) else (bif Nat.ble 1 pc then (bif Nat.ble 2 pc then (bif Nat.beq pc 2 then some (.iload_n 2, 0) else none) else (bif Nat.beq pc 1 then some (.iload_n 1, 0) else none)) else (bif Nat.beq pc 0 then some (.aload_n 0, 0) else none)))))
def am_f82 (pc : Nat) : Option (Instr × Nat) := am_gd 44 pc (bif Nat.ble 21 pc then (bif Nat.ble 32 pc then (bif Nat.ble 39 pc then (bif Nat.ble 40 pc then (bif Nat.ble 43 pc then (bif Nat.beq pc 43 then some (.ireturn, 0) else none) else (bif Nat.beq pc 40 then some (.invokevirtual 191, 67) else none)) else (bif Nat.beq pc 39 then some (.iload_n 3, 0) else none)) else (bif Nat.ble 35 pc then (bif Nat.ble 36 pc then (bif Nat.beq pc 36 then some (.getfield 44, 1104) else none) else (bif Nat.beq pc 35 then some (.aload_n 0, 0) else none)) else (bif Nat.beq pc 32 then some (.invokevirtual 187, 64) else none))) else (bif Nat.ble 26 pc then (bif Nat.ble 28 pc then (bif Nat.ble 29 pc then (bif Nat.beq pc 29 then some (.getfield 90, 1111) else none) else (bif Nat.beq pc 28 then some (.aload_n 0, 0) else none)) else (bif Nat.beq pc 26 then some (.iload 4, 0) else none)) else (bif Nat.ble 24 pc then (bif Nat.ble 25 pc then (bif Nat.beq pc 25 then some (.iload_n 2, 0) else none) else (bif Nat.beq pc 24 then some (.iload_n 1, 0) else none)) else (bif Nat.beq pc 21 then some (.getfield 44, 1104) else none)))) else (bif Nat.ble 10 pc then (bif Nat.ble 18 pc then (bif Nat.ble 19 pc then (bif Nat.ble 20 pc then (bif Nat.beq pc 20 then some (.aload_n 0, 0) else none) else (bif Nat.beq pc 19 then some (.ireturn, 0) else none)) else (bif Nat.beq pc 18 then some (.iconst (-1), 0) else none)) else (bif Nat.ble 12 pc then (bif Nat.ble 15 pc then (bif Nat.beq pc 15 then some (.ifCond .ne (5), 20) else none) else (bif Nat.beq pc 12 then some (.invokestatic 94, 87) else none)) else (bif Nat.beq pc 10 then some (.iload 4, 0) else none))) else (bif Nat.ble 3 pc then (bif Nat.ble 4 pc then (bif Nat.ble 7 pc then (bif Nat.beq pc 7 then some (.ifCond .eq (11), 18) else none) else (bif Nat.beq pc 4 then some (.invokevirtual 184, 90) else none)) else (bif Nat.beq pc 3 then some (.iload_n 3, 0) else none)) else (bif Nat.ble 1 pc then (bif Nat.ble 2 pc then (bif Nat.beq pc 2 then some (.iload_n 2, 0) else none) else (bif Nat.beq pc 1 then some (.iload_n 1, 0) else none)) else (bif Nat.beq pc 0 then some (.aload_n 0, 0) else none)))))
def am_f83 (pc : Nat) : Option (Instr × Nat) := am_gd 39 pc (bif Nat.ble 17 pc then (bif Nat.ble 29 pc then (bif Nat.ble 36 pc then (bif Nat.ble 37 pc then (bif Nat.ble 38 pc then (bif Nat.beq pc 38 then some (.ireturn, 0) else none) else (bif Nat.beq pc 37 then some (.iaload, 0) else none)) else (bif Nat.beq pc 36 then some (.iload_n 3, 0) else none)) else (bif Nat.ble 30 pc then (bif Nat.ble 33 pc then (bif Nat.beq pc 33 then some (.getfield 194, 804) else none) else (bif Nat.beq pc 30 then some (.getfield 44, 1104) else none)) else (bif Nat.beq pc 29 then some (.aload_n 0, 0) else none))) else (bif Nat.ble 22 pc then (bif Nat.ble 23 pc then (bif Nat.ble 26 pc then (bif Nat.beq pc 26 then some (.invokevirtual 187, 64) else none) else (bif Nat.beq pc 23 then some (.getfield 90, 1111) else none)) else (bif Nat.beq pc 22 then some (.aload_n 0, 0) else none)) else (bif Nat.ble 18 pc then (bif Nat.ble 19 pc then (bif Nat.beq pc 19 then some (.getfield 90, 1111) else none) else (bif Nat.beq pc 18 then some (.aload_n 0, 0) else none)) else (bif Nat.beq pc 17 then some (.iload_n 2, 0) else none)))) else (bif Nat.ble 7 pc then (bif Nat.ble 12 pc then (bif Nat.ble 13 pc then (bif Nat.ble 16 pc then (bif Nat.beq pc 16 then some (.iload_n 1, 0) else none) else (bif Nat.beq pc 13 then some (.getfield 44, 1104) else none)) else (bif Nat.beq pc 12 then some (.aload_n 0, 0) else none)) else (bif Nat.ble 10 pc then (bif Nat.ble 11 pc then (bif Nat.beq pc 11 then some (.ireturn, 0) else none) else (bif Nat.beq pc 10 then some (.iconst (-1), 0) else none)) else (bif Nat.beq pc 7 then some (.ifCond .ne (5), 12) else none))) else (bif Nat.ble 2 pc then (bif Nat.ble 3 pc then (bif Nat.ble 4 pc then (bif Nat.beq pc 4 then some (.invokevirtual 184, 90) else none) else (bif Nat.beq pc 3 then some (.iload_n 3, 0) else none)) else (bif Nat.beq pc 2 then some (.iload_n 2, 0) else none)) else (bif Nat.ble 1 pc then (bif Nat.beq pc 1 then some (.iload_n 1, 0) else none) else (bif Nat.beq pc 0 then some (.aload_n 0, 0) else none)))))
def am_f84 (pc : Nat) : Option (Instr × Nat) := am_gd 72 pc (bif Nat.ble 33 pc then (bif Nat.ble 52 pc then (bif Nat.ble 64 pc then (bif Nat.ble 67 pc then (bif Nat.ble 70 pc then (bif Nat.ble 71 pc then (bif Nat.beq pc 71 then some (.ireturn, 0) else none) else (bif Nat.beq pc 70 then some (.iconst (-1), 0) else none)) else (bif Nat.beq pc 67 then some (.goto (4), 71) else none)) else (bif Nat.ble 66 pc then (bif Nat.beq pc 66 then some (.iaload, 0) else none) else (bif Nat.beq pc 64 then some (.iload 4, 0) else none))) else (bif Nat.ble 57 pc then (bif Nat.ble 58 pc then (bif Nat.ble 61 pc then (bif Nat.beq pc 61 then some (.getfield 201, 805) else none) else (bif Nat.beq pc 58 then some (.getfield 44, 1104) else none)) else (bif Nat.beq pc 57 then some (.aload_n 0, 0) else none)) else (bif Nat.ble 54 pc then (bif Nat.beq pc 54 then some (.if_icmp .ge (16), 70) else none) else (bif Nat.beq pc 52 then some (.iload 5, 0) else none)))) else (bif Nat.ble 43 pc then (bif Nat.ble 45 pc then (bif Nat.ble 48 pc then (bif Nat.ble 50 pc then (bif Nat.beq pc 50 then some (.iload 4, 0) else none) else (bif Nat.beq pc 48 then some (.istore 5, 0) else none)) else (bif Nat.beq pc 45 then some (.invokevirtual 197, 68) else none)) else (bif Nat.ble 44 pc then (bif Nat.beq pc 44 then some (.iload_n 3, 0) else none) else (bif Nat.beq pc 43 then some (.iload_n 1, 0) else none))) else (bif Nat.ble 39 pc then (bif Nat.ble 40 pc then (bif Nat.beq pc 40 then some (.getfield 44, 1104) else none) else (bif Nat.beq pc 39 then some (.aload_n 0, 0) else none)) else (bif Nat.ble 36 pc then (bif Nat.beq pc 36 then some (.invokevirtual 187, 64) else none) else (bif Nat.beq pc 33 then some (.getfield 90, 1111) else none))))) else (bif Nat.ble 17 pc then (bif Nat.ble 26 pc then (bif Nat.ble 28 pc then (bif Nat.ble 29 pc then (bif Nat.ble 32 pc then (bif Nat.beq pc 32 then some (.aload_n 0, 0) else none) else (bif Nat.beq pc 29 then some (.getfield 90, 1111) else none)) else (bif Nat.beq pc 28 then some (.aload_n 0, 0) else none)) else (bif Nat.ble 27 pc then (bif Nat.beq pc 27 then some (.iload_n 2, 0) else none) else (bif Nat.beq pc 26 then some (.iload_n 1, 0) else none))) else (bif Nat.ble 21 pc then (bif Nat.ble 22 pc then (bif Nat.ble 23 pc then (bif Nat.beq pc 23 then some (.getfield 44, 1104) else none) else (bif Nat.beq pc 22 then some (.aload_n 0, 0) else none)) else (bif Nat.beq pc 21 then some (.ireturn, 0) else none)) else (bif Nat.ble 20 pc then (bif Nat.beq pc 20 then some (.iconst (-1), 0) else none) else (bif Nat.beq pc 17 then some (.ifCond .ne (5), 22) else none)))) else (bif Nat.ble 4 pc then (bif Nat.ble 10 pc then (bif Nat.ble 12 pc then (bif Nat.ble 14 pc then (bif Nat.beq pc 14 then some (.invokestatic 102, 86) else none) else (bif Nat.beq pc 12 then some (.bipush (20), 0) else none)) else (bif Nat.beq pc 10 then some (.iload 4, 0) else none)) else (bif Nat.ble 7 pc then (bif Nat.beq pc 7 then some (.ifCond .eq (13), 20) else none) else (bif Nat.beq pc 4 then some (.invokevirtual 184, 90) else none))) else (bif Nat.ble 2 pc then (bif Nat.ble 3 pc then (bif Nat.beq pc 3 then some (.iload_n 3, 0) else none) else (bif Nat.beq pc 2 then some (.iload_n 2, 0) else none)) else (bif Nat.ble 1 pc then (bif Nat.beq pc 1 then some (.iload_n 1, 0) else none) else (bif Nat.beq pc 0 then some (.aload_n 0, 0) else none))))))
def am_f85 (pc : Nat) : Option (Instr × Nat) := am_gd 43 pc (bif Nat.ble 18 pc then (bif Nat.ble 30 pc then (bif Nat.ble 35 pc then (bif Nat.ble 39 pc then (bif Nat.ble 42 pc then (bif Nat.beq pc 42 then some (.ireturn, 0) else none) else (bif Nat.beq pc 39 then some (.invokevirtual 204, 70) else none)) else (bif Nat.ble 36 pc then (bif Nat.beq pc 36 then some (.getfield 90, 1111) else none) else (bif Nat.beq pc 35 then some (.aload_n 0, 0) else none))) else (bif Nat.ble 33 pc then (bif Nat.ble 34 pc then (bif Nat.beq pc 34 then some (.iload_n 3, 0) else none) else (bif Nat.beq pc 33 then some (.iload_n 2, 0) else none)) else (bif Nat.beq pc 30 then some (.getfield 44, 1104) else none))) else (bif Nat.ble 23 pc then (bif Nat.ble 26 pc then (bif Nat.ble 29 pc then (bif Nat.beq pc 29 then some (.aload_n 0, 0) else none) else (bif Nat.beq pc 26 then some (.invokevirtual 187, 64) else none)) else (bif Nat.beq pc 23 then some (.getfield 90, 1111) else none)) else (bif Nat.ble 19 pc then (bif Nat.ble 22 pc then (bif Nat.beq pc 22 then some (.aload_n 0, 0) else none) else (bif Nat.beq pc 19 then some (.getfield 90, 1111) else none)) else (bif Nat.beq pc 18 then some (.aload_n 0, 0) else none)))) else (bif Nat.ble 10 pc then (bif Nat.ble 13 pc then (bif Nat.ble 16 pc then (bif Nat.ble 17 pc then (bif Nat.beq pc 17 then some (.iload_n 2, 0) else none) else (bif Nat.beq pc 16 then some (.iload_n 1, 0) else none)) else (bif Nat.beq pc 13 then some (.getfield 44, 1104) else none)) else (bif Nat.ble 11 pc then (bif Nat.ble 12 pc then (bif Nat.beq pc 12 then some (.aload_n 0, 0) else none) else (bif Nat.beq pc 11 then some (.ireturn, 0) else none)) else (bif Nat.beq pc 10 then some (.iconst (-1), 0) else none))) else (bif Nat.ble 3 pc then (bif Nat.ble 4 pc then (bif Nat.ble 7 pc then (bif Nat.beq pc 7 then some (.ifCond .ne (5), 12) else none) else (bif Nat.beq pc 4 then some (.invokevirtual 184, 90) else none)) else (bif Nat.beq pc 3 then some (.iload_n 3, 0) else none)) else (bif Nat.ble 1 pc then (bif Nat.ble 2 pc then (bif Nat.beq pc 2 then some (.iload_n 2, 0) else none) else (bif Nat.beq pc 1 then some (.iload_n 1, 0) else none)) else (bif Nat.beq pc 0 then some (.aload_n 0, 0) else none)))))
def am_f86 (pc : Nat) : Option (Instr × Nat) := am_gd 15 pc (bif Nat.ble 6 pc then (bif Nat.ble 10 pc then (bif Nat.ble 13 pc then (bif Nat.ble 14 pc then (bif Nat.beq pc 14 then some (.ireturn, 0) else none) else (bif Nat.beq pc 13 then some (.iconst (0), 0) else none)) else (bif Nat.beq pc 10 then some (.goto (4), 14) else none)) else (bif Nat.ble 9 pc then (bif Nat.beq pc 9 then some (.iconst (1), 0) else none) else (bif Nat.beq pc 6 then some (.if_icmp .ge (7), 13) else none))) else (bif Nat.ble 4 pc then (bif Nat.ble 5 pc then (bif Nat.beq pc 5 then some (.iload_n 1, 0) else none) else (bif Nat.beq pc 4 then some (.iload_n 0, 0) else none)) else (bif Nat.ble 1 pc then (bif Nat.beq pc 1 then some (.ifCond .lt (12), 13) else none) else (bif Nat.beq pc 0 then some (.iload_n 0, 0) else none))))
def am_f87 (pc : Nat) : Option (Instr × Nat) := am_gd 8 pc (bif Nat.ble 4 pc then (bif Nat.ble 7 pc then (bif Nat.beq pc 7 then some (.ireturn, 0) else none) else (bif Nat.beq pc 4 then some (.invokestatic 102, 86) else none)) else (bif Nat.ble 1 pc then (bif Nat.beq pc 1 then some (.ldc_w 331, 1440000) else none) else (bif Nat.beq pc 0 then some (.iload_n 0, 0) else none)))
def am_f88 (pc : Nat) : Option (Instr × Nat) := am_gd 21 pc (bif Nat.ble 9 pc then (bif Nat.ble 16 pc then (bif Nat.ble 19 pc then (bif Nat.ble 20 pc then (bif Nat.beq pc 20 then some (.ireturn, 0) else none) else (bif Nat.beq pc 19 then some (.iconst (0), 0) else none)) else (bif Nat.beq pc 16 then some (.goto (4), 20) else none)) else (bif Nat.ble 12 pc then (bif Nat.ble 15 pc then (bif Nat.beq pc 15 then some (.iconst (1), 0) else none) else (bif Nat.beq pc 12 then some (.if_icmp .gt (7), 19) else none)) else (bif Nat.beq pc 9 then some (.getfield 90, 1111) else none))) else (bif Nat.ble 4 pc then (bif Nat.ble 7 pc then (bif Nat.ble 8 pc then (bif Nat.beq pc 8 then some (.aload_n 0, 0) else none) else (bif Nat.beq pc 7 then some (.iload_n 1, 0) else none)) else (bif Nat.beq pc 4 then some (.ifCond .eq (15), 19) else none)) else (bif Nat.ble 1 pc then (bif Nat.beq pc 1 then some (.invokestatic 94, 87) else none) else (bif Nat.beq pc 0 then some (.iload_n 1, 0) else none))))
def am_f89 (pc : Nat) : Option (Instr × Nat) := am_gd 53 pc (bif Nat.ble 25 pc then (bif Nat.ble 41 pc then (bif Nat.ble 48 pc then (bif Nat.ble 51 pc then (bif Nat.ble 52 pc then (bif Nat.beq pc 52 then some (.ireturn, 0) else none) else (bif Nat.beq pc 51 then some (.iconst (0), 0) else none)) else (bif Nat.beq pc 48 then some (.goto (4), 52) else none)) else (bif Nat.ble 44 pc then (bif Nat.ble 47 pc then (bif Nat.beq pc 47 then some (.iconst (1), 0) else none) else (bif Nat.beq pc 44 then some (.ifCond .eq (7), 51) else none)) else (bif Nat.beq pc 41 then some (.invokestatic 94, 87) else none))) else (bif Nat.ble 33 pc then (bif Nat.ble 36 pc then (bif Nat.ble 39 pc then (bif Nat.beq pc 39 then some (.iload 5, 0) else none) else (bif Nat.beq pc 36 then some (.ifCond .eq (15), 51) else none)) else (bif Nat.beq pc 33 then some (.invokestatic 94, 87) else none)) else (bif Nat.ble 28 pc then (bif Nat.ble 31 pc then (bif Nat.beq pc 31 then some (.iload 4, 0) else none) else (bif Nat.beq pc 28 then some (.ifCond .eq (23), 51) else none)) else (bif Nat.beq pc 25 then some (.invokestatic 102, 86) else none)))) else (bif Nat.ble 10 pc then (bif Nat.ble 19 pc then (bif Nat.ble 22 pc then (bif Nat.ble 23 pc then (bif Nat.beq pc 23 then some (.bipush (8), 0) else none) else (bif Nat.beq pc 22 then some (.iload_n 3, 0) else none)) else (bif Nat.beq pc 19 then some (.ifCond .eq (32), 51) else none)) else (bif Nat.ble 13 pc then (bif Nat.ble 16 pc then (bif Nat.beq pc 16 then some (.invokestatic 102, 86) else none) else (bif Nat.beq pc 13 then some (.getfield 281, 514) else none)) else (bif Nat.beq pc 10 then some (.getfield 26, 1102) else none))) else (bif Nat.ble 5 pc then (bif Nat.ble 8 pc then (bif Nat.ble 9 pc then (bif Nat.beq pc 9 then some (.aload_n 0, 0) else none) else (bif Nat.beq pc 8 then some (.iload_n 2, 0) else none)) else (bif Nat.beq pc 5 then some (.ifCond .eq (46), 51) else none)) else (bif Nat.ble 1 pc then (bif Nat.ble 2 pc then (bif Nat.beq pc 2 then some (.invokestatic 102, 86) else none) else (bif Nat.beq pc 1 then some (.iconst (2), 0) else none)) else (bif Nat.beq pc 0 then some (.iload_n 1, 0) else none)))))
def am_f90 (pc : Nat) : Option (Instr × Nat) := am_gd 42 pc (bif Nat.ble 22 pc then (bif Nat.ble 33 pc then (bif Nat.ble 37 pc then (bif Nat.ble 40 pc then (bif Nat.ble 41 pc then (bif Nat.beq pc 41 then some (.ireturn, 0) else none) else (bif Nat.beq pc 40 then some (.iconst (0), 0) else none)) else (bif Nat.beq pc 37 then some (.goto (4), 41) else none)) else (bif Nat.ble 36 pc then (bif Nat.beq pc 36 then some (.iconst (1), 0) else none) else (bif Nat.beq pc 33 then some (.ifCond .eq (7), 40) else none))) else (bif Nat.ble 24 pc then (bif Nat.ble 27 pc then (bif Nat.ble 30 pc then (bif Nat.beq pc 30 then some (.invokestatic 102, 86) else none) else (bif Nat.beq pc 27 then some (.getfield 281, 514) else none)) else (bif Nat.beq pc 24 then some (.getfield 26, 1102) else none)) else (bif Nat.ble 23 pc then (bif Nat.beq pc 23 then some (.aload_n 0, 0) else none) else (bif Nat.beq pc 22 then some (.iload_n 3, 0) else none)))) else (bif Nat.ble 11 pc then (bif Nat.ble 15 pc then (bif Nat.ble 16 pc then (bif Nat.ble 19 pc then (bif Nat.beq pc 19 then some (.ifCond .eq (21), 40) else none) else (bif Nat.beq pc 16 then some (.invokestatic 102, 86) else none)) else (bif Nat.beq pc 15 then some (.iconst (2), 0) else none)) else (bif Nat.ble 14 pc then (bif Nat.beq pc 14 then some (.iload_n 2, 0) else none) else (bif Nat.beq pc 11 then some (.ifCond .eq (29), 40) else none))) else (bif Nat.ble 2 pc then (bif Nat.ble 5 pc then (bif Nat.ble 8 pc then (bif Nat.beq pc 8 then some (.invokestatic 102, 86) else none) else (bif Nat.beq pc 5 then some (.getfield 316, 516) else none)) else (bif Nat.beq pc 2 then some (.getfield 26, 1102) else none)) else (bif Nat.ble 1 pc then (bif Nat.beq pc 1 then some (.aload_n 0, 0) else none) else (bif Nat.beq pc 0 then some (.iload_n 1, 0) else none)))))
def am_f91 (pc : Nat) : Option (Instr × Nat) := am_gd 14 pc (bif Nat.ble 7 pc then (bif Nat.ble 9 pc then (bif Nat.ble 12 pc then (bif Nat.ble 13 pc then (bif Nat.beq pc 13 then some (.ireturn, 0) else none) else (bif Nat.beq pc 12 then some (.iconst (0), 0) else none)) else (bif Nat.beq pc 9 then some (.goto (4), 13) else none)) else (bif Nat.ble 8 pc then (bif Nat.beq pc 8 then some (.iaload, 0) else none) else (bif Nat.beq pc 7 then some (.iload_n 1, 0) else none))) else (bif Nat.ble 2 pc then (bif Nat.ble 3 pc then (bif Nat.ble 6 pc then (bif Nat.beq pc 6 then some (.aload_n 0, 0) else none) else (bif Nat.beq pc 3 then some (.if_icmp .ge (9), 12) else none)) else (bif Nat.beq pc 2 then some (.arraylength, 0) else none)) else (bif Nat.ble 1 pc then (bif Nat.beq pc 1 then some (.aload_n 0, 0) else none) else (bif Nat.beq pc 0 then some (.iload_n 1, 0) else none))))
def am_f92 (pc : Nat) : Option (Instr × Nat) := am_gd 7 pc (bif Nat.ble 4 pc then (bif Nat.ble 5 pc then (bif Nat.ble 6 pc then (bif Nat.beq pc 6 then some (.ireturn, 0) else none) else (bif Nat.beq pc 5 then some (.irem, 0) else none)) else (bif Nat.beq pc 4 then some (.iload_n 1, 0) else none)) else (bif Nat.ble 1 pc then (bif Nat.ble 3 pc then (bif Nat.beq pc 3 then some (.iand, 0) else none) else (bif Nat.beq pc 1 then some (.ldc 7, 65535) else none)) else (bif Nat.beq pc 0 then some (.iload_n 0, 0) else none)))
def am_f93 (pc : Nat) : Option (Instr × Nat) := am_gd 120 pc (bif Nat.ble 60 pc then (bif Nat.ble 89 pc then (bif Nat.ble 103 pc then (bif Nat.ble 111 pc then (bif Nat.ble 113 pc then (bif Nat.ble 116 pc then (bif Nat.ble 119 pc then (bif Nat.beq pc 119 then some (.ireturn, 0) else none) else (bif Nat.beq pc 116 then some (.invokevirtual 24, 76) else none)) else (bif Nat.beq pc 113 then some (.invokevirtual 8, 1005) else none)) else (bif Nat.ble 112 pc then (bif Nat.beq pc 112 then some (.aload_n 3, 0) else none) else (bif Nat.beq pc 111 then some (.iload_n 2, 0) else none))) else (bif Nat.ble 109 pc then (bif Nat.ble 110 pc then (bif Nat.beq pc 110 then some (.iload_n 1, 0) else none) else (bif Nat.beq pc 109 then some (.aload_n 0, 0) else none)) else (bif Nat.ble 106 pc then (bif Nat.beq pc 106 then some (.goto (-103), 3) else none) else (bif Nat.beq pc 103 then some (.iinc 4 (20), 0) else none)))) else (bif Nat.ble 94 pc then (bif Nat.ble 97 pc then (bif Nat.ble 98 pc then (bif Nat.ble 101 pc then (bif Nat.beq pc 101 then some (.istore 6, 0) else none) else (bif Nat.beq pc 98 then some (.invokevirtual 18, 75) else none)) else (bif Nat.beq pc 97 then some (.iaload, 0) else none)) else (bif Nat.ble 96 pc then (bif Nat.beq pc 96 then some (.iconst (4), 0) else none) else (bif Nat.beq pc 94 then some (.aload 5, 0) else none))) else (bif Nat.ble 92 pc then (bif Nat.ble 93 pc then (bif Nat.beq pc 93 then some (.iaload, 0) else none) else (bif Nat.beq pc 92 then some (.iconst (3), 0) else none)) else (bif Nat.ble 90 pc then (bif Nat.beq pc 90 then some (.aload 5, 0) else none) else (bif Nat.beq pc 89 then some (.iaload, 0) else none))))) else (bif Nat.ble 77 pc then (bif Nat.ble 82 pc then (bif Nat.ble 85 pc then (bif Nat.ble 86 pc then (bif Nat.ble 88 pc then (bif Nat.beq pc 88 then some (.iconst (2), 0) else none) else (bif Nat.beq pc 86 then some (.aload 5, 0) else none)) else (bif Nat.beq pc 85 then some (.iaload, 0) else none)) else (bif Nat.ble 84 pc then (bif Nat.beq pc 84 then some (.iconst (1), 0) else none) else (bif Nat.beq pc 82 then some (.aload 5, 0) else none))) else (bif Nat.ble 80 pc then (bif Nat.ble 81 pc then (bif Nat.beq pc 81 then some (.iaload, 0) else none) else (bif Nat.beq pc 80 then some (.iconst (0), 0) else none)) else (bif Nat.ble 78 pc then (bif Nat.beq pc 78 then some (.aload 5, 0) else none) else (bif Nat.beq pc 77 then some (.aload_n 0, 0) else none)))) else (bif Nat.ble 69 pc then (bif Nat.ble 71 pc then (bif Nat.ble 74 pc then (bif Nat.beq pc 74 then some (.goto (-54), 20) else none) else (bif Nat.beq pc 71 then some (.iinc 6 (1), 0) else none)) else (bif Nat.ble 70 pc then (bif Nat.beq pc 70 then some (.iastore, 0) else none) else (bif Nat.beq pc 69 then some (.ior, 0) else none))) else (bif Nat.ble 64 pc then (bif Nat.ble 67 pc then (bif Nat.beq pc 67 then some (.bipush (97), 0) else none) else (bif Nat.beq pc 64 then some (.goto (5), 69) else none)) else (bif Nat.ble 61 pc then (bif Nat.beq pc 61 then some (.invokevirtual 14, 1006) else none) else (bif Nat.beq pc 60 then some (.iadd, 0) else none)))))) else (bif Nat.ble 32 pc then (bif Nat.ble 43 pc then (bif Nat.ble 49 pc then (bif Nat.ble 55 pc then (bif Nat.ble 56 pc then (bif Nat.ble 58 pc then (bif Nat.beq pc 58 then some (.iload 6, 0) else none) else (bif Nat.beq pc 56 then some (.iload 4, 0) else none)) else (bif Nat.beq pc 55 then some (.aload_n 3, 0) else none)) else (bif Nat.ble 52 pc then (bif Nat.beq pc 52 then some (.if_icmp .ge (15), 67) else none) else (bif Nat.beq pc 49 then some (.invokevirtual 8, 1005) else none))) else (bif Nat.ble 47 pc then (bif Nat.ble 48 pc then (bif Nat.beq pc 48 then some (.aload_n 3, 0) else none) else (bif Nat.beq pc 47 then some (.iadd, 0) else none)) else (bif Nat.ble 45 pc then (bif Nat.beq pc 45 then some (.iload 6, 0) else none) else (bif Nat.beq pc 43 then some (.iload 4, 0) else none)))) else (bif Nat.ble 38 pc then (bif Nat.ble 40 pc then (bif Nat.ble 42 pc then (bif Nat.beq pc 42 then some (.ishl, 0) else none) else (bif Nat.beq pc 40 then some (.bipush (8), 0) else none)) else (bif Nat.ble 39 pc then (bif Nat.beq pc 39 then some (.iaload, 0) else none) else (bif Nat.beq pc 38 then some (.idiv, 0) else none))) else (bif Nat.ble 35 pc then (bif Nat.ble 37 pc then (bif Nat.beq pc 37 then some (.iconst (4), 0) else none) else (bif Nat.beq pc 35 then some (.iload 6, 0) else none)) else (bif Nat.ble 33 pc then (bif Nat.beq pc 33 then some (.aload 5, 0) else none) else (bif Nat.beq pc 32 then some (.idiv, 0) else none))))) else (bif Nat.ble 15 pc then (bif Nat.ble 22 pc then (bif Nat.ble 27 pc then (bif Nat.ble 29 pc then (bif Nat.ble 31 pc then (bif Nat.beq pc 31 then some (.iconst (4), 0) else none) else (bif Nat.beq pc 29 then some (.iload 6, 0) else none)) else (bif Nat.beq pc 27 then some (.aload 5, 0) else none)) else (bif Nat.ble 24 pc then (bif Nat.beq pc 24 then some (.if_icmp .ge (53), 77) else none) else (bif Nat.beq pc 22 then some (.bipush (20), 0) else none))) else (bif Nat.ble 18 pc then (bif Nat.ble 20 pc then (bif Nat.beq pc 20 then some (.iload 6, 0) else none) else (bif Nat.beq pc 18 then some (.istore 6, 0) else none)) else (bif Nat.ble 17 pc then (bif Nat.beq pc 17 then some (.iconst (0), 0) else none) else (bif Nat.beq pc 15 then some (.astore 5, 0) else none)))) else (bif Nat.ble 6 pc then (bif Nat.ble 12 pc then (bif Nat.ble 13 pc then (bif Nat.beq pc 13 then some (.newarray .int, 0) else none) else (bif Nat.beq pc 12 then some (.iconst (5), 0) else none)) else (bif Nat.ble 9 pc then (bif Nat.beq pc 9 then some (.if_icmp .ge (100), 109) else none) else (bif Nat.beq pc 6 then some (.invokevirtual 8, 1005) else none))) else (bif Nat.ble 3 pc then (bif Nat.ble 5 pc then (bif Nat.beq pc 5 then some (.aload_n 3, 0) else none) else (bif Nat.beq pc 3 then some (.iload 4, 0) else none)) else (bif Nat.ble 1 pc then (bif Nat.beq pc 1 then some (.istore 4, 0) else none) else (bif Nat.beq pc 0 then some (.iconst (0), 0) else none)))))))
def am_f94 (pc : Nat) : Option (Instr × Nat) := am_gd 76 pc (bif Nat.ble 40 pc then (bif Nat.ble 58 pc then (bif Nat.ble 68 pc then (bif Nat.ble 71 pc then (bif Nat.ble 74 pc then (bif Nat.ble 75 pc then (bif Nat.beq pc 75 then some (.return_, 0) else none) else (bif Nat.beq pc 74 then some (.iastore, 0) else none)) else (bif Nat.ble 73 pc then (bif Nat.beq pc 73 then some (.ior, 0) else none) else (bif Nat.beq pc 71 then some (.iload 6, 0) else none))) else (bif Nat.ble 69 pc then (bif Nat.ble 70 pc then (bif Nat.beq pc 70 then some (.iaload, 0) else none) else (bif Nat.beq pc 69 then some (.dup2, 0) else none)) else (bif Nat.beq pc 68 then some (.iload_n 1, 0) else none))) else (bif Nat.ble 62 pc then (bif Nat.ble 64 pc then (bif Nat.ble 67 pc then (bif Nat.beq pc 67 then some (.aload_n 3, 0) else none) else (bif Nat.beq pc 64 then some (.if_icmp .ne (11), 75) else none)) else (bif Nat.ble 63 pc then (bif Nat.beq pc 63 then some (.iconst (1), 0) else none) else (bif Nat.beq pc 62 then some (.iand, 0) else none))) else (bif Nat.ble 59 pc then (bif Nat.ble 61 pc then (bif Nat.beq pc 61 then some (.iconst (1), 0) else none) else (bif Nat.beq pc 59 then some (.iload 5, 0) else none)) else (bif Nat.beq pc 58 then some (.iastore, 0) else none)))) else (bif Nat.ble 48 pc then (bif Nat.ble 53 pc then (bif Nat.ble 55 pc then (bif Nat.ble 57 pc then (bif Nat.beq pc 57 then some (.ior, 0) else none) else (bif Nat.beq pc 55 then some (.iload 6, 0) else none)) else (bif Nat.ble 54 pc then (bif Nat.beq pc 54 then some (.iaload, 0) else none) else (bif Nat.beq pc 53 then some (.dup2, 0) else none))) else (bif Nat.ble 51 pc then (bif Nat.ble 52 pc then (bif Nat.beq pc 52 then some (.iload_n 2, 0) else none) else (bif Nat.beq pc 51 then some (.aload_n 3, 0) else none)) else (bif Nat.beq pc 48 then some (.if_icmp .ne (11), 59) else none))) else (bif Nat.ble 45 pc then (bif Nat.ble 46 pc then (bif Nat.ble 47 pc then (bif Nat.beq pc 47 then some (.iconst (1), 0) else none) else (bif Nat.beq pc 46 then some (.iand, 0) else none)) else (bif Nat.beq pc 45 then some (.iconst (1), 0) else none)) else (bif Nat.ble 41 pc then (bif Nat.ble 43 pc then (bif Nat.beq pc 43 then some (.iload 4, 0) else none) else (bif Nat.beq pc 41 then some (.istore 6, 0) else none)) else (bif Nat.beq pc 40 then some (.iconst (3), 0) else none))))) else (bif Nat.ble 19 pc then (bif Nat.ble 29 pc then (bif Nat.ble 32 pc then (bif Nat.ble 36 pc then (bif Nat.ble 37 pc then (bif Nat.beq pc 37 then some (.goto (4), 41) else none) else (bif Nat.beq pc 36 then some (.iconst (1), 0) else none)) else (bif Nat.ble 33 pc then (bif Nat.beq pc 33 then some (.ifCond .ne (7), 40) else none) else (bif Nat.beq pc 32 then some (.iload_n 0, 0) else none))) else (bif Nat.ble 30 pc then (bif Nat.ble 31 pc then (bif Nat.beq pc 31 then some (.return_, 0) else none) else (bif Nat.beq pc 30 then some (.iastore, 0) else none)) else (bif Nat.beq pc 29 then some (.iand, 0) else none))) else (bif Nat.ble 24 pc then (bif Nat.ble 26 pc then (bif Nat.ble 27 pc then (bif Nat.beq pc 27 then some (.bipush (-2), 0) else none) else (bif Nat.beq pc 26 then some (.iaload, 0) else none)) else (bif Nat.ble 25 pc then (bif Nat.beq pc 25 then some (.dup2, 0) else none) else (bif Nat.beq pc 24 then some (.iload_n 1, 0) else none))) else (bif Nat.ble 20 pc then (bif Nat.ble 23 pc then (bif Nat.beq pc 23 then some (.aload_n 3, 0) else none) else (bif Nat.beq pc 20 then some (.if_icmp .ne (12), 32) else none)) else (bif Nat.beq pc 19 then some (.iconst (2), 0) else none)))) else (bif Nat.ble 9 pc then (bif Nat.ble 14 pc then (bif Nat.ble 16 pc then (bif Nat.ble 18 pc then (bif Nat.beq pc 18 then some (.iload_n 0, 0) else none) else (bif Nat.beq pc 16 then some (.istore 5, 0) else none)) else (bif Nat.ble 15 pc then (bif Nat.beq pc 15 then some (.iaload, 0) else none) else (bif Nat.beq pc 14 then some (.iload_n 2, 0) else none))) else (bif Nat.ble 10 pc then (bif Nat.ble 13 pc then (bif Nat.beq pc 13 then some (.aload_n 3, 0) else none) else (bif Nat.beq pc 10 then some (.goto (6), 16) else none)) else (bif Nat.beq pc 9 then some (.iconst (0), 0) else none))) else (bif Nat.ble 3 pc then (bif Nat.ble 5 pc then (bif Nat.ble 6 pc then (bif Nat.beq pc 6 then some (.ifCond .ge (7), 13) else none) else (bif Nat.beq pc 5 then some (.iload_n 2, 0) else none)) else (bif Nat.beq pc 3 then some (.istore 4, 0) else none)) else (bif Nat.ble 1 pc then (bif Nat.ble 2 pc then (bif Nat.beq pc 2 then some (.iaload, 0) else none) else (bif Nat.beq pc 1 then some (.iload_n 1, 0) else none)) else (bif Nat.beq pc 0 then some (.aload_n 3, 0) else none))))))
def am_f95 (pc : Nat) : Option (Instr × Nat) := am_gd 1273 pc (bif Nat.ble 637 pc then (bif Nat.ble 963 pc then (bif Nat.ble 1126 pc then (bif Nat.ble 1205 pc then (bif Nat.ble 1237 pc then (bif Nat.ble 1256 pc then (bif Nat.ble 1263 pc then (bif Nat.ble 1268 pc then (bif Nat.ble 1271 pc then (bif Nat.ble 1272 pc then (bif Nat.beq pc 1272 then some (.ireturn, 0) else none) else (bif Nat.beq pc 1271 then some (.iconst (0), 0) else none)) else (bif Nat.beq pc 1268 then some (.goto (4), 1272) else none)) else (bif Nat.ble 1264 pc then (bif Nat.ble 1267 pc then (bif Nat.beq pc 1267 then some (.iconst (1), 0) else none) else (bif Nat.beq pc 1264 then some (.if_icmp .ne (7), 1271) else none)) else (bif Nat.beq pc 1263 then some (.iconst (-1), 0) else none))) else (bif Nat.ble 1258 pc then (bif Nat.ble 1259 pc then (bif Nat.ble 1260 pc then (bif Nat.beq pc 1260 then some (.invokevirtual 79, 84) else none) else (bif Nat.beq pc 1259 then some (.iconst (-1), 0) else none)) else (bif Nat.beq pc 1258 then some (.iconst (0), 0) else none)) else (bif Nat.ble 1257 pc then (bif Nat.beq pc 1257 then some (.iconst (0), 0) else none) else (bif Nat.beq pc 1256 then some (.iconst (0), 0) else none)))) else (bif Nat.ble 1246 pc then (bif Nat.ble 1251 pc then (bif Nat.ble 1252 pc then (bif Nat.ble 1255 pc then (bif Nat.beq pc 1255 then some (.aload_n 1, 0) else none) else (bif Nat.beq pc 1252 then some (.if_icmp .ne (19), 1271) else none)) else (bif Nat.beq pc 1251 then some (.iconst (-1), 0) else none)) else (bif Nat.ble 1247 pc then (bif Nat.ble 1248 pc then (bif Nat.beq pc 1248 then some (.invokevirtual 82, 85) else none) else (bif Nat.beq pc 1247 then some (.iload_n 2, 0) else none)) else (bif Nat.beq pc 1246 then some (.iconst (0), 0) else none))) else (bif Nat.ble 1241 pc then (bif Nat.ble 1244 pc then (bif Nat.ble 1245 pc then (bif Nat.beq pc 1245 then some (.iconst (0), 0) else none) else (bif Nat.beq pc 1244 then some (.aload_n 1, 0) else none)) else (bif Nat.beq pc 1241 then some (.if_icmp .ne (30), 1271) else none)) else (bif Nat.ble 1240 pc then (bif Nat.beq pc 1240 then some (.iconst (-1), 0) else none) else (bif Nat.beq pc 1237 then some (.invokevirtual 79, 84) else none))))) else (bif Nat.ble 1222 pc then (bif Nat.ble 1229 pc then (bif Nat.ble 1234 pc then (bif Nat.ble 1235 pc then (bif Nat.ble 1236 pc then (bif Nat.beq pc 1236 then some (.iconst (0), 0) else none) else (bif Nat.beq pc 1235 then some (.iload_n 2, 0) else none)) else (bif Nat.beq pc 1234 then some (.iconst (0), 0) else none)) else (bif Nat.ble 1232 pc then (bif Nat.ble 1233 pc then (bif Nat.beq pc 1233 then some (.iconst (0), 0) else none) else (bif Nat.beq pc 1232 then some (.aload_n 1, 0) else none)) else (bif Nat.beq pc 1229 then some (.if_icmp .ne (42), 1271) else none))) else (bif Nat.ble 1224 pc then (bif Nat.ble 1225 pc then (bif Nat.ble 1228 pc then (bif Nat.beq pc 1228 then some (.iconst (-1), 0) else none) else (bif Nat.beq pc 1225 then some (.invokevirtual 73, 83) else none)) else (bif Nat.beq pc 1224 then some (.iconst (0), 0) else none)) else (bif Nat.ble 1223 pc then (bif Nat.beq pc 1223 then some (.iconst (2), 0) else none) else (bif Nat.beq pc 1222 then some (.iconst (0), 0) else none)))) else (bif Nat.ble 1212 pc then (bif Nat.ble 1217 pc then (bif Nat.ble 1218 pc then (bif Nat.ble 1221 pc then (bif Nat.beq pc 1221 then some (.aload_n 1, 0) else none) else (bif Nat.beq pc 1218 then some (.if_icmp .ne (53), 1271) else none)) else (bif Nat.beq pc 1217 then some (.iconst (-1), 0) else none)) else (bif Nat.ble 1213 pc then (bif Nat.ble 1214 pc then (bif Nat.beq pc 1214 then some (.invokevirtual 69, 82) else none) else (bif Nat.beq pc 1213 then some (.iconst (0), 0) else none)) else (bif Nat.beq pc 1212 then some (.iconst (0), 0) else none))) else (bif Nat.ble 1209 pc then (bif Nat.ble 1210 pc then (bif Nat.ble 1211 pc then (bif Nat.beq pc 1211 then some (.iconst (0), 0) else none) else (bif Nat.beq pc 1210 then some (.iconst (2), 0) else none)) else (bif Nat.beq pc 1209 then some (.aload_n 1, 0) else none)) else (bif Nat.ble 1206 pc then (bif Nat.beq pc 1206 then some (.ifCond .eq (65), 1271) else none) else (bif Nat.beq pc 1205 then some (.iload_n 3, 0) else none)))))) else (bif Nat.ble 1163 pc then (bif Nat.ble 1182 pc then (bif Nat.ble 1193 pc then (bif Nat.ble 1198 pc then (bif Nat.ble 1199 pc then (bif Nat.ble 1202 pc then (bif Nat.beq pc 1202 then some (.goto (-508), 694) else none) else (bif Nat.beq pc 1199 then some (.iinc 15 (1), 0) else none)) else (bif Nat.beq pc 1198 then some (.istore_n 3, 0) else none)) else (bif Nat.ble 1194 pc then (bif Nat.ble 1197 pc then (bif Nat.beq pc 1197 then some (.iconst (0), 0) else none) else (bif Nat.beq pc 1194 then some (.goto (4), 1198) else none)) else (bif Nat.beq pc 1193 then some (.iconst (1), 0) else none))) else (bif Nat.ble 1185 pc then (bif Nat.ble 1188 pc then (bif Nat.ble 1190 pc then (bif Nat.beq pc 1190 then some (.if_icmp .ne (7), 1197) else none) else (bif Nat.beq pc 1188 then some (.iload 20, 0) else none)) else (bif Nat.beq pc 1185 then some (.invokevirtual 82, 85) else none)) else (bif Nat.ble 1183 pc then (bif Nat.beq pc 1183 then some (.iload 15, 0) else none) else (bif Nat.beq pc 1182 then some (.iconst (0), 0) else none)))) else (bif Nat.ble 1173 pc then (bif Nat.ble 1177 pc then (bif Nat.ble 1180 pc then (bif Nat.ble 1181 pc then (bif Nat.beq pc 1181 then some (.iconst (0), 0) else none) else (bif Nat.beq pc 1180 then some (.aload_n 1, 0) else none)) else (bif Nat.beq pc 1177 then some (.ifCond .eq (20), 1197) else none)) else (bif Nat.ble 1174 pc then (bif Nat.ble 1176 pc then (bif Nat.beq pc 1176 then some (.iload_n 3, 0) else none) else (bif Nat.beq pc 1174 then some (.istore 20, 0) else none)) else (bif Nat.beq pc 1173 then some (.iconst (-1), 0) else none))) else (bif Nat.ble 1166 pc then (bif Nat.ble 1169 pc then (bif Nat.ble 1170 pc then (bif Nat.beq pc 1170 then some (.goto (4), 1174) else none) else (bif Nat.beq pc 1169 then some (.iconst (1), 0) else none)) else (bif Nat.beq pc 1166 then some (.if_icmp .ne (7), 1173) else none)) else (bif Nat.ble 1165 pc then (bif Nat.beq pc 1165 then some (.iaload, 0) else none) else (bif Nat.beq pc 1163 then some (.iload 15, 0) else none))))) else (bif Nat.ble 1143 pc then (bif Nat.ble 1153 pc then (bif Nat.ble 1158 pc then (bif Nat.ble 1160 pc then (bif Nat.ble 1161 pc then (bif Nat.beq pc 1161 then some (.aload 10, 0) else none) else (bif Nat.beq pc 1160 then some (.iand, 0) else none)) else (bif Nat.beq pc 1158 then some (.bipush (-2), 0) else none)) else (bif Nat.ble 1155 pc then (bif Nat.ble 1157 pc then (bif Nat.beq pc 1157 then some (.iaload, 0) else none) else (bif Nat.beq pc 1155 then some (.iload 15, 0) else none)) else (bif Nat.beq pc 1153 then some (.aload 9, 0) else none))) else (bif Nat.ble 1146 pc then (bif Nat.ble 1149 pc then (bif Nat.ble 1150 pc then (bif Nat.beq pc 1150 then some (.goto (24), 1174) else none) else (bif Nat.beq pc 1149 then some (.iconst (0), 0) else none)) else (bif Nat.beq pc 1146 then some (.if_icmp .ne (7), 1153) else none)) else (bif Nat.ble 1145 pc then (bif Nat.beq pc 1145 then some (.iaload, 0) else none) else (bif Nat.beq pc 1143 then some (.iload 15, 0) else none)))) else (bif Nat.ble 1135 pc then (bif Nat.ble 1138 pc then (bif Nat.ble 1140 pc then (bif Nat.ble 1141 pc then (bif Nat.beq pc 1141 then some (.aload 10, 0) else none) else (bif Nat.beq pc 1140 then some (.iaload, 0) else none)) else (bif Nat.beq pc 1138 then some (.iload 15, 0) else none)) else (bif Nat.ble 1136 pc then (bif Nat.beq pc 1136 then some (.aload 9, 0) else none) else (bif Nat.beq pc 1135 then some (.istore_n 3, 0) else none))) else (bif Nat.ble 1130 pc then (bif Nat.ble 1131 pc then (bif Nat.ble 1134 pc then (bif Nat.beq pc 1134 then some (.iconst (0), 0) else none) else (bif Nat.beq pc 1131 then some (.goto (4), 1135) else none)) else (bif Nat.beq pc 1130 then some (.iconst (1), 0) else none)) else (bif Nat.ble 1127 pc then (bif Nat.beq pc 1127 then some (.if_icmp .ne (7), 1134) else none) else (bif Nat.beq pc 1126 then some (.iconst (-1), 0) else none))))))) else (bif Nat.ble 1042 pc then (bif Nat.ble 1085 pc then (bif Nat.ble 1105 pc then (bif Nat.ble 1116 pc then (bif Nat.ble 1119 pc then (bif Nat.ble 1121 pc then (bif Nat.ble 1123 pc then (bif Nat.beq pc 1123 then some (.invokevirtual 79, 84) else none) else (bif Nat.beq pc 1121 then some (.iload 18, 0) else none)) else (bif Nat.beq pc 1119 then some (.iload 15, 0) else none)) else (bif Nat.ble 1117 pc then (bif Nat.ble 1118 pc then (bif Nat.beq pc 1118 then some (.iconst (0), 0) else none) else (bif Nat.beq pc 1117 then some (.iconst (0), 0) else none)) else (bif Nat.beq pc 1116 then some (.aload_n 1, 0) else none))) else (bif Nat.ble 1109 pc then (bif Nat.ble 1112 pc then (bif Nat.ble 1113 pc then (bif Nat.beq pc 1113 then some (.ifCond .eq (21), 1134) else none) else (bif Nat.beq pc 1112 then some (.iload_n 3, 0) else none)) else (bif Nat.beq pc 1109 then some (.goto (-122), 987) else none)) else (bif Nat.ble 1107 pc then (bif Nat.beq pc 1107 then some (.istore 16, 0) else none) else (bif Nat.beq pc 1105 then some (.iload 21, 0) else none)))) else (bif Nat.ble 1094 pc then (bif Nat.ble 1099 pc then (bif Nat.ble 1102 pc then (bif Nat.ble 1103 pc then (bif Nat.beq pc 1103 then some (.istore 19, 0) else none) else (bif Nat.beq pc 1102 then some (.iconst (0), 0) else none)) else (bif Nat.beq pc 1099 then some (.goto (4), 1103) else none)) else (bif Nat.ble 1095 pc then (bif Nat.ble 1098 pc then (bif Nat.beq pc 1098 then some (.iconst (1), 0) else none) else (bif Nat.beq pc 1095 then some (.ifCond .ne (7), 1102) else none)) else (bif Nat.beq pc 1094 then some (.iand, 0) else none))) else (bif Nat.ble 1090 pc then (bif Nat.ble 1092 pc then (bif Nat.ble 1093 pc then (bif Nat.beq pc 1093 then some (.iconst (1), 0) else none) else (bif Nat.beq pc 1092 then some (.ishr, 0) else none)) else (bif Nat.beq pc 1090 then some (.iload 21, 0) else none)) else (bif Nat.ble 1088 pc then (bif Nat.beq pc 1088 then some (.iload 17, 0) else none) else (bif Nat.beq pc 1085 then some (.ifCond .lt (17), 1102) else none))))) else (bif Nat.ble 1063 pc then (bif Nat.ble 1073 pc then (bif Nat.ble 1080 pc then (bif Nat.ble 1081 pc then (bif Nat.ble 1083 pc then (bif Nat.beq pc 1083 then some (.iload 21, 0) else none) else (bif Nat.beq pc 1081 then some (.istore 21, 0) else none)) else (bif Nat.beq pc 1080 then some (.iaload, 0) else none)) else (bif Nat.ble 1076 pc then (bif Nat.ble 1078 pc then (bif Nat.beq pc 1078 then some (.iload 20, 0) else none) else (bif Nat.beq pc 1076 then some (.aload 5, 0) else none)) else (bif Nat.beq pc 1073 then some (.goto (8), 1081) else none))) else (bif Nat.ble 1068 pc then (bif Nat.ble 1070 pc then (bif Nat.ble 1072 pc then (bif Nat.beq pc 1072 then some (.iaload, 0) else none) else (bif Nat.beq pc 1070 then some (.iload 20, 0) else none)) else (bif Nat.beq pc 1068 then some (.aload 6, 0) else none)) else (bif Nat.ble 1065 pc then (bif Nat.beq pc 1065 then some (.if_icmp .ne (11), 1076) else none) else (bif Nat.beq pc 1063 then some (.iload 16, 0) else none)))) else (bif Nat.ble 1051 pc then (bif Nat.ble 1058 pc then (bif Nat.ble 1060 pc then (bif Nat.ble 1062 pc then (bif Nat.beq pc 1062 then some (.iaload, 0) else none) else (bif Nat.beq pc 1060 then some (.iload 20, 0) else none)) else (bif Nat.beq pc 1058 then some (.aload 5, 0) else none)) else (bif Nat.ble 1054 pc then (bif Nat.ble 1055 pc then (bif Nat.beq pc 1055 then some (.goto (26), 1081) else none) else (bif Nat.beq pc 1054 then some (.iconst (-1), 0) else none)) else (bif Nat.beq pc 1051 then some (.ifCond .ge (7), 1058) else none))) else (bif Nat.ble 1046 pc then (bif Nat.ble 1047 pc then (bif Nat.ble 1049 pc then (bif Nat.beq pc 1049 then some (.iload 20, 0) else none) else (bif Nat.beq pc 1047 then some (.istore 20, 0) else none)) else (bif Nat.beq pc 1046 then some (.iaload, 0) else none)) else (bif Nat.ble 1044 pc then (bif Nat.beq pc 1044 then some (.iload 16, 0) else none) else (bif Nat.beq pc 1042 then some (.aload 11, 0) else none)))))) else (bif Nat.ble 1001 pc then (bif Nat.ble 1023 pc then (bif Nat.ble 1031 pc then (bif Nat.ble 1035 pc then (bif Nat.ble 1038 pc then (bif Nat.ble 1039 pc then (bif Nat.beq pc 1039 then some (.goto (8), 1047) else none) else (bif Nat.beq pc 1038 then some (.iconst (-1), 0) else none)) else (bif Nat.beq pc 1035 then some (.if_icmp .ne (7), 1042) else none)) else (bif Nat.ble 1033 pc then (bif Nat.ble 1034 pc then (bif Nat.beq pc 1034 then some (.iaload, 0) else none) else (bif Nat.beq pc 1033 then some (.iconst (0), 0) else none)) else (bif Nat.beq pc 1031 then some (.aload 8, 0) else none))) else (bif Nat.ble 1026 pc then (bif Nat.ble 1027 pc then (bif Nat.ble 1029 pc then (bif Nat.beq pc 1029 then some (.iload 16, 0) else none) else (bif Nat.beq pc 1027 then some (.istore 17, 0) else none)) else (bif Nat.beq pc 1026 then some (.ior, 0) else none)) else (bif Nat.ble 1025 pc then (bif Nat.beq pc 1025 then some (.ishl, 0) else none) else (bif Nat.beq pc 1023 then some (.iload 16, 0) else none)))) else (bif Nat.ble 1012 pc then (bif Nat.ble 1017 pc then (bif Nat.ble 1020 pc then (bif Nat.ble 1022 pc then (bif Nat.beq pc 1022 then some (.iconst (1), 0) else none) else (bif Nat.beq pc 1020 then some (.iload 17, 0) else none)) else (bif Nat.beq pc 1017 then some (.iinc 18 (1), 0) else none)) else (bif Nat.ble 1015 pc then (bif Nat.ble 1016 pc then (bif Nat.beq pc 1016 then some (.istore_n 3, 0) else none) else (bif Nat.beq pc 1015 then some (.iconst (0), 0) else none)) else (bif Nat.beq pc 1012 then some (.goto (4), 1016) else none))) else (bif Nat.ble 1006 pc then (bif Nat.ble 1008 pc then (bif Nat.ble 1011 pc then (bif Nat.beq pc 1011 then some (.iconst (1), 0) else none) else (bif Nat.beq pc 1008 then some (.if_icmp .ne (7), 1015) else none)) else (bif Nat.beq pc 1006 then some (.iload 16, 0) else none)) else (bif Nat.ble 1003 pc then (bif Nat.beq pc 1003 then some (.invokevirtual 79, 84) else none) else (bif Nat.beq pc 1001 then some (.iload 18, 0) else none))))) else (bif Nat.ble 981 pc then (bif Nat.ble 992 pc then (bif Nat.ble 997 pc then (bif Nat.ble 998 pc then (bif Nat.ble 999 pc then (bif Nat.beq pc 999 then some (.iload 15, 0) else none) else (bif Nat.beq pc 998 then some (.iconst (0), 0) else none)) else (bif Nat.beq pc 997 then some (.iconst (0), 0) else none)) else (bif Nat.ble 993 pc then (bif Nat.ble 996 pc then (bif Nat.beq pc 996 then some (.aload_n 1, 0) else none) else (bif Nat.beq pc 993 then some (.ifCond .eq (22), 1015) else none)) else (bif Nat.beq pc 992 then some (.iload_n 3, 0) else none))) else (bif Nat.ble 985 pc then (bif Nat.ble 987 pc then (bif Nat.ble 989 pc then (bif Nat.beq pc 989 then some (.ifCond .eq (123), 1112) else none) else (bif Nat.beq pc 987 then some (.iload 19, 0) else none)) else (bif Nat.beq pc 985 then some (.istore 19, 0) else none)) else (bif Nat.ble 984 pc then (bif Nat.beq pc 984 then some (.iconst (0), 0) else none) else (bif Nat.beq pc 981 then some (.goto (4), 985) else none)))) else (bif Nat.ble 972 pc then (bif Nat.ble 976 pc then (bif Nat.ble 977 pc then (bif Nat.ble 980 pc then (bif Nat.beq pc 980 then some (.iconst (1), 0) else none) else (bif Nat.beq pc 977 then some (.ifCond .lt (7), 984) else none)) else (bif Nat.beq pc 976 then some (.iaload, 0) else none)) else (bif Nat.ble 974 pc then (bif Nat.beq pc 974 then some (.iload 15, 0) else none) else (bif Nat.beq pc 972 then some (.aload 11, 0) else none))) else (bif Nat.ble 967 pc then (bif Nat.ble 968 pc then (bif Nat.ble 969 pc then (bif Nat.beq pc 969 then some (.if_icmp .eq (11), 980) else none) else (bif Nat.beq pc 968 then some (.iaload, 0) else none)) else (bif Nat.beq pc 967 then some (.iconst (0), 0) else none)) else (bif Nat.ble 965 pc then (bif Nat.beq pc 965 then some (.aload 8, 0) else none) else (bif Nat.beq pc 963 then some (.iload 15, 0) else none)))))))) else (bif Nat.ble 801 pc then (bif Nat.ble 878 pc then (bif Nat.ble 920 pc then (bif Nat.ble 942 pc then (bif Nat.ble 953 pc then (bif Nat.ble 958 pc then (bif Nat.ble 960 pc then (bif Nat.ble 961 pc then (bif Nat.beq pc 961 then some (.istore 18, 0) else none) else (bif Nat.beq pc 960 then some (.iconst (0), 0) else none)) else (bif Nat.beq pc 958 then some (.istore 17, 0) else none)) else (bif Nat.ble 955 pc then (bif Nat.ble 957 pc then (bif Nat.beq pc 957 then some (.iconst (0), 0) else none) else (bif Nat.beq pc 955 then some (.istore 16, 0) else none)) else (bif Nat.beq pc 953 then some (.iload 15, 0) else none))) else (bif Nat.ble 946 pc then (bif Nat.ble 947 pc then (bif Nat.ble 950 pc then (bif Nat.beq pc 950 then some (.goto (-121), 829) else none) else (bif Nat.beq pc 947 then some (.iinc 16 (1), 0) else none)) else (bif Nat.beq pc 946 then some (.istore_n 3, 0) else none)) else (bif Nat.ble 945 pc then (bif Nat.beq pc 945 then some (.iconst (0), 0) else none) else (bif Nat.beq pc 942 then some (.goto (4), 946) else none)))) else (bif Nat.ble 928 pc then (bif Nat.ble 935 pc then (bif Nat.ble 938 pc then (bif Nat.ble 941 pc then (bif Nat.beq pc 941 then some (.iconst (1), 0) else none) else (bif Nat.beq pc 938 then some (.ifCond .ne (7), 945) else none)) else (bif Nat.beq pc 935 then some (.invokevirtual 76, 81) else none)) else (bif Nat.ble 930 pc then (bif Nat.ble 932 pc then (bif Nat.beq pc 932 then some (.sipush (8999), 0) else none) else (bif Nat.beq pc 930 then some (.iload 12, 0) else none)) else (bif Nat.beq pc 928 then some (.iload 16, 0) else none))) else (bif Nat.ble 924 pc then (bif Nat.ble 925 pc then (bif Nat.ble 926 pc then (bif Nat.beq pc 926 then some (.iload 15, 0) else none) else (bif Nat.beq pc 925 then some (.iconst (0), 0) else none)) else (bif Nat.beq pc 924 then some (.aload_n 1, 0) else none)) else (bif Nat.ble 921 pc then (bif Nat.beq pc 921 then some (.if_icmp .ne (24), 945) else none) else (bif Nat.beq pc 920 then some (.iconst (0), 0) else none))))) else (bif Nat.ble 902 pc then (bif Nat.ble 910 pc then (bif Nat.ble 913 pc then (bif Nat.ble 916 pc then (bif Nat.ble 917 pc then (bif Nat.beq pc 917 then some (.goto (4), 921) else none) else (bif Nat.beq pc 916 then some (.iconst (2), 0) else none)) else (bif Nat.beq pc 913 then some (.if_icmp .ne (7), 920) else none)) else (bif Nat.ble 911 pc then (bif Nat.ble 912 pc then (bif Nat.beq pc 912 then some (.iconst (1), 0) else none) else (bif Nat.beq pc 911 then some (.iand, 0) else none)) else (bif Nat.beq pc 910 then some (.iconst (1), 0) else none))) else (bif Nat.ble 906 pc then (bif Nat.ble 907 pc then (bif Nat.ble 909 pc then (bif Nat.beq pc 909 then some (.ishr, 0) else none) else (bif Nat.beq pc 907 then some (.iload 16, 0) else none)) else (bif Nat.beq pc 906 then some (.iaload, 0) else none)) else (bif Nat.ble 904 pc then (bif Nat.beq pc 904 then some (.iload 15, 0) else none) else (bif Nat.beq pc 902 then some (.aload 9, 0) else none)))) else (bif Nat.ble 887 pc then (bif Nat.ble 896 pc then (bif Nat.ble 898 pc then (bif Nat.ble 899 pc then (bif Nat.beq pc 899 then some (.if_icmp .ge (21), 920) else none) else (bif Nat.beq pc 898 then some (.iconst (2), 0) else none)) else (bif Nat.beq pc 896 then some (.iload 16, 0) else none)) else (bif Nat.ble 890 pc then (bif Nat.ble 893 pc then (bif Nat.beq pc 893 then some (.invokevirtual 76, 81) else none) else (bif Nat.beq pc 890 then some (.sipush (9000), 0) else none)) else (bif Nat.beq pc 887 then some (.sipush (9000), 0) else none))) else (bif Nat.ble 882 pc then (bif Nat.ble 883 pc then (bif Nat.ble 885 pc then (bif Nat.beq pc 885 then some (.iload 16, 0) else none) else (bif Nat.beq pc 883 then some (.iload 15, 0) else none)) else (bif Nat.beq pc 882 then some (.iconst (0), 0) else none)) else (bif Nat.ble 881 pc then (bif Nat.beq pc 881 then some (.aload_n 1, 0) else none) else (bif Nat.beq pc 878 then some (.if_icmp .ne (67), 945) else none)))))) else (bif Nat.ble 839 pc then (bif Nat.ble 861 pc then (bif Nat.ble 868 pc then (bif Nat.ble 873 pc then (bif Nat.ble 874 pc then (bif Nat.ble 877 pc then (bif Nat.beq pc 877 then some (.iconst (0), 0) else none) else (bif Nat.beq pc 874 then some (.goto (4), 878) else none)) else (bif Nat.beq pc 873 then some (.iconst (2), 0) else none)) else (bif Nat.ble 869 pc then (bif Nat.ble 870 pc then (bif Nat.beq pc 870 then some (.if_icmp .ne (7), 877) else none) else (bif Nat.beq pc 869 then some (.iconst (1), 0) else none)) else (bif Nat.beq pc 868 then some (.iand, 0) else none))) else (bif Nat.ble 864 pc then (bif Nat.ble 866 pc then (bif Nat.ble 867 pc then (bif Nat.beq pc 867 then some (.iconst (1), 0) else none) else (bif Nat.beq pc 866 then some (.ishr, 0) else none)) else (bif Nat.beq pc 864 then some (.iload 16, 0) else none)) else (bif Nat.ble 863 pc then (bif Nat.beq pc 863 then some (.iaload, 0) else none) else (bif Nat.beq pc 861 then some (.iload 15, 0) else none)))) else (bif Nat.ble 847 pc then (bif Nat.ble 855 pc then (bif Nat.ble 856 pc then (bif Nat.ble 859 pc then (bif Nat.beq pc 859 then some (.aload 13, 0) else none) else (bif Nat.beq pc 856 then some (.if_icmp .ge (21), 877) else none)) else (bif Nat.beq pc 855 then some (.iconst (2), 0) else none)) else (bif Nat.ble 850 pc then (bif Nat.ble 853 pc then (bif Nat.beq pc 853 then some (.iload 16, 0) else none) else (bif Nat.beq pc 850 then some (.invokevirtual 76, 81) else none)) else (bif Nat.beq pc 847 then some (.sipush (9000), 0) else none))) else (bif Nat.ble 841 pc then (bif Nat.ble 843 pc then (bif Nat.ble 845 pc then (bif Nat.beq pc 845 then some (.iload 12, 0) else none) else (bif Nat.beq pc 843 then some (.iload 16, 0) else none)) else (bif Nat.beq pc 841 then some (.iload 15, 0) else none)) else (bif Nat.ble 840 pc then (bif Nat.beq pc 840 then some (.iconst (0), 0) else none) else (bif Nat.beq pc 839 then some (.aload_n 1, 0) else none))))) else (bif Nat.ble 820 pc then (bif Nat.ble 827 pc then (bif Nat.ble 832 pc then (bif Nat.ble 835 pc then (bif Nat.ble 836 pc then (bif Nat.beq pc 836 then some (.ifCond .eq (109), 945) else none) else (bif Nat.beq pc 835 then some (.iload_n 3, 0) else none)) else (bif Nat.beq pc 832 then some (.if_icmp .ge (121), 953) else none)) else (bif Nat.ble 829 pc then (bif Nat.ble 831 pc then (bif Nat.beq pc 831 then some (.iconst (3), 0) else none) else (bif Nat.beq pc 829 then some (.iload 16, 0) else none)) else (bif Nat.beq pc 827 then some (.istore 16, 0) else none))) else (bif Nat.ble 824 pc then (bif Nat.ble 825 pc then (bif Nat.ble 826 pc then (bif Nat.beq pc 826 then some (.iconst (0), 0) else none) else (bif Nat.beq pc 825 then some (.istore_n 3, 0) else none)) else (bif Nat.beq pc 824 then some (.iconst (0), 0) else none)) else (bif Nat.ble 821 pc then (bif Nat.beq pc 821 then some (.goto (4), 825) else none) else (bif Nat.beq pc 820 then some (.iconst (1), 0) else none)))) else (bif Nat.ble 809 pc then (bif Nat.ble 814 pc then (bif Nat.ble 816 pc then (bif Nat.ble 817 pc then (bif Nat.beq pc 817 then some (.if_icmp .ne (7), 824) else none) else (bif Nat.beq pc 816 then some (.iaload, 0) else none)) else (bif Nat.beq pc 814 then some (.iload 15, 0) else none)) else (bif Nat.ble 812 pc then (bif Nat.beq pc 812 then some (.aload 11, 0) else none) else (bif Nat.beq pc 809 then some (.invokevirtual 73, 83) else none))) else (bif Nat.ble 805 pc then (bif Nat.ble 806 pc then (bif Nat.ble 807 pc then (bif Nat.beq pc 807 then some (.iload 15, 0) else none) else (bif Nat.beq pc 806 then some (.iconst (0), 0) else none)) else (bif Nat.beq pc 805 then some (.iconst (0), 0) else none)) else (bif Nat.ble 804 pc then (bif Nat.beq pc 804 then some (.aload_n 1, 0) else none) else (bif Nat.beq pc 801 then some (.if_icmp .ne (23), 824) else none))))))) else (bif Nat.ble 721 pc then (bif Nat.ble 760 pc then (bif Nat.ble 782 pc then (bif Nat.ble 790 pc then (bif Nat.ble 796 pc then (bif Nat.ble 797 pc then (bif Nat.ble 800 pc then (bif Nat.beq pc 800 then some (.iconst (0), 0) else none) else (bif Nat.beq pc 797 then some (.goto (4), 801) else none)) else (bif Nat.beq pc 796 then some (.iconst (2), 0) else none)) else (bif Nat.ble 791 pc then (bif Nat.ble 793 pc then (bif Nat.beq pc 793 then some (.if_icmp .eq (7), 800) else none) else (bif Nat.beq pc 791 then some (.iload 15, 0) else none)) else (bif Nat.beq pc 790 then some (.iaload, 0) else none))) else (bif Nat.ble 784 pc then (bif Nat.ble 787 pc then (bif Nat.ble 789 pc then (bif Nat.beq pc 789 then some (.iconst (1), 0) else none) else (bif Nat.beq pc 787 then some (.aload 8, 0) else none)) else (bif Nat.beq pc 784 then some (.if_icmp .ne (16), 800) else none)) else (bif Nat.ble 783 pc then (bif Nat.beq pc 783 then some (.iaload, 0) else none) else (bif Nat.beq pc 782 then some (.iconst (0), 0) else none)))) else (bif Nat.ble 769 pc then (bif Nat.ble 775 pc then (bif Nat.ble 778 pc then (bif Nat.ble 780 pc then (bif Nat.beq pc 780 then some (.aload 8, 0) else none) else (bif Nat.beq pc 778 then some (.iload 15, 0) else none)) else (bif Nat.beq pc 775 then some (.invokevirtual 69, 82) else none)) else (bif Nat.ble 770 pc then (bif Nat.ble 772 pc then (bif Nat.beq pc 772 then some (.sipush (5000), 0) else none) else (bif Nat.beq pc 770 then some (.iload 15, 0) else none)) else (bif Nat.beq pc 769 then some (.iconst (1), 0) else none))) else (bif Nat.ble 764 pc then (bif Nat.ble 767 pc then (bif Nat.ble 768 pc then (bif Nat.beq pc 768 then some (.iconst (0), 0) else none) else (bif Nat.beq pc 767 then some (.aload_n 1, 0) else none)) else (bif Nat.beq pc 764 then some (.if_icmp .ne (60), 824) else none)) else (bif Nat.ble 763 pc then (bif Nat.beq pc 763 then some (.iconst (0), 0) else none) else (bif Nat.beq pc 760 then some (.goto (4), 764) else none))))) else (bif Nat.ble 738 pc then (bif Nat.ble 750 pc then (bif Nat.ble 755 pc then (bif Nat.ble 756 pc then (bif Nat.ble 759 pc then (bif Nat.beq pc 759 then some (.iconst (2), 0) else none) else (bif Nat.beq pc 756 then some (.if_icmp .eq (7), 763) else none)) else (bif Nat.beq pc 755 then some (.iaload, 0) else none)) else (bif Nat.ble 751 pc then (bif Nat.ble 753 pc then (bif Nat.beq pc 753 then some (.iload 15, 0) else none) else (bif Nat.beq pc 751 then some (.aload 10, 0) else none)) else (bif Nat.beq pc 750 then some (.iaload, 0) else none))) else (bif Nat.ble 743 pc then (bif Nat.ble 746 pc then (bif Nat.ble 748 pc then (bif Nat.beq pc 748 then some (.iload 15, 0) else none) else (bif Nat.beq pc 746 then some (.aload 9, 0) else none)) else (bif Nat.beq pc 743 then some (.invokevirtual 69, 82) else none)) else (bif Nat.ble 740 pc then (bif Nat.beq pc 740 then some (.sipush (9000), 0) else none) else (bif Nat.beq pc 738 then some (.iload 15, 0) else none)))) else (bif Nat.ble 731 pc then (bif Nat.ble 735 pc then (bif Nat.ble 736 pc then (bif Nat.ble 737 pc then (bif Nat.beq pc 737 then some (.iconst (0), 0) else none) else (bif Nat.beq pc 736 then some (.iconst (0), 0) else none)) else (bif Nat.beq pc 735 then some (.aload_n 1, 0) else none)) else (bif Nat.ble 732 pc then (bif Nat.beq pc 732 then some (.if_icmp .ne (92), 824) else none) else (bif Nat.beq pc 731 then some (.iconst (0), 0) else none))) else (bif Nat.ble 724 pc then (bif Nat.ble 727 pc then (bif Nat.ble 728 pc then (bif Nat.beq pc 728 then some (.goto (4), 732) else none) else (bif Nat.beq pc 727 then some (.iconst (2), 0) else none)) else (bif Nat.beq pc 724 then some (.if_icmp .eq (7), 731) else none)) else (bif Nat.ble 723 pc then (bif Nat.beq pc 723 then some (.iaload, 0) else none) else (bif Nat.beq pc 721 then some (.iload 15, 0) else none)))))) else (bif Nat.ble 678 pc then (bif Nat.ble 701 pc then (bif Nat.ble 709 pc then (bif Nat.ble 716 pc then (bif Nat.ble 718 pc then (bif Nat.ble 719 pc then (bif Nat.beq pc 719 then some (.aload 14, 0) else none) else (bif Nat.beq pc 718 then some (.iaload, 0) else none)) else (bif Nat.beq pc 716 then some (.iload 15, 0) else none)) else (bif Nat.ble 711 pc then (bif Nat.ble 714 pc then (bif Nat.beq pc 714 then some (.aload 13, 0) else none) else (bif Nat.beq pc 711 then some (.invokevirtual 69, 82) else none)) else (bif Nat.beq pc 709 then some (.iload 12, 0) else none))) else (bif Nat.ble 705 pc then (bif Nat.ble 706 pc then (bif Nat.ble 707 pc then (bif Nat.beq pc 707 then some (.iload 15, 0) else none) else (bif Nat.beq pc 706 then some (.iconst (0), 0) else none)) else (bif Nat.beq pc 705 then some (.iconst (0), 0) else none)) else (bif Nat.ble 704 pc then (bif Nat.beq pc 704 then some (.aload_n 1, 0) else none) else (bif Nat.beq pc 701 then some (.ifCond .eq (123), 824) else none)))) else (bif Nat.ble 691 pc then (bif Nat.ble 696 pc then (bif Nat.ble 697 pc then (bif Nat.ble 700 pc then (bif Nat.beq pc 700 then some (.iload_n 3, 0) else none) else (bif Nat.beq pc 697 then some (.if_icmp .ge (508), 1205) else none)) else (bif Nat.beq pc 696 then some (.iload_n 2, 0) else none)) else (bif Nat.ble 692 pc then (bif Nat.ble 694 pc then (bif Nat.beq pc 694 then some (.iload 15, 0) else none) else (bif Nat.beq pc 692 then some (.istore 15, 0) else none)) else (bif Nat.beq pc 691 then some (.iconst (0), 0) else none))) else (bif Nat.ble 682 pc then (bif Nat.ble 685 pc then (bif Nat.ble 688 pc then (bif Nat.beq pc 688 then some (.goto (-233), 455) else none) else (bif Nat.beq pc 685 then some (.iinc 15 (1), 0) else none)) else (bif Nat.beq pc 682 then some (.goto (-36), 646) else none)) else (bif Nat.ble 679 pc then (bif Nat.beq pc 679 then some (.iinc 16 (1), 0) else none) else (bif Nat.beq pc 678 then some (.iastore, 0) else none))))) else (bif Nat.ble 659 pc then (bif Nat.ble 668 pc then (bif Nat.ble 673 pc then (bif Nat.ble 675 pc then (bif Nat.ble 677 pc then (bif Nat.beq pc 677 then some (.iaload, 0) else none) else (bif Nat.beq pc 675 then some (.iload 16, 0) else none)) else (bif Nat.beq pc 673 then some (.aload 10, 0) else none)) else (bif Nat.ble 669 pc then (bif Nat.ble 671 pc then (bif Nat.beq pc 671 then some (.iload 16, 0) else none) else (bif Nat.beq pc 669 then some (.aload 14, 0) else none)) else (bif Nat.beq pc 668 then some (.iastore, 0) else none))) else (bif Nat.ble 663 pc then (bif Nat.ble 665 pc then (bif Nat.ble 667 pc then (bif Nat.beq pc 667 then some (.iaload, 0) else none) else (bif Nat.beq pc 665 then some (.iload 16, 0) else none)) else (bif Nat.beq pc 663 then some (.aload 9, 0) else none)) else (bif Nat.ble 661 pc then (bif Nat.beq pc 661 then some (.iload 16, 0) else none) else (bif Nat.beq pc 659 then some (.aload 13, 0) else none)))) else (bif Nat.ble 648 pc then (bif Nat.ble 652 pc then (bif Nat.ble 654 pc then (bif Nat.ble 656 pc then (bif Nat.beq pc 656 then some (.if_icmp .ne (29), 685) else none) else (bif Nat.beq pc 654 then some (.iload 12, 0) else none)) else (bif Nat.beq pc 652 then some (.iload 15, 0) else none)) else (bif Nat.ble 649 pc then (bif Nat.beq pc 649 then some (.if_icmp .ge (36), 685) else none) else (bif Nat.beq pc 648 then some (.iload_n 2, 0) else none))) else (bif Nat.ble 643 pc then (bif Nat.ble 644 pc then (bif Nat.ble 646 pc then (bif Nat.beq pc 646 then some (.iload 16, 0) else none) else (bif Nat.beq pc 644 then some (.istore 16, 0) else none)) else (bif Nat.beq pc 643 then some (.iconst (0), 0) else none)) else (bif Nat.ble 640 pc then (bif Nat.beq pc 640 then some (.goto (-115), 525) else none) else (bif Nat.beq pc 637 then some (.iinc 16 (1), 0) else none))))))))) else (bif Nat.ble 313 pc then (bif Nat.ble 477 pc then (bif Nat.ble 554 pc then (bif Nat.ble 594 pc then (bif Nat.ble 615 pc then (bif Nat.ble 624 pc then (bif Nat.ble 630 pc then (bif Nat.ble 631 pc then (bif Nat.ble 634 pc then (bif Nat.beq pc 634 then some (.goto (-46), 588) else none) else (bif Nat.beq pc 631 then some (.iinc 17 (1), 0) else none)) else (bif Nat.beq pc 630 then some (.iastore, 0) else none)) else (bif Nat.ble 626 pc then (bif Nat.ble 628 pc then (bif Nat.beq pc 628 then some (.iload 16, 0) else none) else (bif Nat.beq pc 626 then some (.iload 17, 0) else none)) else (bif Nat.beq pc 624 then some (.aload 11, 0) else none))) else (bif Nat.ble 618 pc then (bif Nat.ble 620 pc then (bif Nat.ble 621 pc then (bif Nat.beq pc 621 then some (.if_icmp .eq (10), 631) else none) else (bif Nat.beq pc 620 then some (.iaload, 0) else none)) else (bif Nat.beq pc 618 then some (.iload 17, 0) else none)) else (bif Nat.ble 616 pc then (bif Nat.beq pc 616 then some (.aload 10, 0) else none) else (bif Nat.beq pc 615 then some (.iaload, 0) else none)))) else (bif Nat.ble 604 pc then (bif Nat.ble 608 pc then (bif Nat.ble 611 pc then (bif Nat.ble 613 pc then (bif Nat.beq pc 613 then some (.iload 17, 0) else none) else (bif Nat.beq pc 611 then some (.aload 9, 0) else none)) else (bif Nat.beq pc 608 then some (.if_icmp .eq (23), 631) else none)) else (bif Nat.ble 606 pc then (bif Nat.ble 607 pc then (bif Nat.beq pc 607 then some (.iaload, 0) else none) else (bif Nat.beq pc 606 then some (.iconst (0), 0) else none)) else (bif Nat.beq pc 604 then some (.aload 8, 0) else none))) else (bif Nat.ble 598 pc then (bif Nat.ble 599 pc then (bif Nat.ble 602 pc then (bif Nat.beq pc 602 then some (.iload 17, 0) else none) else (bif Nat.beq pc 599 then some (.ifCond .ge (32), 631) else none)) else (bif Nat.beq pc 598 then some (.iaload, 0) else none)) else (bif Nat.ble 596 pc then (bif Nat.beq pc 596 then some (.iload 17, 0) else none) else (bif Nat.beq pc 594 then some (.aload 11, 0) else none))))) else (bif Nat.ble 574 pc then (bif Nat.ble 582 pc then (bif Nat.ble 588 pc then (bif Nat.ble 590 pc then (bif Nat.ble 591 pc then (bif Nat.beq pc 591 then some (.if_icmp .ge (46), 637) else none) else (bif Nat.beq pc 590 then some (.iload_n 2, 0) else none)) else (bif Nat.beq pc 588 then some (.iload 17, 0) else none)) else (bif Nat.ble 585 pc then (bif Nat.ble 586 pc then (bif Nat.beq pc 586 then some (.istore 17, 0) else none) else (bif Nat.beq pc 585 then some (.iconst (0), 0) else none)) else (bif Nat.beq pc 582 then some (.invokestatic 65, 94) else none))) else (bif Nat.ble 577 pc then (bif Nat.ble 579 pc then (bif Nat.ble 580 pc then (bif Nat.beq pc 580 then some (.aload 10, 0) else none) else (bif Nat.beq pc 579 then some (.iaload, 0) else none)) else (bif Nat.beq pc 577 then some (.iload 16, 0) else none)) else (bif Nat.ble 575 pc then (bif Nat.beq pc 575 then some (.aload 6, 0) else none) else (bif Nat.beq pc 574 then some (.iaload, 0) else none)))) else (bif Nat.ble 562 pc then (bif Nat.ble 569 pc then (bif Nat.ble 570 pc then (bif Nat.ble 572 pc then (bif Nat.beq pc 572 then some (.iload 16, 0) else none) else (bif Nat.beq pc 570 then some (.aload 5, 0) else none)) else (bif Nat.beq pc 569 then some (.iaload, 0) else none)) else (bif Nat.ble 565 pc then (bif Nat.ble 567 pc then (bif Nat.beq pc 567 then some (.iload 16, 0) else none) else (bif Nat.beq pc 565 then some (.aload 4, 0) else none)) else (bif Nat.beq pc 562 then some (.invokestatic 65, 94) else none))) else (bif Nat.ble 557 pc then (bif Nat.ble 559 pc then (bif Nat.ble 560 pc then (bif Nat.beq pc 560 then some (.aload 9, 0) else none) else (bif Nat.beq pc 559 then some (.iaload, 0) else none)) else (bif Nat.beq pc 557 then some (.iload 16, 0) else none)) else (bif Nat.ble 555 pc then (bif Nat.beq pc 555 then some (.aload 6, 0) else none) else (bif Nat.beq pc 554 then some (.iaload, 0) else none)))))) else (bif Nat.ble 512 pc then (bif Nat.ble 532 pc then (bif Nat.ble 542 pc then (bif Nat.ble 549 pc then (bif Nat.ble 550 pc then (bif Nat.ble 552 pc then (bif Nat.beq pc 552 then some (.iload 16, 0) else none) else (bif Nat.beq pc 550 then some (.aload 5, 0) else none)) else (bif Nat.beq pc 549 then some (.iaload, 0) else none)) else (bif Nat.ble 545 pc then (bif Nat.ble 547 pc then (bif Nat.beq pc 547 then some (.iload 16, 0) else none) else (bif Nat.beq pc 545 then some (.aload 4, 0) else none)) else (bif Nat.beq pc 542 then some (.goto (95), 637) else none))) else (bif Nat.ble 536 pc then (bif Nat.ble 537 pc then (bif Nat.ble 539 pc then (bif Nat.beq pc 539 then some (.if_icmp .eq (6), 545) else none) else (bif Nat.beq pc 537 then some (.iload 15, 0) else none)) else (bif Nat.beq pc 536 then some (.iaload, 0) else none)) else (bif Nat.ble 534 pc then (bif Nat.beq pc 534 then some (.iload 16, 0) else none) else (bif Nat.beq pc 532 then some (.aload 7, 0) else none)))) else (bif Nat.ble 519 pc then (bif Nat.ble 525 pc then (bif Nat.ble 527 pc then (bif Nat.ble 529 pc then (bif Nat.beq pc 529 then some (.if_icmp .ge (114), 643) else none) else (bif Nat.beq pc 527 then some (.bipush (14), 0) else none)) else (bif Nat.beq pc 525 then some (.iload 16, 0) else none)) else (bif Nat.ble 522 pc then (bif Nat.ble 523 pc then (bif Nat.beq pc 523 then some (.istore 16, 0) else none) else (bif Nat.beq pc 522 then some (.iconst (0), 0) else none)) else (bif Nat.beq pc 519 then some (.goto (-54), 465) else none))) else (bif Nat.ble 514 pc then (bif Nat.ble 515 pc then (bif Nat.ble 516 pc then (bif Nat.beq pc 516 then some (.iinc 16 (1), 0) else none) else (bif Nat.beq pc 515 then some (.iastore, 0) else none)) else (bif Nat.beq pc 514 then some (.ior, 0) else none)) else (bif Nat.ble 513 pc then (bif Nat.beq pc 513 then some (.iconst (1), 0) else none) else (bif Nat.beq pc 512 then some (.iaload, 0) else none))))) else (bif Nat.ble 495 pc then (bif Nat.ble 501 pc then (bif Nat.ble 508 pc then (bif Nat.ble 510 pc then (bif Nat.ble 511 pc then (bif Nat.beq pc 511 then some (.dup2, 0) else none) else (bif Nat.beq pc 510 then some (.iaload, 0) else none)) else (bif Nat.beq pc 508 then some (.iload 16, 0) else none)) else (bif Nat.ble 504 pc then (bif Nat.ble 506 pc then (bif Nat.beq pc 506 then some (.aload 8, 0) else none) else (bif Nat.beq pc 504 then some (.aload 10, 0) else none)) else (bif Nat.beq pc 501 then some (.ifCond .le (15), 516) else none))) else (bif Nat.ble 497 pc then (bif Nat.ble 498 pc then (bif Nat.ble 499 pc then (bif Nat.beq pc 499 then some (.iload 16, 0) else none) else (bif Nat.beq pc 498 then some (.iastore, 0) else none)) else (bif Nat.beq pc 497 then some (.ior, 0) else none)) else (bif Nat.ble 496 pc then (bif Nat.beq pc 496 then some (.iconst (1), 0) else none) else (bif Nat.beq pc 495 then some (.iaload, 0) else none)))) else (bif Nat.ble 487 pc then (bif Nat.ble 491 pc then (bif Nat.ble 493 pc then (bif Nat.ble 494 pc then (bif Nat.beq pc 494 then some (.dup2, 0) else none) else (bif Nat.beq pc 493 then some (.iaload, 0) else none)) else (bif Nat.beq pc 491 then some (.iload 16, 0) else none)) else (bif Nat.ble 489 pc then (bif Nat.beq pc 489 then some (.aload 8, 0) else none) else (bif Nat.beq pc 487 then some (.aload 9, 0) else none))) else (bif Nat.ble 479 pc then (bif Nat.ble 481 pc then (bif Nat.ble 484 pc then (bif Nat.beq pc 484 then some (.goto (32), 516) else none) else (bif Nat.beq pc 481 then some (.if_icmp .eq (6), 487) else none)) else (bif Nat.beq pc 479 then some (.iload 15, 0) else none)) else (bif Nat.ble 478 pc then (bif Nat.beq pc 478 then some (.iaload, 0) else none) else (bif Nat.beq pc 477 then some (.iadd, 0) else none))))))) else (bif Nat.ble 393 pc then (bif Nat.ble 434 pc then (bif Nat.ble 455 pc then (bif Nat.ble 465 pc then (bif Nat.ble 471 pc then (bif Nat.ble 473 pc then (bif Nat.ble 475 pc then (bif Nat.beq pc 475 then some (.iload 16, 0) else none) else (bif Nat.beq pc 473 then some (.bipush (16), 0) else none)) else (bif Nat.beq pc 471 then some (.aload 7, 0) else none)) else (bif Nat.ble 467 pc then (bif Nat.ble 468 pc then (bif Nat.beq pc 468 then some (.if_icmp .ge (54), 522) else none) else (bif Nat.beq pc 467 then some (.iconst (2), 0) else none)) else (bif Nat.beq pc 465 then some (.iload 16, 0) else none))) else (bif Nat.ble 459 pc then (bif Nat.ble 462 pc then (bif Nat.ble 463 pc then (bif Nat.beq pc 463 then some (.istore 16, 0) else none) else (bif Nat.beq pc 462 then some (.iconst (0), 0) else none)) else (bif Nat.beq pc 459 then some (.if_icmp .ge (232), 691) else none)) else (bif Nat.ble 457 pc then (bif Nat.beq pc 457 then some (.bipush (60), 0) else none) else (bif Nat.beq pc 455 then some (.iload 15, 0) else none)))) else (bif Nat.ble 444 pc then (bif Nat.ble 450 pc then (bif Nat.ble 452 pc then (bif Nat.ble 453 pc then (bif Nat.beq pc 453 then some (.istore 15, 0) else none) else (bif Nat.beq pc 452 then some (.iconst (0), 0) else none)) else (bif Nat.beq pc 450 then some (.astore 14, 0) else none)) else (bif Nat.ble 446 pc then (bif Nat.ble 448 pc then (bif Nat.beq pc 448 then some (.newarray .int, 0) else none) else (bif Nat.beq pc 446 then some (.bipush (6), 0) else none)) else (bif Nat.beq pc 444 then some (.astore 13, 0) else none))) else (bif Nat.ble 438 pc then (bif Nat.ble 440 pc then (bif Nat.ble 442 pc then (bif Nat.beq pc 442 then some (.newarray .int, 0) else none) else (bif Nat.beq pc 440 then some (.bipush (6), 0) else none)) else (bif Nat.beq pc 438 then some (.istore 12, 0) else none)) else (bif Nat.ble 437 pc then (bif Nat.beq pc 437 then some (.iadd, 0) else none) else (bif Nat.beq pc 434 then some (.invokestatic 35, 92) else none))))) else (bif Nat.ble 412 pc then (bif Nat.ble 421 pc then (bif Nat.ble 427 pc then (bif Nat.ble 429 pc then (bif Nat.ble 432 pc then (bif Nat.beq pc 432 then some (.bipush (45), 0) else none) else (bif Nat.beq pc 429 then some (.invokestatic 29, 91) else none)) else (bif Nat.beq pc 427 then some (.bipush (17), 0) else none)) else (bif Nat.ble 424 pc then (bif Nat.ble 426 pc then (bif Nat.beq pc 426 then some (.aload_n 0, 0) else none) else (bif Nat.beq pc 424 then some (.bipush (10), 0) else none)) else (bif Nat.beq pc 421 then some (.goto (-15), 406) else none))) else (bif Nat.ble 416 pc then (bif Nat.ble 417 pc then (bif Nat.ble 418 pc then (bif Nat.beq pc 418 then some (.iinc 12 (1), 0) else none) else (bif Nat.beq pc 417 then some (.iastore, 0) else none)) else (bif Nat.beq pc 416 then some (.iconst (-1), 0) else none)) else (bif Nat.ble 414 pc then (bif Nat.beq pc 414 then some (.iload 12, 0) else none) else (bif Nat.beq pc 412 then some (.aload 11, 0) else none)))) else (bif Nat.ble 403 pc then (bif Nat.ble 406 pc then (bif Nat.ble 408 pc then (bif Nat.ble 409 pc then (bif Nat.beq pc 409 then some (.if_icmp .ge (15), 424) else none) else (bif Nat.beq pc 408 then some (.iload_n 2, 0) else none)) else (bif Nat.beq pc 406 then some (.iload 12, 0) else none)) else (bif Nat.ble 404 pc then (bif Nat.beq pc 404 then some (.istore 12, 0) else none) else (bif Nat.beq pc 403 then some (.iconst (0), 0) else none))) else (bif Nat.ble 397 pc then (bif Nat.ble 399 pc then (bif Nat.ble 401 pc then (bif Nat.beq pc 401 then some (.astore 11, 0) else none) else (bif Nat.beq pc 399 then some (.newarray .int, 0) else none)) else (bif Nat.beq pc 397 then some (.bipush (6), 0) else none)) else (bif Nat.ble 395 pc then (bif Nat.beq pc 395 then some (.astore 10, 0) else none) else (bif Nat.beq pc 393 then some (.newarray .int, 0) else none)))))) else (bif Nat.ble 351 pc then (bif Nat.ble 370 pc then (bif Nat.ble 379 pc then (bif Nat.ble 387 pc then (bif Nat.ble 389 pc then (bif Nat.ble 391 pc then (bif Nat.beq pc 391 then some (.bipush (6), 0) else none) else (bif Nat.beq pc 389 then some (.astore 9, 0) else none)) else (bif Nat.beq pc 387 then some (.newarray .int, 0) else none)) else (bif Nat.ble 382 pc then (bif Nat.ble 385 pc then (bif Nat.beq pc 385 then some (.bipush (6), 0) else none) else (bif Nat.beq pc 382 then some (.goto (-85), 297) else none)) else (bif Nat.beq pc 379 then some (.iinc 9 (1), 0) else none))) else (bif Nat.ble 374 pc then (bif Nat.ble 377 pc then (bif Nat.ble 378 pc then (bif Nat.beq pc 378 then some (.istore_n 3, 0) else none) else (bif Nat.beq pc 377 then some (.iconst (0), 0) else none)) else (bif Nat.beq pc 374 then some (.goto (4), 378) else none)) else (bif Nat.ble 373 pc then (bif Nat.beq pc 373 then some (.iconst (1), 0) else none) else (bif Nat.beq pc 370 then some (.if_icmp .ne (7), 377) else none)))) else (bif Nat.ble 359 pc then (bif Nat.ble 364 pc then (bif Nat.ble 365 pc then (bif Nat.ble 368 pc then (bif Nat.beq pc 368 then some (.iload 9, 0) else none) else (bif Nat.beq pc 365 then some (.invokevirtual 61, 80) else none)) else (bif Nat.beq pc 364 then some (.iaload, 0) else none)) else (bif Nat.ble 361 pc then (bif Nat.ble 363 pc then (bif Nat.beq pc 363 then some (.iadd, 0) else none) else (bif Nat.beq pc 361 then some (.iload 9, 0) else none)) else (bif Nat.beq pc 359 then some (.bipush (16), 0) else none))) else (bif Nat.ble 355 pc then (bif Nat.ble 356 pc then (bif Nat.ble 357 pc then (bif Nat.beq pc 357 then some (.aload 7, 0) else none) else (bif Nat.beq pc 356 then some (.iconst (0), 0) else none)) else (bif Nat.beq pc 355 then some (.iaload, 0) else none)) else (bif Nat.ble 353 pc then (bif Nat.beq pc 353 then some (.iload 9, 0) else none) else (bif Nat.beq pc 351 then some (.aload 8, 0) else none))))) else (bif Nat.ble 331 pc then (bif Nat.ble 340 pc then (bif Nat.ble 346 pc then (bif Nat.ble 347 pc then (bif Nat.ble 350 pc then (bif Nat.beq pc 350 then some (.aload_n 1, 0) else none) else (bif Nat.beq pc 347 then some (.ifCond .eq (30), 377) else none)) else (bif Nat.beq pc 346 then some (.iload_n 3, 0) else none)) else (bif Nat.ble 342 pc then (bif Nat.ble 345 pc then (bif Nat.beq pc 345 then some (.iastore, 0) else none) else (bif Nat.beq pc 342 then some (.invokestatic 35, 92) else none)) else (bif Nat.beq pc 340 then some (.bipush (40), 0) else none))) else (bif Nat.ble 334 pc then (bif Nat.ble 337 pc then (bif Nat.ble 339 pc then (bif Nat.beq pc 339 then some (.ishr, 0) else none) else (bif Nat.beq pc 337 then some (.bipush (8), 0) else none)) else (bif Nat.beq pc 334 then some (.invokestatic 29, 91) else none)) else (bif Nat.ble 333 pc then (bif Nat.beq pc 333 then some (.iadd, 0) else none) else (bif Nat.beq pc 331 then some (.iload 9, 0) else none)))) else (bif Nat.ble 323 pc then (bif Nat.ble 327 pc then (bif Nat.ble 328 pc then (bif Nat.ble 329 pc then (bif Nat.beq pc 329 then some (.bipush (15), 0) else none) else (bif Nat.beq pc 328 then some (.aload_n 0, 0) else none)) else (bif Nat.beq pc 327 then some (.iadd, 0) else none)) else (bif Nat.ble 325 pc then (bif Nat.beq pc 325 then some (.iload 9, 0) else none) else (bif Nat.beq pc 323 then some (.bipush (16), 0) else none))) else (bif Nat.ble 317 pc then (bif Nat.ble 320 pc then (bif Nat.ble 321 pc then (bif Nat.beq pc 321 then some (.aload 7, 0) else none) else (bif Nat.beq pc 320 then some (.iastore, 0) else none)) else (bif Nat.beq pc 317 then some (.invokestatic 35, 92) else none)) else (bif Nat.ble 316 pc then (bif Nat.beq pc 316 then some (.iload_n 2, 0) else none) else (bif Nat.beq pc 313 then some (.invokestatic 29, 91) else none)))))))) else (bif Nat.ble 164 pc then (bif Nat.ble 235 pc then (bif Nat.ble 272 pc then (bif Nat.ble 294 pc then (bif Nat.ble 303 pc then (bif Nat.ble 308 pc then (bif Nat.ble 310 pc then (bif Nat.ble 312 pc then (bif Nat.beq pc 312 then some (.iadd, 0) else none) else (bif Nat.beq pc 310 then some (.iload 9, 0) else none)) else (bif Nat.beq pc 308 then some (.bipush (15), 0) else none)) else (bif Nat.ble 305 pc then (bif Nat.ble 307 pc then (bif Nat.beq pc 307 then some (.aload_n 0, 0) else none) else (bif Nat.beq pc 305 then some (.iload 9, 0) else none)) else (bif Nat.beq pc 303 then some (.aload 8, 0) else none))) else (bif Nat.ble 297 pc then (bif Nat.ble 299 pc then (bif Nat.ble 300 pc then (bif Nat.beq pc 300 then some (.if_icmp .ge (85), 385) else none) else (bif Nat.beq pc 299 then some (.iconst (2), 0) else none)) else (bif Nat.beq pc 297 then some (.iload 9, 0) else none)) else (bif Nat.ble 295 pc then (bif Nat.beq pc 295 then some (.istore 9, 0) else none) else (bif Nat.beq pc 294 then some (.iconst (0), 0) else none)))) else (bif Nat.ble 282 pc then (bif Nat.ble 289 pc then (bif Nat.ble 290 pc then (bif Nat.ble 292 pc then (bif Nat.beq pc 292 then some (.astore 8, 0) else none) else (bif Nat.beq pc 290 then some (.newarray .int, 0) else none)) else (bif Nat.beq pc 289 then some (.iconst (2), 0) else none)) else (bif Nat.ble 283 pc then (bif Nat.ble 286 pc then (bif Nat.beq pc 286 then some (.goto (-167), 119) else none) else (bif Nat.beq pc 283 then some (.iinc 8 (1), 0) else none)) else (bif Nat.beq pc 282 then some (.istore_n 3, 0) else none))) else (bif Nat.ble 277 pc then (bif Nat.ble 278 pc then (bif Nat.ble 281 pc then (bif Nat.beq pc 281 then some (.iconst (0), 0) else none) else (bif Nat.beq pc 278 then some (.goto (4), 282) else none)) else (bif Nat.beq pc 277 then some (.iconst (1), 0) else none)) else (bif Nat.ble 274 pc then (bif Nat.beq pc 274 then some (.if_icmp .ne (7), 281) else none) else (bif Nat.beq pc 272 then some (.iload 8, 0) else none))))) else (bif Nat.ble 253 pc then (bif Nat.ble 262 pc then (bif Nat.ble 267 pc then (bif Nat.ble 268 pc then (bif Nat.ble 269 pc then (bif Nat.beq pc 269 then some (.invokevirtual 57, 79) else none) else (bif Nat.beq pc 268 then some (.iconst (1), 0) else none)) else (bif Nat.beq pc 267 then some (.iaload, 0) else none)) else (bif Nat.ble 263 pc then (bif Nat.ble 265 pc then (bif Nat.beq pc 265 then some (.iload 8, 0) else none) else (bif Nat.beq pc 263 then some (.aload 7, 0) else none)) else (bif Nat.beq pc 262 then some (.iaload, 0) else none))) else (bif Nat.ble 257 pc then (bif Nat.ble 258 pc then (bif Nat.ble 260 pc then (bif Nat.beq pc 260 then some (.iload 8, 0) else none) else (bif Nat.beq pc 258 then some (.aload 6, 0) else none)) else (bif Nat.beq pc 257 then some (.iaload, 0) else none)) else (bif Nat.ble 255 pc then (bif Nat.beq pc 255 then some (.iload 8, 0) else none) else (bif Nat.beq pc 253 then some (.aload 5, 0) else none)))) else (bif Nat.ble 243 pc then (bif Nat.ble 248 pc then (bif Nat.ble 250 pc then (bif Nat.ble 252 pc then (bif Nat.beq pc 252 then some (.iaload, 0) else none) else (bif Nat.beq pc 250 then some (.iload 8, 0) else none)) else (bif Nat.beq pc 248 then some (.aload 4, 0) else none)) else (bif Nat.ble 244 pc then (bif Nat.ble 247 pc then (bif Nat.beq pc 247 then some (.aload_n 1, 0) else none) else (bif Nat.beq pc 244 then some (.ifCond .eq (37), 281) else none)) else (bif Nat.beq pc 243 then some (.iload_n 3, 0) else none))) else (bif Nat.ble 238 pc then (bif Nat.ble 241 pc then (bif Nat.ble 242 pc then (bif Nat.beq pc 242 then some (.iastore, 0) else none) else (bif Nat.beq pc 241 then some (.iadd, 0) else none)) else (bif Nat.beq pc 238 then some (.invokestatic 35, 92) else none)) else (bif Nat.ble 236 pc then (bif Nat.beq pc 236 then some (.bipush (40), 0) else none) else (bif Nat.beq pc 235 then some (.ishr, 0) else none)))))) else (bif Nat.ble 200 pc then (bif Nat.ble 217 pc then (bif Nat.ble 224 pc then (bif Nat.ble 229 pc then (bif Nat.ble 231 pc then (bif Nat.ble 233 pc then (bif Nat.beq pc 233 then some (.bipush (12), 0) else none) else (bif Nat.beq pc 231 then some (.iload 9, 0) else none)) else (bif Nat.beq pc 229 then some (.bipush (10), 0) else none)) else (bif Nat.ble 225 pc then (bif Nat.ble 227 pc then (bif Nat.beq pc 227 then some (.iload 8, 0) else none) else (bif Nat.beq pc 225 then some (.aload 7, 0) else none)) else (bif Nat.beq pc 224 then some (.iastore, 0) else none))) else (bif Nat.ble 221 pc then (bif Nat.ble 222 pc then (bif Nat.ble 223 pc then (bif Nat.beq pc 223 then some (.irem, 0) else none) else (bif Nat.beq pc 222 then some (.iload_n 2, 0) else none)) else (bif Nat.beq pc 221 then some (.iadd, 0) else none)) else (bif Nat.ble 218 pc then (bif Nat.beq pc 218 then some (.invokestatic 35, 92) else none) else (bif Nat.beq pc 217 then some (.isub, 0) else none)))) else (bif Nat.ble 209 pc then (bif Nat.ble 214 pc then (bif Nat.ble 215 pc then (bif Nat.ble 216 pc then (bif Nat.beq pc 216 then some (.iconst (1), 0) else none) else (bif Nat.beq pc 215 then some (.iload_n 2, 0) else none)) else (bif Nat.beq pc 214 then some (.ishr, 0) else none)) else (bif Nat.ble 210 pc then (bif Nat.ble 212 pc then (bif Nat.beq pc 212 then some (.bipush (8), 0) else none) else (bif Nat.beq pc 210 then some (.iload 9, 0) else none)) else (bif Nat.beq pc 209 then some (.iadd, 0) else none))) else (bif Nat.ble 205 pc then (bif Nat.ble 207 pc then (bif Nat.ble 208 pc then (bif Nat.beq pc 208 then some (.iconst (1), 0) else none) else (bif Nat.beq pc 207 then some (.iaload, 0) else none)) else (bif Nat.beq pc 205 then some (.iload 8, 0) else none)) else (bif Nat.ble 203 pc then (bif Nat.beq pc 203 then some (.aload 5, 0) else none) else (bif Nat.beq pc 200 then some (.goto (24), 224) else none))))) else (bif Nat.ble 181 pc then (bif Nat.ble 190 pc then (bif Nat.ble 195 pc then (bif Nat.ble 196 pc then (bif Nat.ble 199 pc then (bif Nat.beq pc 199 then some (.iconst (-1), 0) else none) else (bif Nat.beq pc 196 then some (.if_icmp .ne (7), 203) else none)) else (bif Nat.beq pc 195 then some (.iconst (2), 0) else none)) else (bif Nat.ble 192 pc then (bif Nat.ble 194 pc then (bif Nat.beq pc 194 then some (.iaload, 0) else none) else (bif Nat.beq pc 192 then some (.iload 8, 0) else none)) else (bif Nat.beq pc 190 then some (.aload 4, 0) else none))) else (bif Nat.ble 185 pc then (bif Nat.ble 186 pc then (bif Nat.ble 188 pc then (bif Nat.beq pc 188 then some (.iload 8, 0) else none) else (bif Nat.beq pc 186 then some (.aload 6, 0) else none)) else (bif Nat.beq pc 185 then some (.iastore, 0) else none)) else (bif Nat.ble 182 pc then (bif Nat.beq pc 182 then some (.invokestatic 35, 92) else none) else (bif Nat.beq pc 181 then some (.iload_n 2, 0) else none)))) else (bif Nat.ble 173 pc then (bif Nat.ble 177 pc then (bif Nat.ble 179 pc then (bif Nat.ble 180 pc then (bif Nat.beq pc 180 then some (.ishr, 0) else none) else (bif Nat.beq pc 179 then some (.iconst (4), 0) else none)) else (bif Nat.beq pc 177 then some (.iload 9, 0) else none)) else (bif Nat.ble 175 pc then (bif Nat.beq pc 175 then some (.iload 8, 0) else none) else (bif Nat.beq pc 173 then some (.aload 5, 0) else none))) else (bif Nat.ble 168 pc then (bif Nat.ble 171 pc then (bif Nat.ble 172 pc then (bif Nat.beq pc 172 then some (.iastore, 0) else none) else (bif Nat.beq pc 171 then some (.iconst (2), 0) else none)) else (bif Nat.beq pc 168 then some (.goto (4), 172) else none)) else (bif Nat.ble 167 pc then (bif Nat.beq pc 167 then some (.iconst (1), 0) else none) else (bif Nat.beq pc 164 then some (.if_icmp .ge (7), 171) else none))))))) else (bif Nat.ble 77 pc then (bif Nat.ble 119 pc then (bif Nat.ble 140 pc then (bif Nat.ble 151 pc then (bif Nat.ble 157 pc then (bif Nat.ble 159 pc then (bif Nat.ble 162 pc then (bif Nat.beq pc 162 then some (.bipush (7), 0) else none) else (bif Nat.beq pc 159 then some (.invokestatic 35, 92) else none)) else (bif Nat.beq pc 157 then some (.bipush (8), 0) else none)) else (bif Nat.ble 152 pc then (bif Nat.ble 155 pc then (bif Nat.beq pc 155 then some (.iload 9, 0) else none) else (bif Nat.beq pc 152 then some (.goto (20), 172) else none)) else (bif Nat.beq pc 151 then some (.iconst (0), 0) else none))) else (bif Nat.ble 144 pc then (bif Nat.ble 147 pc then (bif Nat.ble 148 pc then (bif Nat.beq pc 148 then some (.if_icmp .ge (7), 155) else none) else (bif Nat.beq pc 147 then some (.iconst (5), 0) else none)) else (bif Nat.beq pc 144 then some (.invokestatic 35, 92) else none)) else (bif Nat.ble 142 pc then (bif Nat.beq pc 142 then some (.bipush (8), 0) else none) else (bif Nat.beq pc 140 then some (.iload 9, 0) else none)))) else (bif Nat.ble 128 pc then (bif Nat.ble 134 pc then (bif Nat.ble 136 pc then (bif Nat.ble 138 pc then (bif Nat.beq pc 138 then some (.iload 8, 0) else none) else (bif Nat.beq pc 136 then some (.aload 4, 0) else none)) else (bif Nat.beq pc 134 then some (.istore 9, 0) else none)) else (bif Nat.ble 130 pc then (bif Nat.ble 131 pc then (bif Nat.beq pc 131 then some (.invokestatic 29, 91) else none) else (bif Nat.beq pc 130 then some (.iadd, 0) else none)) else (bif Nat.beq pc 128 then some (.iload 8, 0) else none))) else (bif Nat.ble 123 pc then (bif Nat.ble 126 pc then (bif Nat.ble 127 pc then (bif Nat.beq pc 127 then some (.iconst (1), 0) else none) else (bif Nat.beq pc 126 then some (.aload_n 0, 0) else none)) else (bif Nat.beq pc 123 then some (.if_icmp .ge (166), 289) else none)) else (bif Nat.ble 121 pc then (bif Nat.beq pc 121 then some (.bipush (14), 0) else none) else (bif Nat.beq pc 119 then some (.iload 8, 0) else none))))) else (bif Nat.ble 98 pc then (bif Nat.ble 108 pc then (bif Nat.ble 114 pc then (bif Nat.ble 116 pc then (bif Nat.ble 117 pc then (bif Nat.beq pc 117 then some (.istore 8, 0) else none) else (bif Nat.beq pc 116 then some (.iconst (0), 0) else none)) else (bif Nat.beq pc 114 then some (.astore 7, 0) else none)) else (bif Nat.ble 110 pc then (bif Nat.ble 112 pc then (bif Nat.beq pc 112 then some (.newarray .int, 0) else none) else (bif Nat.beq pc 110 then some (.bipush (18), 0) else none)) else (bif Nat.beq pc 108 then some (.astore 6, 0) else none))) else (bif Nat.ble 102 pc then (bif Nat.ble 104 pc then (bif Nat.ble 106 pc then (bif Nat.beq pc 106 then some (.newarray .int, 0) else none) else (bif Nat.beq pc 104 then some (.bipush (16), 0) else none)) else (bif Nat.beq pc 102 then some (.astore 5, 0) else none)) else (bif Nat.ble 100 pc then (bif Nat.beq pc 100 then some (.newarray .int, 0) else none) else (bif Nat.beq pc 98 then some (.bipush (16), 0) else none)))) else (bif Nat.ble 86 pc then (bif Nat.ble 92 pc then (bif Nat.ble 94 pc then (bif Nat.ble 96 pc then (bif Nat.beq pc 96 then some (.astore 4, 0) else none) else (bif Nat.beq pc 94 then some (.newarray .int, 0) else none)) else (bif Nat.beq pc 92 then some (.bipush (16), 0) else none)) else (bif Nat.ble 89 pc then (bif Nat.beq pc 89 then some (.goto (-29), 60) else none) else (bif Nat.beq pc 86 then some (.iinc 4 (1), 0) else none))) else (bif Nat.ble 81 pc then (bif Nat.ble 84 pc then (bif Nat.ble 85 pc then (bif Nat.beq pc 85 then some (.istore_n 3, 0) else none) else (bif Nat.beq pc 84 then some (.iconst (0), 0) else none)) else (bif Nat.beq pc 81 then some (.goto (4), 85) else none)) else (bif Nat.ble 80 pc then (bif Nat.beq pc 80 then some (.iconst (1), 0) else none) else (bif Nat.beq pc 77 then some (.if_icmp .ne (7), 84) else none)))))) else (bif Nat.ble 34 pc then (bif Nat.ble 57 pc then (bif Nat.ble 66 pc then (bif Nat.ble 71 pc then (bif Nat.ble 72 pc then (bif Nat.ble 75 pc then (bif Nat.beq pc 75 then some (.iload 4, 0) else none) else (bif Nat.beq pc 72 then some (.invokevirtual 53, 78) else none)) else (bif Nat.beq pc 71 then some (.iconst (0), 0) else none)) else (bif Nat.ble 67 pc then (bif Nat.ble 70 pc then (bif Nat.beq pc 70 then some (.aload_n 1, 0) else none) else (bif Nat.beq pc 67 then some (.ifCond .eq (17), 84) else none)) else (bif Nat.beq pc 66 then some (.iload_n 3, 0) else none))) else (bif Nat.ble 60 pc then (bif Nat.ble 62 pc then (bif Nat.ble 63 pc then (bif Nat.beq pc 63 then some (.if_icmp .ge (29), 92) else none) else (bif Nat.beq pc 62 then some (.iload_n 2, 0) else none)) else (bif Nat.beq pc 60 then some (.iload 4, 0) else none)) else (bif Nat.ble 58 pc then (bif Nat.beq pc 58 then some (.istore 4, 0) else none) else (bif Nat.beq pc 57 then some (.iconst (0), 0) else none)))) else (bif Nat.ble 45 pc then (bif Nat.ble 52 pc then (bif Nat.ble 55 pc then (bif Nat.ble 56 pc then (bif Nat.beq pc 56 then some (.istore_n 3, 0) else none) else (bif Nat.beq pc 55 then some (.iconst (0), 0) else none)) else (bif Nat.beq pc 52 then some (.goto (4), 56) else none)) else (bif Nat.ble 48 pc then (bif Nat.ble 51 pc then (bif Nat.beq pc 51 then some (.iconst (1), 0) else none) else (bif Nat.beq pc 48 then some (.ifCond .eq (7), 55) else none)) else (bif Nat.beq pc 45 then some (.invokevirtual 49, 74) else none))) else (bif Nat.ble 38 pc then (bif Nat.ble 41 pc then (bif Nat.ble 42 pc then (bif Nat.beq pc 42 then some (.sipush (9000), 0) else none) else (bif Nat.beq pc 41 then some (.aload_n 1, 0) else none)) else (bif Nat.beq pc 38 then some (.if_icmp .ne (17), 55) else none)) else (bif Nat.ble 37 pc then (bif Nat.beq pc 37 then some (.iconst (3), 0) else none) else (bif Nat.beq pc 34 then some (.invokevirtual 45, 77) else none))))) else (bif Nat.ble 18 pc then (bif Nat.ble 23 pc then (bif Nat.ble 31 pc then (bif Nat.ble 32 pc then (bif Nat.ble 33 pc then (bif Nat.beq pc 33 then some (.iconst (0), 0) else none) else (bif Nat.beq pc 32 then some (.iconst (0), 0) else none)) else (bif Nat.beq pc 31 then some (.aload_n 1, 0) else none)) else (bif Nat.ble 25 pc then (bif Nat.ble 28 pc then (bif Nat.beq pc 28 then some (.ifCond .ne (27), 55) else none) else (bif Nat.beq pc 25 then some (.invokestatic 41, 93) else none)) else (bif Nat.beq pc 23 then some (.ldc 39, 100001) else none))) else (bif Nat.ble 20 pc then (bif Nat.ble 21 pc then (bif Nat.ble 22 pc then (bif Nat.beq pc 22 then some (.iconst (0), 0) else none) else (bif Nat.beq pc 21 then some (.iconst (0), 0) else none)) else (bif Nat.beq pc 20 then some (.aload_n 1, 0) else none)) else (bif Nat.ble 19 pc then (bif Nat.beq pc 19 then some (.istore_n 2, 0) else none) else (bif Nat.beq pc 18 then some (.iadd, 0) else none)))) else (bif Nat.ble 9 pc then (bif Nat.ble 11 pc then (bif Nat.ble 14 pc then (bif Nat.ble 15 pc then (bif Nat.beq pc 15 then some (.invokestatic 35, 92) else none) else (bif Nat.beq pc 14 then some (.iconst (5), 0) else none)) else (bif Nat.beq pc 11 then some (.invokestatic 29, 91) else none)) else (bif Nat.ble 10 pc then (bif Nat.beq pc 10 then some (.iconst (0), 0) else none) else (bif Nat.beq pc 9 then some (.aload_n 0, 0) else none))) else (bif Nat.ble 4 pc then (bif Nat.ble 7 pc then (bif Nat.ble 8 pc then (bif Nat.beq pc 8 then some (.iconst (2), 0) else none) else (bif Nat.beq pc 7 then some (.astore_n 1, 0) else none)) else (bif Nat.beq pc 4 then some (.invokespecial 28, 73) else none)) else (bif Nat.ble 3 pc then (bif Nat.beq pc 3 then some (.dup, 0) else none) else (bif Nat.beq pc 0 then some (.new 19, 11) else none))))))))))
def am_fet (m pc : Nat) : Option (Instr × Nat) := bif Nat.ble 96 m then none else (bif Nat.ble 48 m then (bif Nat.ble 72 m then (bif Nat.ble 84 m then (bif Nat.ble 90 m then (bif Nat.ble 93 m then (bif Nat.ble 94 m then (bif Nat.ble 95 m then am_f95 pc else am_f94 pc) else am_f93 pc) else (bif Nat.ble 91 m then (bif Nat.ble 92 m then am_f92 pc else am_f91 pc) else am_f90 pc)) else (bif Nat.ble 87 m then (bif Nat.ble 88 m then (bif Nat.ble 89 m then am_f89 pc else am_f88 pc) else am_f87 pc) else (bif Nat.ble 85 m then (bif Nat.ble 86 m then am_f86 pc else am_f85 pc) else am_f84 pc))) else (bif Nat.ble 78 m then (bif Nat.ble 81 m then (bif Nat.ble 82 m then (bif Nat.ble 83 m then am_f83 pc else am_f82 pc) else am_f81 pc) else (bif Nat.ble 79 m then (bif Nat.ble 80 m then am_f80 pc else am_f79 pc) else am_f78 pc)) else (bif Nat.ble 75 m then (bif Nat.ble 76 m then (bif Nat.ble 77 m then am_f77 pc else am_f76 pc) else am_f75 pc) else (bif Nat.ble 73 m then (bif Nat.ble 74 m then am_f74 pc else am_f73 pc) else am_f72 pc)))) else (bif Nat.ble 60 m then (bif Nat.ble 66 m then (bif Nat.ble 69 m then (bif Nat.ble 70 m then (bif Nat.ble 71 m then am_f71 pc else am_f70 pc) else am_f69 pc) else (bif Nat.ble 67 m then (bif Nat.ble 68 m then am_f68 pc else am_f67 pc) else am_f66 pc)) else (bif Nat.ble 63 m then (bif Nat.ble 64 m then (bif Nat.ble 65 m then am_f65 pc else am_f64 pc) else am_f63 pc) else (bif Nat.ble 61 m then (bif Nat.ble 62 m then am_f62 pc else am_f61 pc) else am_f60 pc))) else (bif Nat.ble 54 m then (bif Nat.ble 57 m then (bif Nat.ble 58 m then (bif Nat.ble 59 m then am_f59 pc else am_f58 pc) else am_f57 pc) else (bif Nat.ble 55 m then (bif Nat.ble 56 m then am_f56 pc else am_f55 pc) else am_f54 pc)) else (bif Nat.ble 51 m then (bif Nat.ble 52 m then (bif Nat.ble 53 m then am_f53 pc else am_f52 pc) else am_f51 pc) else (bif Nat.ble 49 m then (bif Nat.ble 50 m then am_f50 pc else am_f49 pc) else am_f48 pc))))) else (bif Nat.ble 24 m then (bif Nat.ble 36 m then (bif Nat.ble 42 m then (bif Nat.ble 45 m then (bif Nat.ble 46 m then (bif Nat.ble 47 m then am_f47 pc else am_f46 pc) else am_f45 pc) else (bif Nat.ble 43 m then (bif Nat.ble 44 m then am_f44 pc else am_f43 pc) else am_f42 pc)) else (bif Nat.ble 39 m then (bif Nat.ble 40 m then (bif Nat.ble 41 m then am_f41 pc else am_f40 pc) else am_f39 pc) else (bif Nat.ble 37 m then (bif Nat.ble 38 m then am_f38 pc else am_f37 pc) else am_f36 pc))) else (bif Nat.ble 30 m then (bif Nat.ble 33 m then (bif Nat.ble 34 m then (bif Nat.ble 35 m then am_f35 pc else am_f34 pc) else am_f33 pc) else (bif Nat.ble 31 m then (bif Nat.ble 32 m then am_f32 pc else am_f31 pc) else am_f30 pc)) else (bif Nat.ble 27 m then (bif Nat.ble 28 m then (bif Nat.ble 29 m then am_f29 pc else am_f28 pc) else am_f27 pc) else (bif Nat.ble 25 m then (bif Nat.ble 26 m then am_f26 pc else am_f25 pc) else am_f24 pc)))) else (bif Nat.ble 12 m then (bif Nat.ble 18 m then (bif Nat.ble 21 m then (bif Nat.ble 22 m then (bif Nat.ble 23 m then am_f23 pc else am_f22 pc) else am_f21 pc) else (bif Nat.ble 19 m then (bif Nat.ble 20 m then am_f20 pc else am_f19 pc) else am_f18 pc)) else (bif Nat.ble 15 m then (bif Nat.ble 16 m then (bif Nat.ble 17 m then am_f17 pc else am_f16 pc) else am_f15 pc) else (bif Nat.ble 13 m then (bif Nat.ble 14 m then am_f14 pc else am_f13 pc) else am_f12 pc))) else (bif Nat.ble 6 m then (bif Nat.ble 9 m then (bif Nat.ble 10 m then (bif Nat.ble 11 m then am_f11 pc else am_f10 pc) else am_f9 pc) else (bif Nat.ble 7 m then (bif Nat.ble 8 m then am_f8 pc else am_f7 pc) else am_f6 pc)) else (bif Nat.ble 3 m then (bif Nat.ble 4 m then (bif Nat.ble 5 m then am_f5 pc else am_f4 pc) else am_f3 pc) else (bif Nat.ble 1 m then (bif Nat.ble 2 m then am_f2 pc else am_f1 pc) else am_f0 pc))))))
end
section
/-! THE ABSTRACT MACHINE: a reference is a PLACE (the number of a cell in the order in which cells were made); memory: place, slot, number; shape: kind (0 int, 1 boolean, 2 byte array, 3 + c an object of class c), length, reference slots (0 a number, 1 null, a + 2 the place a). -/
abbrev am_Sh : Type := List (Nat × Nat × List Nat)
abbrev am_Mu : Type := Nat → Nat → Int32
/-- what a method knows of the cells that were there before: nothing; the text; the text and the script -/
abbrev am_Scr : Type := Option (Option (Nat × (Nat → Int32)))
def am_sub : am_Scr → am_Scr
  | none => none
  | some _ => some none
abbrev am_Out : Type := Option Value × am_Sh × am_Mu
abbrev am_K : Type := Nat → Nat → Nat → List Value → List Value → am_Sh → am_Mu → Option am_Out
def am_up (μ : am_Mu) (k i : Nat) (x : Int32) : am_Mu := fun a b => if a = k ∧ b = i then x else μ a b
def am_row (μ : am_Mu) (k : Nat) (f : Nat → Int32) : am_Mu := fun a => if a = k then f else μ a
def am_M0 : Nat × String × String × Nat × Nat × Bool × Option FieldType := (0, "", "", 0, 0, false, none)
def am_ow (m : Nat) : Nat := (am_M.getD m am_M0).1
def am_yq (m : Nat) : MethodName := ⟨am_RC (am_M.getD m am_M0).1, (am_M.getD m am_M0).2.1, (am_M.getD m am_M0).2.2.1⟩
def am_nl (m : Nat) : Nat := (am_M.getD m am_M0).2.2.2.1
def am_na (m : Nat) : Nat := (am_M.getD m am_M0).2.2.2.2.1
def am_st (m : Nat) : Bool := (am_M.getD m am_M0).2.2.2.2.2.1
def am_rt (m : Nat) : Option FieldType := (am_M.getD m am_M0).2.2.2.2.2.2
def am_at (p : Nat) : Option Cond := bif Nat.blt p 1000 then (k2_sels lw_privs)[p]? else
  bif Nat.blt p 2000 then tables_1_1[p - 1000]? else
  bif Nat.blt p 3000 then tables_1_2[p - 2000]? else
  bif Nat.blt p 4000 then tables_1_3[p - 3000]? else
  bif Nat.blt p 5000 then tables_1_4[p - 4000]? else
  none
theorem am_cond {b : Bool} {x y : Option Cond} {w : Cond} (h : (bif b then x else y) = some w) : x = some w ∨ y = some w := by
  cases b
  · exact Or.inr h
  · exact Or.inl h
theorem am_at_mem {p : Nat} {w : Cond} (h : am_at p = some w) : w ∈ lw_tbl := by
  have hl : ∀ (l : List Cond) (k : Nat), l[k]? = some w → w ∈ l := fun l k e => List.mem_of_getElem? e
  unfold lw_tbl tables_1
  simp only [List.mem_append]
  unfold am_at at h
  rcases am_cond h with h | h
  · exact Or.inl (hl _ _ h)
  rcases am_cond h with h | h
  · exact Or.inr (Or.inl (hl _ _ h))
  rcases am_cond h with h | h
  · exact Or.inr (Or.inr (Or.inl (hl _ _ h)))
  rcases am_cond h with h | h
  · exact Or.inr (Or.inr (Or.inr (Or.inl (hl _ _ h))))
  rcases am_cond h with h | h
  · exact Or.inr (Or.inr (Or.inr (Or.inr (hl _ _ h))))
  cases h
def am_codeAt : Option Cond → ByteArray
  | some (.code _ b _ _) => b
  | _ => code
def am_cod (m : Nat) : ByteArray := am_codeAt (am_at (am_MP.getD m (0, 0, 0)).1)
/-- the words that any method may take along -/
def am_tbl : List Cond := lw_tbl.filter goodWord
def am_in (k : Nat) (w : Cond) : Bool := decide (am_at k = some w) && goodWord w
def am_inN (k : Nat) (w : Cond) : Bool := decide (am_at k = some w)
theorem am_in_mem {k : Nat} {w : Cond} (h : am_in k w = true) : w ∈ am_tbl := by
  simp only [am_in, Bool.and_eq_true, decide_eq_true_eq] at h
  exact List.mem_filter.mpr ⟨am_at_mem h.1, h.2⟩
def am_inC (k : Nat) (y : MethodName) (n : Nat) (r : Option FieldType) : Bool := match am_at k with
  | some (.code y' _ n' r') => decide (y' = y) && (Nat.beq n' n && decide (r' = r))
  | _ => false
theorem am_inC_mem {k : Nat} {y : MethodName} {n : Nat} {r : Option FieldType} (h : am_inC k y n r = true) : Cond.code y (am_codeAt (am_at k)) n r ∈ am_tbl := by
  unfold am_inC at h
  split at h
  · next y' b n' r' e =>
    simp only [Bool.and_eq_true, decide_eq_true_eq, Nat.beq_eq] at h
    obtain ⟨rfl, rfl, rfl⟩ := h
    rw [e]
    exact List.mem_filter.mpr ⟨am_at_mem e, rfl⟩
  · cases h
def am_SCR : Nat := 100000
/-- the text, its bytes -/
def am_STR : Nat := 100001
def am_STV : Nat := 100002
def am_txt : List Int32 := [116, 58, 120, 97, 62, 121, 43, 97, 59, 107, 58, 120, 97, 62, 121, 43, 97, 44, 121, 43, 98, 59, 99, 58, 49, 62, 120, 45, 97]
def am_jc : Nat := 91
def am_inb (i : Int32) (n : Nat) : Bool := !(decide (i < 0) || Nat.ble n i.toNatClampNeg)
/-- a number or a reference -/
def am_ir : Value → Bool
  | .int _ => true
  | .ref _ => true
  | _ => false
/-- no reference to a cell that isn't there yet -/
def am_vk (n : Nat) : Value → Bool
  | .ref a => Nat.blt a n || (Nat.beq a am_SCR || Nat.beq a am_STR)
  | _ => true
def am_ek (n : Nat) (e : Nat × Nat × List Nat) : Bool := e.2.2.all (fun c => Nat.blt c (n + 2))
def am_fre (sh : am_Sh) (L S : List Value) : Bool := Nat.blt sh.length am_SCR && (L.all (am_vk sh.length) && (S.all (am_vk sh.length) && sh.all (am_ek sh.length)))
/-- a place that isn't there yet is forgotten -/
def am_mk (n : Nat) (v : Value) : Value := bif am_vk n v then v else .null
def am_msk (n : Nat) (L : List Value) : List Value := L.map (am_mk n)
def am_push (μ : am_Mu) (n : Nat) : am_Mu := fun a => if a = n then fun _ => 0 else μ a
def am_kd : ArrayType → Option Nat
  | .int => some 0
  | .boolean => some 1
  | .byte => some 2
  | _ => none
def am_nar (kd : Nat) (x : Int32) : Int32 := match kd with
  | 1 => x &&& 1
  | 2 => x.toInt8.toInt32
  | _ => x
/-- a call of the claim's own method j: arguments off the stack, the callee from its first instruction, then on -/
def am_call (K0 K : am_K) (d m pc j : Nat) (L S : List Value) (sh : am_Sh) (μ : am_Mu) : Option am_Out :=
  let na := bif am_st j then am_na j else am_na j + 1
  let As := (S.take na).reverse
  let rest := S.drop na
  bif Nat.ble na S.length && As.all am_ir && rest.all am_ir && Nat.ble rest.length 8 && Nat.ble na (am_nl j) then
    match (bif am_st j then some 0 else match As with
      | .ref b :: _ => (match sh[b]? with
        | some e => bif Nat.beq e.1 (am_ow j + 3) then some 0 else none
        | none => none)
      | _ => none), d with
    | some _, d' + 1 => (match K0 d' j 0 (As ++ List.replicate (am_nl j - na) .null) [] sh μ with
      | some (r, sh', μ') => bif Nat.beq sh'.length sh.length || am_fre sh L rest then K (d' + 1) m (pc + 3) L (r.toList ++ rest) sh' μ' else none
      | none => none)
    | _, _ => none
  else none
def am_static (K0 K : am_K) (d m pc j : Nat) (L S : List Value) (sh : am_Sh) (μ : am_Mu) : Option am_Out :=
  match j with
  | 1001 => (match S, d with
    | .int y :: .int x :: S', _ + 1 => bif S'.all am_ir && Nat.ble S'.length 8 then K d m (pc + 3) L (.int (if x < y then y else x) :: S') sh μ else none
    | _, _ => none)
  | 1002 => (match S, d with
    | .int y :: .int x :: S', _ + 1 => bif S'.all am_ir && Nat.ble S'.length 8 then K d m (pc + 3) L (.int (if y < x then y else x) :: S') sh μ else none
    | _, _ => none)
  | 1003 => (match S, d with
    | .int x :: S', _ + 1 => bif S'.all am_ir && Nat.ble S'.length 8 then K d m (pc + 3) L (.int (if 0 ≤ x then x else 0 - x) :: S') sh μ else none
    | _, _ => none)
  | 1004 => (match S, d with
    | [.int n, .int dp, .ref b, .int sp, .ref a], _ + 1 => (match sh[a]?, sh[b]? with
      | some (0, n0, _), some (0, n1, _) => bif !(decide (sp < 0)) && (!(decide (dp < 0)) && (!(decide (n < 0)) && (Nat.ble (sp.toNatClampNeg + n.toNatClampNeg) n0 && Nat.ble (dp.toNatClampNeg + n.toNatClampNeg) n1))) then K d m (pc + 3) L [] sh (am_row μ b (va_cpy (μ a) (μ b) sp.toNatClampNeg dp.toNatClampNeg n.toNatClampNeg)) else none
      | _, _ => none)
    | _, _ => none)
  | j => am_call K0 K d m pc j L S sh μ
def am_spec (K0 K : am_K) (d m pc j : Nat) (L S : List Value) (sh : am_Sh) (μ : am_Mu) : Option am_Out :=
  match j with
  | 1000 => (match S, d with
    | .ref _ :: S', _ + 1 => bif S'.all am_ir && Nat.ble S'.length 8 then K d m (pc + 3) L S' sh μ else none
    | _, _ => none)
  | j => am_call K0 K d m pc j L S sh μ
def am_virt (scr : am_Scr) (K0 K : am_K) (d m pc j : Nat) (L S : List Value) (sh : am_Sh) (μ : am_Mu) : Option am_Out :=
  match j with
  | 1005 => (match S, d, scr with
    | .ref a :: S', _ + 5, some _ => bif Nat.beq a am_STR && (S'.all am_ir && Nat.ble S'.length 8) then K d m (pc + 3) L (.int 29 :: S') sh μ else none
    | _, _, _ => none)
  | 1006 => (match S, d, scr with
    | .int k :: .ref a :: S', _ + 5, some _ => bif Nat.beq a am_STR && (am_inb k 29 && (S'.all am_ir && Nat.ble S'.length 8)) then K d m (pc + 3) L (.int (am_txt.getD k.toNatClampNeg 0) :: S') sh μ else none
    | _, _, _ => none)
  | j => am_call K0 K d m pc j L S sh μ
def am_pcOf (pc : Nat) (off : Int) : Nat := ((pc : Int) + off).toNat
def am_op (scr : am_Scr) (K0 K : am_K) (d m pc : Nat) (i : Instr) (j : Nat) (L S : List Value) (sh : am_Sh) (μ : am_Mu) : Option am_Out :=
  match i with
  | .iconst v => K d m (pc + 1) L (.int (Int32.ofInt v) :: S) sh μ
  | .bipush v => K d m (pc + 2) L (.int (Int8.ofInt v).toInt32 :: S) sh μ
  | .sipush v => K d m (pc + 3) L (.int (Int16.ofInt v).toInt32 :: S) sh μ
  | .ldc _ => bif Nat.beq j am_STR then (match scr with
      | some _ => K d m (pc + 2) L (.ref am_STR :: S) sh μ
      | none => none)
    else K d m (pc + 2) L (.int (Int32.ofNat j) :: S) sh μ
  | .ldc_w _ => K d m (pc + 3) L (.int (Int32.ofNat j) :: S) sh μ
  | .ldc2_w _ => K d m (pc + 3) L (.long (Int64.ofNat j) :: S) sh μ
  | .iload_n k => (match L[k.val]? with
    | some (.int x) => K d m (pc + 1) L (.int x :: S) sh μ
    | _ => none)
  | .iload k => (match L[k]? with
    | some (.int x) => K d m (pc + 2) L (.int x :: S) sh μ
    | _ => none)
  | .aload_n k => (match L[k.val]? with
    | some (.ref x) => K d m (pc + 1) L (.ref x :: S) sh μ
    | _ => none)
  | .aload k => (match L[k]? with
    | some (.ref x) => K d m (pc + 2) L (.ref x :: S) sh μ
    | _ => none)
  | .istore_n k => (match S with
    | .int x :: S' => bif Nat.blt k.val L.length then K d m (pc + 1) (L.set k.val (.int x)) S' sh μ else none
    | _ => none)
  | .istore k => (match S with
    | .int x :: S' => bif Nat.blt k L.length then K d m (pc + 2) (L.set k (.int x)) S' sh μ else none
    | _ => none)
  | .astore_n k => (match S with
    | .ref x :: S' => bif Nat.blt k.val L.length then K d m (pc + 1) (L.set k.val (.ref x)) S' sh μ else none
    | _ => none)
  | .astore k => (match S with
    | .ref x :: S' => bif Nat.blt k L.length then K d m (pc + 2) (L.set k (.ref x)) S' sh μ else none
    | _ => none)
  | .iinc k v => (match L[k]? with
    | some (.int x) => K d m (pc + 3) (L.set k (.int (x + Int32.ofInt v))) S sh μ
    | _ => none)
  | .iadd => (match S with
    | .int y :: .int x :: S' => K d m (pc + 1) L (.int (x + y) :: S') sh μ
    | _ => none)
  | .isub => (match S with
    | .int y :: .int x :: S' => K d m (pc + 1) L (.int (x - y) :: S') sh μ
    | _ => none)
  | .imul => (match S with
    | .int y :: .int x :: S' => K d m (pc + 1) L (.int (x * y) :: S') sh μ
    | _ => none)
  | .iand => (match S with
    | .int y :: .int x :: S' => K d m (pc + 1) L (.int (x &&& y) :: S') sh μ
    | _ => none)
  | .ior => (match S with
    | .int y :: .int x :: S' => K d m (pc + 1) L (.int (x ||| y) :: S') sh μ
    | _ => none)
  | .ixor => (match S with
    | .int y :: .int x :: S' => K d m (pc + 1) L (.int (x ^^^ y) :: S') sh μ
    | _ => none)
  | .ishl => (match S with
    | .int y :: .int x :: S' => K d m (pc + 1) L (.int (x <<< (y &&& 31)) :: S') sh μ
    | _ => none)
  | .ishr => (match S with
    | .int y :: .int x :: S' => K d m (pc + 1) L (.int (x >>> (y &&& 31)) :: S') sh μ
    | _ => none)
  | .iushr => (match S with
    | .int y :: .int x :: S' => K d m (pc + 1) L (.int (x.toUInt32 >>> (y.toUInt32 &&& Int32.toUInt32 31)).toInt32 :: S') sh μ
    | _ => none)
  | .idiv => (match S with
    | .int y :: .int x :: S' => if y = 0 then none else K d m (pc + 1) L (.int (x / y) :: S') sh μ
    | _ => none)
  | .irem => (match S with
    | .int y :: .int x :: S' => if y = 0 then none else K d m (pc + 1) L (.int (x - x / y * y) :: S') sh μ
    | _ => none)
  | .ineg => (match S with
    | .int x :: S' => K d m (pc + 1) L (.int (-x) :: S') sh μ
    | _ => none)
  | .i2b => (match S with
    | .int x :: S' => K d m (pc + 1) L (.int x.toInt8.toInt32 :: S') sh μ
    | _ => none)
  | .i2l => (match S with
    | .int x :: S' => K d m (pc + 1) L (.long x.toInt64 :: S') sh μ
    | _ => none)
  | .l2i => (match S with
    | .long x :: S' => K d m (pc + 1) L (.int x.toInt32 :: S') sh μ
    | _ => none)
  | .ladd => (match S with
    | .long y :: .long x :: S' => K d m (pc + 1) L (.long (x + y) :: S') sh μ
    | _ => none)
  | .lmul => (match S with
    | .long y :: .long x :: S' => K d m (pc + 1) L (.long (x * y) :: S') sh μ
    | _ => none)
  | .lrem => (match S with
    | .long y :: .long x :: S' => if y = 0 then none else K d m (pc + 1) L (.long (x - x / y * y) :: S') sh μ
    | _ => none)
  | .dup => (match S with
    | v :: S' => bif am_ir v then K d m (pc + 1) L (v :: v :: S') sh μ else none
    | _ => none)
  | .pop => (match S with
    | v :: S' => bif am_ir v then K d m (pc + 1) L S' sh μ else none
    | _ => none)
  | .dup2 => (match S with
    | v :: w :: S' => bif am_ir v && am_ir w then K d m (pc + 1) L (v :: w :: v :: w :: S') sh μ else none
    | _ => none)
  | .goto _ => K d m j L S sh μ
  | .ifCond .eq _ => (match S with
    | .int x :: S' => if x = 0 then K d m j L S' sh μ else K d m (pc + 3) L S' sh μ
    | _ => none)
  | .ifCond .ne _ => (match S with
    | .int x :: S' => if ¬ x = 0 then K d m j L S' sh μ else K d m (pc + 3) L S' sh μ
    | _ => none)
  | .ifCond .lt _ => (match S with
    | .int x :: S' => if x < 0 then K d m j L S' sh μ else K d m (pc + 3) L S' sh μ
    | _ => none)
  | .ifCond .ge _ => (match S with
    | .int x :: S' => if 0 ≤ x then K d m j L S' sh μ else K d m (pc + 3) L S' sh μ
    | _ => none)
  | .ifCond .gt _ => (match S with
    | .int x :: S' => if 0 < x then K d m j L S' sh μ else K d m (pc + 3) L S' sh μ
    | _ => none)
  | .ifCond .le _ => (match S with
    | .int x :: S' => if x ≤ 0 then K d m j L S' sh μ else K d m (pc + 3) L S' sh μ
    | _ => none)
  | .if_icmp .eq _ => (match S with
    | .int y :: .int x :: S' => if x = y then K d m j L S' sh μ else K d m (pc + 3) L S' sh μ
    | _ => none)
  | .if_icmp .ne _ => (match S with
    | .int y :: .int x :: S' => if ¬ x = y then K d m j L S' sh μ else K d m (pc + 3) L S' sh μ
    | _ => none)
  | .if_icmp .lt _ => (match S with
    | .int y :: .int x :: S' => if x < y then K d m j L S' sh μ else K d m (pc + 3) L S' sh μ
    | _ => none)
  | .if_icmp .ge _ => (match S with
    | .int y :: .int x :: S' => if y ≤ x then K d m j L S' sh μ else K d m (pc + 3) L S' sh μ
    | _ => none)
  | .if_icmp .gt _ => (match S with
    | .int y :: .int x :: S' => if y < x then K d m j L S' sh μ else K d m (pc + 3) L S' sh μ
    | _ => none)
  | .if_icmp .le _ => (match S with
    | .int y :: .int x :: S' => if x ≤ y then K d m j L S' sh μ else K d m (pc + 3) L S' sh μ
    | _ => none)
  | .tableswitch dflt lo hi offs => (match S with
    | .int x :: S' => if x.toInt < lo ∨ hi < x.toInt then K d m (am_pcOf pc dflt) L S' sh μ else (match offs[(x.toInt - lo).toNat]? with
      | some off => K d m (am_pcOf pc off) L S' sh μ
      | none => none)
    | _ => none)
  | .lookupswitch dflt ps => (match S with
    | .int x :: S' => bif (ps.toList.zip (ps.toList.drop 1)).all (fun (a, next) => a.1 < next.1) then K d m (am_pcOf pc (Op.lookupswitch.offset ps.toList dflt x.toInt)) L S' sh μ else none
    | _ => none)
  | .getfield _ => (match S with
    | .ref a :: S' => (match sh[a]? with
      | some (kd, _, fs) => bif Nat.beq kd (j / 100 + 3) then (match fs[j % 100]? with
          | some 0 => K d m (pc + 3) L (.int (μ a (j % 100)) :: S') sh μ
          | some 1 => K d m (pc + 3) L (.null :: S') sh μ
          | some (b + 2) => K d m (pc + 3) L (.ref b :: S') sh μ
          | none => none) else none
      | none => none)
    | _ => none)
  | .putfield _ => (match S with
    | .int x :: .ref a :: S' => (match sh[a]? with
      | some (kd, _, fs) => bif Nat.beq kd (j / 100 + 3) then (match fs[j % 100]? with
          | some 0 => K d m (pc + 3) L S' sh (am_up μ a (j % 100) x)
          | _ => none) else none
      | none => none)
    | .ref b :: .ref a :: S' => (match sh[a]? with
      | some (kd, nn, fs) => bif Nat.beq kd (j / 100 + 3) then (match fs[j % 100]? with
          | some (_ + 1) => K d m (pc + 3) L S' (sh.set a (kd, nn, fs.set (j % 100) (b + 2))) μ
          | _ => none) else none
      | none => none)
    | _ => none)
  | .iaload => (match S with
    | .int x :: .ref a :: S' => bif Nat.beq a am_SCR then (match scr with
        | some (some (n, f)) => bif am_inb x n then K d m (pc + 1) L (.int (f x.toNatClampNeg) :: S') sh μ else none
        | _ => none)
      else (match sh[a]? with
        | some (0, n, _) => bif am_inb x n then K d m (pc + 1) L (.int (μ a x.toNatClampNeg) :: S') sh μ else none
        | _ => none)
    | _ => none)
  | .baload => (match S with
    | .int x :: .ref a :: S' => (match sh[a]? with
        | some (1, n, _) => bif am_inb x n then K d m (pc + 1) L (.int (μ a x.toNatClampNeg) :: S') sh μ else none
        | some (2, n, _) => bif am_inb x n then K d m (pc + 1) L (.int (μ a x.toNatClampNeg) :: S') sh μ else none
        | _ => none)
    | _ => none)
  | .iastore => (match S with
    | .int v :: .int x :: .ref a :: S' => (match sh[a]? with
        | some (0, n, _) => bif am_inb x n then K d m (pc + 1) L S' sh (am_up μ a x.toNatClampNeg v) else none
        | _ => none)
    | _ => none)
  | .bastore => (match S with
    | .int v :: .int x :: .ref a :: S' => (match sh[a]? with
        | some (1, n, _) => bif am_inb x n then K d m (pc + 1) L S' sh (am_up μ a x.toNatClampNeg (v &&& 1)) else none
        | some (2, n, _) => bif am_inb x n then K d m (pc + 1) L S' sh (am_up μ a x.toNatClampNeg v.toInt8.toInt32) else none
        | _ => none)
    | _ => none)
  | .arraylength => (match S with
    | .ref a :: S' => bif Nat.beq a am_SCR then (match scr with
        | some (some (n, _)) => K d m (pc + 1) L (.int (Int32.ofNat n) :: S') sh μ
        | _ => none)
      else (match sh[a]? with
        | some (0, n, _) => K d m (pc + 1) L (.int (Int32.ofNat n) :: S') sh μ
        | _ => none)
    | _ => none)
  | .newarray t => (match S, am_kd t with
    | .int n :: S', some kd => bif !(decide (n < 0)) && (Nat.ble n.toNatClampNeg 100000 && am_fre sh [] S') then K d m (pc + 2) (am_msk sh.length L) (.ref sh.length :: S') (sh ++ [(kd, n.toNatClampNeg, [])]) (am_push μ sh.length) else none
    | _, _ => none)
  | .new _ => (match am_fresh[j]? with
    | some fs => bif am_fre sh L S then K d m (pc + 3) L (.ref sh.length :: S) (sh ++ [(j + 3, fs.length, fs)]) (am_push μ sh.length) else none
    | none => none)
  | .invokevirtual _ => am_virt scr K0 K d m pc j L S sh μ
  | .invokestatic _ => bif Nat.beq j am_jc then am_call K K d m pc j L S sh μ else am_static K0 K d m pc j L S sh μ
  | .invokespecial _ => am_spec K0 K d m pc j L S sh μ
  | .ireturn => (match S with
    | [.int x] => (match am_rt m with
      | some .int => some (some (.int x), sh, μ)
      | some .boolean => if x &&& 1 = x then some (some (.int x), sh, μ) else none
      | _ => none)
    | _ => none)
  | .areturn => (match S with
    | [.ref a] => (match am_rt m with
      | some (.object _) => some (some (.ref a), sh, μ)
      | _ => none)
    | _ => none)
  | .return_ => (match S with
    | [] => (match am_rt m with
      | none => some (none, sh, μ)
      | _ => none)
    | _ => none)
  | _ => none
def am_step (scr : am_Scr) (K0 K : am_K) (d m pc : Nat) (L S : List Value) (sh : am_Sh) (μ : am_Mu) : Option am_Out :=
  match am_fet m pc with
  | some (i, j) => am_op scr K0 K d m pc i j L S sh μ
  | none => none
def am_exec : Nat → am_Scr → am_K
  | 0 => fun _ _ _ _ _ _ _ _ => none
  | n + 1 => fun scr d m pc L S sh μ => am_step scr (am_exec n (am_sub scr)) (am_exec n scr) d m pc L S sh μ
/-! what the tables say, checked by number -/
def am_fldC (nest : Bool) (t : Nat × Nat × Nat × Nat) : Cond := match am_cl[t.2.2.1 / 100]? with
  | some c => bif nest then .fieldLinkNest (am_RC t.1) t.2.1 (c.2.1 (t.2.2.1 % 100)).1 (c.2.1 (t.2.2.1 % 100)).2.1 (c.2.1 (t.2.2.1 % 100)).2.2.1 "SealBook" else .fieldLink (am_RC t.1) t.2.1 (c.2.1 (t.2.2.1 % 100)).1 (c.2.1 (t.2.2.1 % 100)).2.1 (c.2.1 (t.2.2.1 % 100)).2.2.1
  | none => .isInt .result
def am_yqM (j : Nat) : MethodName := match j with
  | 1000 => objectInit
  | 1001 => Lib.Math.max.name
  | 1002 => Lib.Math.min.name
  | 1003 => Lib.Math.abs.name
  | 1004 => arraycopyName
  | 1005 => ⟨"java/lang/String", "length", "()I"⟩
  | 1006 => ⟨"java/lang/String", "charAt", "(I)C"⟩
  | j => am_yq j
def am_metC (nest : Bool) (t : Nat × Nat × Nat × Nat) : Cond := bif nest then .methodLinkNest (am_RC t.1) t.2.1 (am_yqM t.2.2.1) "SealBook" else .methodLink (am_RC t.1) t.2.1 (am_yqM t.2.2.1)
def am_clsC (t : Nat × Nat × Nat × Nat) : Cond := .classLink (am_RC t.1) t.2.1 (am_RC t.2.2.1)
def am_atN (l : List (Nat × Nat × Nat × Nat)) (f : Nat × Nat × Nat × Nat → Cond) : Bool := l.all (fun t => am_inN t.2.2.2 (f t))
def am_atL (l : List (Nat × Nat × Nat × Nat)) (f : Nat × Nat × Nat × Nat → Cond) : Bool := l.all (fun t => am_in t.2.2.2 (f t))
set_option maxRecDepth 100000 in
theorem am_lF_ok : am_atL am_lF (am_fldC false) = true := by decide +kernel
set_option maxRecDepth 100000 in
theorem am_lN_ok : am_atN am_lN (am_fldC true) = true := by decide +kernel
set_option maxRecDepth 100000 in
theorem am_lM_ok : am_atL am_lM (am_metC false) = true := by decide +kernel
set_option maxRecDepth 100000 in
theorem am_lMN_ok : am_atN am_lMN (am_metC true) = true := by decide +kernel
set_option maxRecDepth 100000 in
theorem am_lK_ok : am_atL am_lK (fun t => .constant (am_RC t.1) t.2.1 (Int32.ofNat t.2.2.1)) = true := by decide +kernel
set_option maxRecDepth 100000 in
theorem am_lKL_ok : am_atL am_lKL (fun t => .constantLong (am_RC t.1) t.2.1 (Int64.ofNat t.2.2.1)) = true := by decide +kernel
set_option maxRecDepth 100000 in
theorem am_lC_ok : am_atL am_lC am_clsC = true := by decide +kernel
def am_words (j : Nat) : List Cond := .code (am_yq j) (am_cod j) (am_nl j) (am_rt j) :: am_tbl
def am_okM (j : Nat) : Bool := plainName (am_yq j).cls && (am_inC (am_MP.getD j (0, 0, 0)).1 (am_yq j) (am_nl j) (am_rt j) && (am_in (am_MP.getD j (0, 0, 0)).2.1 (bif am_st j then .static (am_yq j) else .instanceMethod (am_yq j)) && ((bif am_st j || (am_yq j).name == "<init>" then true else am_in (am_MP.getD j (0, 0, 0)).2.2 (.selects (am_yq j).cls (am_yq j) (am_yq j))) && (am_in (am_pini.getD (am_ow j) 0) (.initialized (am_yq j).cls) && (!((am_yq j).cls == "java/lang/invoke/MethodHandle") && (!((am_yq j).cls == "java/lang/invoke/VarHandle") && (decide ((parseMethodDescriptor (am_yq j).desc).map (fun d => d.parameters.length) = some (am_na j)) && (!((am_yq j).name == "<init>") || decide (am_rt j = none)))))))))
def am_okMr (a b : Nat) : Bool := (List.range (b - a)).all (fun k => am_okM (a + k))
set_option maxRecDepth 100000 in
theorem am_okM_0 : am_okMr 0 30 = true := by decide +kernel
set_option maxRecDepth 100000 in
theorem am_okM_30 : am_okMr 30 60 = true := by decide +kernel
set_option maxRecDepth 100000 in
theorem am_okM_60 : am_okMr 60 90 = true := by decide +kernel
set_option maxRecDepth 100000 in
theorem am_okM_90 : am_okMr 90 95 = true := by decide +kernel
theorem am_okM_of {a b : Nat} (h : am_okMr a b = true) {j : Nat} (h1 : a ≤ j) (h2 : j < b) : am_okM j = true := by
  have h3 := List.all_eq_true.mp h (j - a) (List.mem_range.mpr (by omega))
  rwa [show a + (j - a) = j by omega] at h3
theorem am_okM_all (j : Nat) (h : j < am_law) : am_okM j = true := by
  have h : j < 95 := h
  rcases Nat.lt_or_ge j 30 with q0 | q0
  · exact am_okM_of am_okM_0 (by omega) q0
  rcases Nat.lt_or_ge j 60 with q30 | q30
  · exact am_okM_of am_okM_30 (by omega) q30
  rcases Nat.lt_or_ge j 90 with q60 | q60
  · exact am_okM_of am_okM_60 (by omega) q60
  exact am_okM_of am_okM_90 (by omega) h
def am_okC (k : Nat) (c : vw_C) : Bool := (List.range c.2.2).all (fun a => am_in ((am_lay.getD k []).getD a 0) (u_lay c.1 c.2.1 a)) && ((List.range c.2.2).all (fun a => (List.range c.2.2).all (fun b => Nat.beq a b || !((c.2.1 a).2.1 == (c.2.1 b).2.1)) && ((parseFieldDescriptor (c.2.1 a).2.2.1).isSome && decide (defaultValue ((parseFieldDescriptor (c.2.1 a).2.2.1).getD .int) = (match (am_fresh.getD k []).getD a 0 with | 0 => .int 0 | _ => .null)))) && (Nat.beq (am_fresh.getD k []).length c.2.2 && (am_in (am_pins.getD k 0) (.instantiable c.1 c.2.2) && (am_in (am_pini.getD k 0) (.initialized c.1) && (decide (am_RC k = c.1) && (am_fresh.getD k []).all (fun x => Nat.ble x 1))))))
set_option maxRecDepth 100000 in
theorem am_okC_all : (List.range am_cl.length).all (fun k => am_okC k (am_cl.getD k ("", fun _ => ("", "", "", false), 0))) = true := by decide +kernel
set_option maxRecDepth 100000 in
theorem am_math : (am_in 3116 (Cond.static Lib.Math.max.name) && (am_in 3113 (Cond.static Lib.Math.min.name) && (am_in 3173 (Cond.static Lib.Math.abs.name) && (am_in 1018 (Cond.initialized "java/lang/Math") && (am_in 4129 (Cond.native arraycopyName) && (am_in 4128 (Cond.static arraycopyName) && (am_in 1017 (Cond.initialized "java/lang/System") && (am_in 1025 (Cond.instanceMethod objectInit) && (am_in 1046 (Cond.arrayClass .int) && (am_in 1193 (Cond.arrayClass .boolean) && am_in 4134 (Cond.arrayClass .byte))))))))))) = true := by decide +kernel
theorem am_mathC : Cond.code Lib.Math.max.name Lib.Math.max.code 2 (some .int) ∈ am_tbl ∧ Cond.code Lib.Math.min.name Lib.Math.min.code 2 (some .int) ∈ am_tbl ∧ Cond.code Lib.Math.abs.name Lib.Math.abs.code 1 (some .int) ∈ am_tbl ∧ Cond.code objectInit ⟨#[0xb1]⟩ 1 none ∈ am_tbl := ⟨am_in_mem (k := 3117) (by decide +kernel), am_in_mem (k := 3114) (by decide +kernel), am_in_mem (k := 3174) (by decide +kernel), am_in_mem (k := 1026) (by decide +kernel)⟩

/-! the text's own methods: their words -/
def jy_LEN : MethodName := ⟨"java/lang/String", "length", "()I"⟩
abbrev jc_LEN : ByteArray := prog_16_method_54_code
theorem jw_LEN : Cond.code jy_LEN jc_LEN 1 (Option.some FieldType.int) ∈ am_tbl := am_in_mem (k := 3222) (by decide +kernel)
theorem jk_LEN : Cond.instanceMethod jy_LEN ∈ am_tbl := am_in_mem (k := 3220) (by decide +kernel)
theorem js_LEN : Cond.selects "java/lang/String" jy_LEN jy_LEN ∈ am_tbl := am_in_mem (k := 3221) (by decide +kernel)
def jy_COD : MethodName := ⟨"java/lang/String", "coder", "()B"⟩
abbrev jc_COD : ByteArray := prog_16_method_152_code
theorem jw_COD : Cond.code jy_COD jc_COD 1 (Option.some FieldType.byte) ∈ am_tbl := am_in_mem (k := 3226) (by decide +kernel)
theorem jk_COD : Cond.instanceMethod jy_COD ∈ am_tbl := am_in_mem (k := 3224) (by decide +kernel)
theorem js_COD : Cond.selects "java/lang/String" jy_COD jy_COD ∈ am_tbl := am_in_mem (k := 3225) (by decide +kernel)
def jy_LAT : MethodName := ⟨"java/lang/String", "isLatin1", "()Z"⟩
abbrev jc_LAT : ByteArray := prog_16_method_154_code
theorem jw_LAT : Cond.code jy_LAT jc_LAT 1 (Option.some FieldType.boolean) ∈ am_tbl := am_in_mem (k := 3236) (by decide +kernel)
theorem jk_LAT : Cond.instanceMethod jy_LAT ∈ am_tbl := am_in_mem (k := 3234) (by decide +kernel)
theorem js_LAT : Cond.selects "java/lang/String" jy_LAT jy_LAT ∈ am_tbl := am_in_mem (k := 3235) (by decide +kernel)
def jy_CHA : MethodName := ⟨"java/lang/String", "charAt", "(I)C"⟩
abbrev jc_CHA : ByteArray := prog_16_method_56_code
theorem jw_CHA : Cond.code jy_CHA jc_CHA 2 (Option.some FieldType.char) ∈ am_tbl := am_in_mem (k := 3232) (by decide +kernel)
theorem jk_CHA : Cond.instanceMethod jy_CHA ∈ am_tbl := am_in_mem (k := 3230) (by decide +kernel)
theorem js_CHA : Cond.selects "java/lang/String" jy_CHA jy_CHA ∈ am_tbl := am_in_mem (k := 3231) (by decide +kernel)
def jy_LCH : MethodName := ⟨"java/lang/StringLatin1", "charAt", "([BI)C"⟩
abbrev jc_LCH : ByteArray := prog_17_method_2_code
theorem jw_LCH : Cond.code jy_LCH jc_LCH 2 (Option.some FieldType.char) ∈ am_tbl := am_in_mem (k := 3239) (by decide +kernel)
theorem jk_LCH : Cond.static jy_LCH ∈ am_tbl := am_in_mem (k := 3238) (by decide +kernel)
def jy_SCI : MethodName := ⟨"java/lang/String", "checkIndex", "(II)V"⟩
abbrev jc_SCI : ByteArray := prog_16_method_155_code
theorem jw_SCI : Cond.code jy_SCI jc_SCI 2 (Option.none : Option FieldType) ∈ am_tbl := am_in_mem (k := 4002) (by decide +kernel)
theorem jk_SCI : Cond.static jy_SCI ∈ am_tbl := am_in_mem (k := 4001) (by decide +kernel)
def jy_PCI : MethodName := ⟨"jdk/internal/util/Preconditions", "checkIndex", "(IILjava/util/function/BiFunction;)I"⟩
abbrev jc_PCI : ByteArray := prog_20_method_11_code
theorem jw_PCI : Cond.code jy_PCI jc_PCI 3 (Option.some FieldType.int) ∈ am_tbl := am_in_mem (k := 4007) (by decide +kernel)
theorem jk_PCI : Cond.static jy_PCI ∈ am_tbl := am_in_mem (k := 4006) (by decide +kernel)
theorem ji_S : Cond.initialized "java/lang/String" ∈ am_tbl := am_in_mem (k := 1013) (by decide +kernel)
theorem ji_L : Cond.initialized "java/lang/StringLatin1" ∈ am_tbl := am_in_mem (k := 1014) (by decide +kernel)
theorem ji_P : Cond.initialized "jdk/internal/util/Preconditions" ∈ am_tbl := am_in_mem (k := 1015) (by decide +kernel)
theorem jl_LEN : Cond.methodLink "SealBookLaw" 8 jy_LEN ∈ am_tbl := am_in_mem (k := 3219) (by decide +kernel)
theorem jl_COD : Cond.methodLink "java/lang/String" 335 jy_COD ∈ am_tbl := am_in_mem (k := 3223) (by decide +kernel)
theorem jf_com : Cond.fieldLink "java/lang/String" 38 "java/lang/String" "COMPACT_STRINGS" "Z" ∈ am_tbl := am_in_mem (k := 3227) (by decide +kernel)
theorem jz_com : Cond.laysStatic "java/lang/String" "COMPACT_STRINGS" "Z" ∈ lw_tbl := am_at_mem (p := 3228) (by decide +kernel)
theorem jl_CHA : Cond.methodLink "SealBookLaw" 14 jy_CHA ∈ am_tbl := am_in_mem (k := 3229) (by decide +kernel)
theorem jl_LAT : Cond.methodLink "java/lang/String" 492 jy_LAT ∈ am_tbl := am_in_mem (k := 3233) (by decide +kernel)
theorem jl_LCH : Cond.methodLink "java/lang/String" 495 jy_LCH ∈ am_tbl := am_in_mem (k := 3237) (by decide +kernel)
theorem jl_SCI : Cond.methodLink "java/lang/StringLatin1" 9 jy_SCI ∈ am_tbl := am_in_mem (k := 4000) (by decide +kernel)
theorem jf_sio : Cond.fieldLink "java/lang/String" 1053 "jdk/internal/util/Preconditions" "SIOOBE_FORMATTER" "Ljava/util/function/BiFunction;" ∈ am_tbl := am_in_mem (k := 4003) (by decide +kernel)
theorem jz_sio : Cond.laysStatic "jdk/internal/util/Preconditions" "SIOOBE_FORMATTER" "Ljava/util/function/BiFunction;" ∈ lw_tbl := am_at_mem (p := 4004) (by decide +kernel)
theorem jl_PCI : Cond.methodLink "java/lang/String" 1059 jy_PCI ∈ am_tbl := am_in_mem (k := 4005) (by decide +kernel)
theorem jr_txt : Cond.stringRef "SealBookLaw" 39 "t:xa>y+a;k:xa>y+a,y+b;c:1>x-a" ∈ lw_tbl := am_at_mem (p := 4133) (by decide +kernel)
theorem jf_val : Cond.fieldLink "java/lang/String" 9 "java/lang/String" "value" "[B" ∈ am_tbl := am_in_mem (k := 4135) (by decide +kernel)
theorem jf_cod : Cond.fieldLink "java/lang/String" 15 "java/lang/String" "coder" "B" ∈ am_tbl := am_in_mem (k := 4136) (by decide +kernel)
end
section
theorem am_gd_some {n pc : Nat} {x : Option (Instr × Nat)} {y : Instr × Nat} (h : am_gd n pc x = some y) : pc < n := by
  rcases Nat.lt_or_ge pc n with q | q
  · exact q
  · rw [am_gd, Nat.ble_eq_true_of_le q] at h; cases h
def am_ln (i : Instr) (n : Nat) : Bool := match i with
  | .iconst _ | .iload_n _ | .aload_n _ | .istore_n _ | .astore_n _ | .iadd | .isub | .imul | .iand | .ior | .ixor | .ishl | .ishr | .iushr | .idiv | .irem | .ineg | .i2b | .i2l | .l2i | .ladd | .lmul | .lrem | .dup | .pop | .dup2 | .iaload | .baload | .iastore | .bastore | .arraylength | .ireturn | .areturn | .return_ => Nat.beq n 1
  | .bipush _ | .ldc _ | .iload _ | .aload _ | .istore _ | .astore _ | .newarray _ => Nat.beq n 2
  | .sipush _ | .ldc_w _ | .ldc2_w _ | .iinc _ _ | .goto _ | .ifCond _ _ | .if_icmp _ _ | .getfield _ | .putfield _ | .new _ | .invokevirtual _ | .invokestatic _ | .invokespecial _ => Nat.beq n 3
  | .tableswitch _ _ _ _ | .lookupswitch _ _ => true
  | _ => false
def am_any (l : List (Nat × Nat × Nat × Nat)) (o k j : Nat) : Bool := l.any (fun t => Nat.beq t.2.1 k && (Nat.beq t.1 o && Nat.beq t.2.2.1 j))
def am_putOK (m j : Nat) : Bool := match am_cl[j / 100]? with
  | some c => !(c.2.1 (j % 100)).2.2.2 || ((am_yq m).name == "<init>" && (c.2.1 (j % 100)).1 == am_RC (am_ow m))
  | none => false
def am_aux (m pc : Nat) (i : Instr) (j : Nat) : Bool := match i with
  | .goto off => decide ((pc : Int) + off = (j : Int))
  | .ifCond _ off => decide ((pc : Int) + off = (j : Int))
  | .if_icmp _ off => decide ((pc : Int) + off = (j : Int))
  | .getfield k => am_any am_lF (am_ow m) k j || am_any am_lN (am_ow m) k j
  | .putfield k => am_any am_lF (am_ow m) k j && am_putOK m j
  | .invokevirtual k => (am_any am_lM (am_ow m) k j || am_any am_lMN (am_ow m) k j) && ((Nat.blt j am_law && (!am_st j && !((am_yq j).name == "<init>"))) || ((Nat.beq j 1005 || Nat.beq j 1006) && am_RC (am_ow m) == "SealBookLaw"))
  | .invokestatic k => (am_any am_lM (am_ow m) k j || am_any am_lMN (am_ow m) k j) && ((Nat.blt j am_law && am_st j) || (Nat.ble 1001 j && Nat.ble j 1004))
  | .invokespecial k => (am_any am_lM (am_ow m) k j || am_any am_lMN (am_ow m) k j) && ((Nat.blt j am_law && (!am_st j && (am_yq j).name == "<init>")) || Nat.beq j 1000)
  | .ldc k => bif Nat.beq j am_STR then (Nat.beq k 39 && am_RC (am_ow m) == "SealBookLaw") else am_any am_lK (am_ow m) k j
  | .ldc_w k => am_any am_lK (am_ow m) k j
  | .ldc2_w k => am_any am_lKL (am_ow m) k j
  | .new k => am_any am_lC (am_ow m) k j
  | .tableswitch dflt _ _ offs => decide (0 ≤ (pc : Int) + dflt) && offs.toList.all (fun off => decide (0 ≤ (pc : Int) + off))
  | .lookupswitch dflt ps => decide (0 ≤ (pc : Int) + dflt) && ps.toList.all (fun q => decide (0 ≤ (pc : Int) + q.2))
  | _ => true
def am_okR (m pc : Nat) (i : Instr) (j : Nat) : Bool := match decode (am_cod m) pc with
  | .ok (i', n) => decide (i' = i) && (am_ln i n && am_aux m pc i j)
  | .error _ => false
def am_okA (m pc : Nat) : Bool := match am_fet m pc with
  | some (i, j) => am_okR m pc i j
  | none => true
def am_okP (m : Nat) : Prop := ∀ pc i j, am_fet m pc = some (i, j) → am_okR m pc i j = true
theorem am_okOf {m : Nat} (n : Nat) (h1 : ∀ pc i j, am_fet m pc = some (i, j) → pc < n) (h2 : (List.range n).all (am_okA m) = true) : am_okP m := by
  intro pc i j h
  have h3 := List.all_eq_true.mp h2 pc (List.mem_range.mpr (h1 pc i j h))
  simpa only [am_okA, h] using h3
theorem am_okOf2 {m : Nat} (n : Nat) (h1 : ∀ pc i j, am_fet m pc = some (i, j) → pc < n) (h2 : ∀ pc, pc < n → am_okA m pc = true) : am_okP m := by
  intro pc i j h
  have h3 := h2 pc (h1 pc i j h)
  simpa only [am_okA, h] using h3
theorem am_okRange {m a b : Nat} (h : (List.range (b - a)).all (fun k => am_okA m (a + k)) = true) (pc : Nat) (h1 : a ≤ pc) (h2 : pc < b) : am_okA m pc = true := by
  have h3 := List.all_eq_true.mp h (pc - a) (List.mem_range.mpr (by omega))
  rwa [show a + (pc - a) = pc by omega] at h3

theorem am_k0 : ∀ pc i j, am_fet 0 pc = some (i, j) → am_okR 0 pc i j = true := am_okOf 29 (fun pc i j h => am_gd_some (show am_f0 pc = some (i, j) from h)) (by decide +kernel)
theorem am_k1 : ∀ pc i j, am_fet 1 pc = some (i, j) → am_okR 1 pc i j = true := am_okOf 9 (fun pc i j h => am_gd_some (show am_f1 pc = some (i, j) from h)) (by decide +kernel)
theorem am_k2 : ∀ pc i j, am_fet 2 pc = some (i, j) → am_okR 2 pc i j = true := am_okOf 28 (fun pc i j h => am_gd_some (show am_f2 pc = some (i, j) from h)) (by decide +kernel)
theorem am_k3 : ∀ pc i j, am_fet 3 pc = some (i, j) → am_okR 3 pc i j = true := am_okOf 35 (fun pc i j h => am_gd_some (show am_f3 pc = some (i, j) from h)) (by decide +kernel)
theorem am_k4 : ∀ pc i j, am_fet 4 pc = some (i, j) → am_okR 4 pc i j = true := am_okOf 85 (fun pc i j h => am_gd_some (show am_f4 pc = some (i, j) from h)) (by decide +kernel)
theorem am_k5 : ∀ pc i j, am_fet 5 pc = some (i, j) → am_okR 5 pc i j = true := am_okOf 78 (fun pc i j h => am_gd_some (show am_f5 pc = some (i, j) from h)) (by decide +kernel)
theorem am_k6 : ∀ pc i j, am_fet 6 pc = some (i, j) → am_okR 6 pc i j = true := am_okOf 36 (fun pc i j h => am_gd_some (show am_f6 pc = some (i, j) from h)) (by decide +kernel)
theorem am_k7 : ∀ pc i j, am_fet 7 pc = some (i, j) → am_okR 7 pc i j = true := am_okOf 38 (fun pc i j h => am_gd_some (show am_f7 pc = some (i, j) from h)) (by decide +kernel)
theorem am_k8 : ∀ pc i j, am_fet 8 pc = some (i, j) → am_okR 8 pc i j = true := am_okOf 77 (fun pc i j h => am_gd_some (show am_f8 pc = some (i, j) from h)) (by decide +kernel)
theorem am_k9 : ∀ pc i j, am_fet 9 pc = some (i, j) → am_okR 9 pc i j = true := am_okOf 125 (fun pc i j h => am_gd_some (show am_f9 pc = some (i, j) from h)) (by decide +kernel)
theorem am_k10 : ∀ pc i j, am_fet 10 pc = some (i, j) → am_okR 10 pc i j = true := am_okOf 19 (fun pc i j h => am_gd_some (show am_f10 pc = some (i, j) from h)) (by decide +kernel)
theorem am_k11 : ∀ pc i j, am_fet 11 pc = some (i, j) → am_okR 11 pc i j = true := am_okOf 100 (fun pc i j h => am_gd_some (show am_f11 pc = some (i, j) from h)) (by decide +kernel)
theorem am_k12 : ∀ pc i j, am_fet 12 pc = some (i, j) → am_okR 12 pc i j = true := am_okOf 78 (fun pc i j h => am_gd_some (show am_f12 pc = some (i, j) from h)) (by decide +kernel)
theorem am_k13 : ∀ pc i j, am_fet 13 pc = some (i, j) → am_okR 13 pc i j = true := am_okOf 118 (fun pc i j h => am_gd_some (show am_f13 pc = some (i, j) from h)) (by decide +kernel)
theorem am_k14 : ∀ pc i j, am_fet 14 pc = some (i, j) → am_okR 14 pc i j = true := am_okOf 204 (fun pc i j h => am_gd_some (show am_f14 pc = some (i, j) from h)) (by decide +kernel)
theorem am_k15 : ∀ pc i j, am_fet 15 pc = some (i, j) → am_okR 15 pc i j = true := am_okOf 131 (fun pc i j h => am_gd_some (show am_f15 pc = some (i, j) from h)) (by decide +kernel)
theorem am_k16 : ∀ pc i j, am_fet 16 pc = some (i, j) → am_okR 16 pc i j = true := am_okOf 62 (fun pc i j h => am_gd_some (show am_f16 pc = some (i, j) from h)) (by decide +kernel)
theorem am_k17 : ∀ pc i j, am_fet 17 pc = some (i, j) → am_okR 17 pc i j = true := am_okOf 46 (fun pc i j h => am_gd_some (show am_f17 pc = some (i, j) from h)) (by decide +kernel)
theorem am_k18 : ∀ pc i j, am_fet 18 pc = some (i, j) → am_okR 18 pc i j = true := am_okOf 16 (fun pc i j h => am_gd_some (show am_f18 pc = some (i, j) from h)) (by decide +kernel)
theorem am_k19 : ∀ pc i j, am_fet 19 pc = some (i, j) → am_okR 19 pc i j = true := am_okOf 115 (fun pc i j h => am_gd_some (show am_f19 pc = some (i, j) from h)) (by decide +kernel)
theorem am_k20 : ∀ pc i j, am_fet 20 pc = some (i, j) → am_okR 20 pc i j = true := am_okOf 42 (fun pc i j h => am_gd_some (show am_f20 pc = some (i, j) from h)) (by decide +kernel)
theorem am_k21 : ∀ pc i j, am_fet 21 pc = some (i, j) → am_okR 21 pc i j = true := am_okOf 33 (fun pc i j h => am_gd_some (show am_f21 pc = some (i, j) from h)) (by decide +kernel)
theorem am_k22 : ∀ pc i j, am_fet 22 pc = some (i, j) → am_okR 22 pc i j = true := am_okOf 56 (fun pc i j h => am_gd_some (show am_f22 pc = some (i, j) from h)) (by decide +kernel)
theorem am_k23 : ∀ pc i j, am_fet 23 pc = some (i, j) → am_okR 23 pc i j = true := am_okOf 17 (fun pc i j h => am_gd_some (show am_f23 pc = some (i, j) from h)) (by decide +kernel)
theorem am_k24 : ∀ pc i j, am_fet 24 pc = some (i, j) → am_okR 24 pc i j = true := am_okOf 17 (fun pc i j h => am_gd_some (show am_f24 pc = some (i, j) from h)) (by decide +kernel)
theorem am_k25 : ∀ pc i j, am_fet 25 pc = some (i, j) → am_okR 25 pc i j = true := am_okOf 25 (fun pc i j h => am_gd_some (show am_f25 pc = some (i, j) from h)) (by decide +kernel)
theorem am_k26 : ∀ pc i j, am_fet 26 pc = some (i, j) → am_okR 26 pc i j = true := am_okOf 49 (fun pc i j h => am_gd_some (show am_f26 pc = some (i, j) from h)) (by decide +kernel)
theorem am_k27 : ∀ pc i j, am_fet 27 pc = some (i, j) → am_okR 27 pc i j = true := am_okOf 52 (fun pc i j h => am_gd_some (show am_f27 pc = some (i, j) from h)) (by decide +kernel)
theorem am_k28 : ∀ pc i j, am_fet 28 pc = some (i, j) → am_okR 28 pc i j = true := am_okOf 137 (fun pc i j h => am_gd_some (show am_f28 pc = some (i, j) from h)) (by decide +kernel)
theorem am_k29 : ∀ pc i j, am_fet 29 pc = some (i, j) → am_okR 29 pc i j = true := am_okOf 47 (fun pc i j h => am_gd_some (show am_f29 pc = some (i, j) from h)) (by decide +kernel)
theorem am_k30 : ∀ pc i j, am_fet 30 pc = some (i, j) → am_okR 30 pc i j = true := am_okOf 55 (fun pc i j h => am_gd_some (show am_f30 pc = some (i, j) from h)) (by decide +kernel)
theorem am_k31 : ∀ pc i j, am_fet 31 pc = some (i, j) → am_okR 31 pc i j = true := am_okOf 55 (fun pc i j h => am_gd_some (show am_f31 pc = some (i, j) from h)) (by decide +kernel)
theorem am_k32 : ∀ pc i j, am_fet 32 pc = some (i, j) → am_okR 32 pc i j = true := am_okOf 166 (fun pc i j h => am_gd_some (show am_f32 pc = some (i, j) from h)) (by decide +kernel)
theorem am_k33 : ∀ pc i j, am_fet 33 pc = some (i, j) → am_okR 33 pc i j = true := am_okOf 15 (fun pc i j h => am_gd_some (show am_f33 pc = some (i, j) from h)) (by decide +kernel)
theorem am_k34 : ∀ pc i j, am_fet 34 pc = some (i, j) → am_okR 34 pc i j = true := am_okOf 117 (fun pc i j h => am_gd_some (show am_f34 pc = some (i, j) from h)) (by decide +kernel)
theorem am_k35 : ∀ pc i j, am_fet 35 pc = some (i, j) → am_okR 35 pc i j = true := am_okOf 36 (fun pc i j h => am_gd_some (show am_f35 pc = some (i, j) from h)) (by decide +kernel)
theorem am_k36 : ∀ pc i j, am_fet 36 pc = some (i, j) → am_okR 36 pc i j = true := am_okOf 76 (fun pc i j h => am_gd_some (show am_f36 pc = some (i, j) from h)) (by decide +kernel)
theorem am_k37 : ∀ pc i j, am_fet 37 pc = some (i, j) → am_okR 37 pc i j = true := am_okOf 39 (fun pc i j h => am_gd_some (show am_f37 pc = some (i, j) from h)) (by decide +kernel)
theorem am_k38 : ∀ pc i j, am_fet 38 pc = some (i, j) → am_okR 38 pc i j = true := am_okOf 119 (fun pc i j h => am_gd_some (show am_f38 pc = some (i, j) from h)) (by decide +kernel)
theorem am_k39 : ∀ pc i j, am_fet 39 pc = some (i, j) → am_okR 39 pc i j = true := am_okOf 54 (fun pc i j h => am_gd_some (show am_f39 pc = some (i, j) from h)) (by decide +kernel)
theorem am_k40 : ∀ pc i j, am_fet 40 pc = some (i, j) → am_okR 40 pc i j = true := am_okOf 51 (fun pc i j h => am_gd_some (show am_f40 pc = some (i, j) from h)) (by decide +kernel)
theorem am_k41 : ∀ pc i j, am_fet 41 pc = some (i, j) → am_okR 41 pc i j = true := am_okOf 14 (fun pc i j h => am_gd_some (show am_f41 pc = some (i, j) from h)) (by decide +kernel)
theorem am_k42 : ∀ pc i j, am_fet 42 pc = some (i, j) → am_okR 42 pc i j = true := am_okOf 27 (fun pc i j h => am_gd_some (show am_f42 pc = some (i, j) from h)) (by decide +kernel)
theorem am_k43 : ∀ pc i j, am_fet 43 pc = some (i, j) → am_okR 43 pc i j = true := am_okOf 13 (fun pc i j h => am_gd_some (show am_f43 pc = some (i, j) from h)) (by decide +kernel)
theorem am_k44 : ∀ pc i j, am_fet 44 pc = some (i, j) → am_okR 44 pc i j = true := am_okOf 117 (fun pc i j h => am_gd_some (show am_f44 pc = some (i, j) from h)) (by decide +kernel)
theorem am_k45 : ∀ pc i j, am_fet 45 pc = some (i, j) → am_okR 45 pc i j = true := am_okOf 48 (fun pc i j h => am_gd_some (show am_f45 pc = some (i, j) from h)) (by decide +kernel)
theorem am_k46 : ∀ pc i j, am_fet 46 pc = some (i, j) → am_okR 46 pc i j = true := am_okOf 134 (fun pc i j h => am_gd_some (show am_f46 pc = some (i, j) from h)) (by decide +kernel)
theorem am_k47 : ∀ pc i j, am_fet 47 pc = some (i, j) → am_okR 47 pc i j = true := am_okOf 67 (fun pc i j h => am_gd_some (show am_f47 pc = some (i, j) from h)) (by decide +kernel)
theorem am_k48 : ∀ pc i j, am_fet 48 pc = some (i, j) → am_okR 48 pc i j = true := am_okOf 97 (fun pc i j h => am_gd_some (show am_f48 pc = some (i, j) from h)) (by decide +kernel)
theorem am_k49 : ∀ pc i j, am_fet 49 pc = some (i, j) → am_okR 49 pc i j = true := am_okOf 85 (fun pc i j h => am_gd_some (show am_f49 pc = some (i, j) from h)) (by decide +kernel)
theorem am_k50 : ∀ pc i j, am_fet 50 pc = some (i, j) → am_okR 50 pc i j = true := am_okOf 31 (fun pc i j h => am_gd_some (show am_f50 pc = some (i, j) from h)) (by decide +kernel)
theorem am_k51 : ∀ pc i j, am_fet 51 pc = some (i, j) → am_okR 51 pc i j = true := am_okOf 12 (fun pc i j h => am_gd_some (show am_f51 pc = some (i, j) from h)) (by decide +kernel)
theorem am_k52 : ∀ pc i j, am_fet 52 pc = some (i, j) → am_okR 52 pc i j = true := am_okOf 27 (fun pc i j h => am_gd_some (show am_f52 pc = some (i, j) from h)) (by decide +kernel)
theorem am_k53 : ∀ pc i j, am_fet 53 pc = some (i, j) → am_okR 53 pc i j = true := am_okOf 65 (fun pc i j h => am_gd_some (show am_f53 pc = some (i, j) from h)) (by decide +kernel)
theorem am_k54 : ∀ pc i j, am_fet 54 pc = some (i, j) → am_okR 54 pc i j = true := am_okOf 26 (fun pc i j h => am_gd_some (show am_f54 pc = some (i, j) from h)) (by decide +kernel)
theorem am_k55 : ∀ pc i j, am_fet 55 pc = some (i, j) → am_okR 55 pc i j = true := am_okOf 106 (fun pc i j h => am_gd_some (show am_f55 pc = some (i, j) from h)) (by decide +kernel)
theorem am_k56 : ∀ pc i j, am_fet 56 pc = some (i, j) → am_okR 56 pc i j = true := am_okOf 32 (fun pc i j h => am_gd_some (show am_f56 pc = some (i, j) from h)) (by decide +kernel)
theorem am_k57 : ∀ pc i j, am_fet 57 pc = some (i, j) → am_okR 57 pc i j = true := am_okOf 46 (fun pc i j h => am_gd_some (show am_f57 pc = some (i, j) from h)) (by decide +kernel)
theorem am_k58 : ∀ pc i j, am_fet 58 pc = some (i, j) → am_okR 58 pc i j = true := am_okOf 22 (fun pc i j h => am_gd_some (show am_f58 pc = some (i, j) from h)) (by decide +kernel)
theorem am_k59 : ∀ pc i j, am_fet 59 pc = some (i, j) → am_okR 59 pc i j = true := am_okOf 102 (fun pc i j h => am_gd_some (show am_f59 pc = some (i, j) from h)) (by decide +kernel)
theorem am_k60 : ∀ pc i j, am_fet 60 pc = some (i, j) → am_okR 60 pc i j = true := am_okOf 59 (fun pc i j h => am_gd_some (show am_f60 pc = some (i, j) from h)) (by decide +kernel)
theorem am_k61 : ∀ pc i j, am_fet 61 pc = some (i, j) → am_okR 61 pc i j = true := am_okOf 46 (fun pc i j h => am_gd_some (show am_f61 pc = some (i, j) from h)) (by decide +kernel)
theorem am_k62 : ∀ pc i j, am_fet 62 pc = some (i, j) → am_okR 62 pc i j = true := am_okOf 51 (fun pc i j h => am_gd_some (show am_f62 pc = some (i, j) from h)) (by decide +kernel)
theorem am_k63 : ∀ pc i j, am_fet 63 pc = some (i, j) → am_okR 63 pc i j = true := am_okOf 53 (fun pc i j h => am_gd_some (show am_f63 pc = some (i, j) from h)) (by decide +kernel)
theorem am_k64 : ∀ pc i j, am_fet 64 pc = some (i, j) → am_okR 64 pc i j = true := am_okOf 179 (fun pc i j h => am_gd_some (show am_f64 pc = some (i, j) from h)) (by decide +kernel)
theorem am_k65 : ∀ pc i j, am_fet 65 pc = some (i, j) → am_okR 65 pc i j = true := am_okOf 44 (fun pc i j h => am_gd_some (show am_f65 pc = some (i, j) from h)) (by decide +kernel)
theorem am_k66 : ∀ pc i j, am_fet 66 pc = some (i, j) → am_okR 66 pc i j = true := am_okOf 31 (fun pc i j h => am_gd_some (show am_f66 pc = some (i, j) from h)) (by decide +kernel)
theorem am_k67 : ∀ pc i j, am_fet 67 pc = some (i, j) → am_okR 67 pc i j = true := am_okOf 13 (fun pc i j h => am_gd_some (show am_f67 pc = some (i, j) from h)) (by decide +kernel)
theorem am_k68 : ∀ pc i j, am_fet 68 pc = some (i, j) → am_okR 68 pc i j = true := am_okOf 120 (fun pc i j h => am_gd_some (show am_f68 pc = some (i, j) from h)) (by decide +kernel)
theorem am_k69 : ∀ pc i j, am_fet 69 pc = some (i, j) → am_okR 69 pc i j = true := am_okOf 27 (fun pc i j h => am_gd_some (show am_f69 pc = some (i, j) from h)) (by decide +kernel)
theorem am_k70 : ∀ pc i j, am_fet 70 pc = some (i, j) → am_okR 70 pc i j = true := am_okOf 42 (fun pc i j h => am_gd_some (show am_f70 pc = some (i, j) from h)) (by decide +kernel)
theorem am_k71 : ∀ pc i j, am_fet 71 pc = some (i, j) → am_okR 71 pc i j = true := am_okOf 39 (fun pc i j h => am_gd_some (show am_f71 pc = some (i, j) from h)) (by decide +kernel)
theorem am_k72 : ∀ pc i j, am_fet 72 pc = some (i, j) → am_okR 72 pc i j = true := am_okOf 89 (fun pc i j h => am_gd_some (show am_f72 pc = some (i, j) from h)) (by decide +kernel)
theorem am_k73 : ∀ pc i j, am_fet 73 pc = some (i, j) → am_okR 73 pc i j = true := am_okOf 159 (fun pc i j h => am_gd_some (show am_f73 pc = some (i, j) from h)) (by decide +kernel)
theorem am_k74 : ∀ pc i j, am_fet 74 pc = some (i, j) → am_okR 74 pc i j = true := am_okOf 24 (fun pc i j h => am_gd_some (show am_f74 pc = some (i, j) from h)) (by decide +kernel)
theorem am_k75 : ∀ pc i j, am_fet 75 pc = some (i, j) → am_okR 75 pc i j = true := am_okOf 15 (fun pc i j h => am_gd_some (show am_f75 pc = some (i, j) from h)) (by decide +kernel)
theorem am_k76 : ∀ pc i j, am_fet 76 pc = some (i, j) → am_okR 76 pc i j = true := am_okOf 62 (fun pc i j h => am_gd_some (show am_f76 pc = some (i, j) from h)) (by decide +kernel)
theorem am_k77 : ∀ pc i j, am_fet 77 pc = some (i, j) → am_okR 77 pc i j = true := am_okOf 23 (fun pc i j h => am_gd_some (show am_f77 pc = some (i, j) from h)) (by decide +kernel)
theorem am_k78 : ∀ pc i j, am_fet 78 pc = some (i, j) → am_okR 78 pc i j = true := am_okOf 9 (fun pc i j h => am_gd_some (show am_f78 pc = some (i, j) from h)) (by decide +kernel)
theorem am_k79 : ∀ pc i j, am_fet 79 pc = some (i, j) → am_okR 79 pc i j = true := am_okOf 30 (fun pc i j h => am_gd_some (show am_f79 pc = some (i, j) from h)) (by decide +kernel)
theorem am_k80 : ∀ pc i j, am_fet 80 pc = some (i, j) → am_okR 80 pc i j = true := am_okOf 25 (fun pc i j h => am_gd_some (show am_f80 pc = some (i, j) from h)) (by decide +kernel)
theorem am_k81 : ∀ pc i j, am_fet 81 pc = some (i, j) → am_okR 81 pc i j = true := am_okOf 47 (fun pc i j h => am_gd_some (show am_f81 pc = some (i, j) from h)) (by decide +kernel)
theorem am_k82 : ∀ pc i j, am_fet 82 pc = some (i, j) → am_okR 82 pc i j = true := am_okOf 44 (fun pc i j h => am_gd_some (show am_f82 pc = some (i, j) from h)) (by decide +kernel)
theorem am_k83 : ∀ pc i j, am_fet 83 pc = some (i, j) → am_okR 83 pc i j = true := am_okOf 39 (fun pc i j h => am_gd_some (show am_f83 pc = some (i, j) from h)) (by decide +kernel)
theorem am_k84 : ∀ pc i j, am_fet 84 pc = some (i, j) → am_okR 84 pc i j = true := am_okOf 72 (fun pc i j h => am_gd_some (show am_f84 pc = some (i, j) from h)) (by decide +kernel)
theorem am_k85 : ∀ pc i j, am_fet 85 pc = some (i, j) → am_okR 85 pc i j = true := am_okOf 43 (fun pc i j h => am_gd_some (show am_f85 pc = some (i, j) from h)) (by decide +kernel)
theorem am_k86 : ∀ pc i j, am_fet 86 pc = some (i, j) → am_okR 86 pc i j = true := am_okOf 15 (fun pc i j h => am_gd_some (show am_f86 pc = some (i, j) from h)) (by decide +kernel)
theorem am_k87 : ∀ pc i j, am_fet 87 pc = some (i, j) → am_okR 87 pc i j = true := am_okOf 8 (fun pc i j h => am_gd_some (show am_f87 pc = some (i, j) from h)) (by decide +kernel)
theorem am_k88 : ∀ pc i j, am_fet 88 pc = some (i, j) → am_okR 88 pc i j = true := am_okOf 21 (fun pc i j h => am_gd_some (show am_f88 pc = some (i, j) from h)) (by decide +kernel)
theorem am_k89 : ∀ pc i j, am_fet 89 pc = some (i, j) → am_okR 89 pc i j = true := am_okOf 53 (fun pc i j h => am_gd_some (show am_f89 pc = some (i, j) from h)) (by decide +kernel)
theorem am_k90 : ∀ pc i j, am_fet 90 pc = some (i, j) → am_okR 90 pc i j = true := am_okOf 42 (fun pc i j h => am_gd_some (show am_f90 pc = some (i, j) from h)) (by decide +kernel)
theorem am_k91 : ∀ pc i j, am_fet 91 pc = some (i, j) → am_okR 91 pc i j = true := am_okOf 14 (fun pc i j h => am_gd_some (show am_f91 pc = some (i, j) from h)) (by decide +kernel)
theorem am_k92 : ∀ pc i j, am_fet 92 pc = some (i, j) → am_okR 92 pc i j = true := am_okOf 7 (fun pc i j h => am_gd_some (show am_f92 pc = some (i, j) from h)) (by decide +kernel)
theorem am_k93 : ∀ pc i j, am_fet 93 pc = some (i, j) → am_okR 93 pc i j = true := am_okOf 120 (fun pc i j h => am_gd_some (show am_f93 pc = some (i, j) from h)) (by decide +kernel)
theorem am_k94 : ∀ pc i j, am_fet 94 pc = some (i, j) → am_okR 94 pc i j = true := am_okOf 76 (fun pc i j h => am_gd_some (show am_f94 pc = some (i, j) from h)) (by decide +kernel)
theorem am_q95_0 : ∀ pc, 0 ≤ pc → pc < 50 → am_okA 95 pc = true := am_okRange (by decide +kernel)
theorem am_q95_1 : ∀ pc, 50 ≤ pc → pc < 100 → am_okA 95 pc = true := am_okRange (by decide +kernel)
theorem am_q95_2 : ∀ pc, 100 ≤ pc → pc < 150 → am_okA 95 pc = true := am_okRange (by decide +kernel)
theorem am_q95_3 : ∀ pc, 150 ≤ pc → pc < 200 → am_okA 95 pc = true := am_okRange (by decide +kernel)
theorem am_q95_4 : ∀ pc, 200 ≤ pc → pc < 250 → am_okA 95 pc = true := am_okRange (by decide +kernel)
theorem am_q95_5 : ∀ pc, 250 ≤ pc → pc < 300 → am_okA 95 pc = true := am_okRange (by decide +kernel)
theorem am_q95_6 : ∀ pc, 300 ≤ pc → pc < 350 → am_okA 95 pc = true := am_okRange (by decide +kernel)
theorem am_q95_7 : ∀ pc, 350 ≤ pc → pc < 400 → am_okA 95 pc = true := am_okRange (by decide +kernel)
theorem am_q95_8 : ∀ pc, 400 ≤ pc → pc < 450 → am_okA 95 pc = true := am_okRange (by decide +kernel)
theorem am_q95_9 : ∀ pc, 450 ≤ pc → pc < 500 → am_okA 95 pc = true := am_okRange (by decide +kernel)
theorem am_q95_10 : ∀ pc, 500 ≤ pc → pc < 550 → am_okA 95 pc = true := am_okRange (by decide +kernel)
theorem am_q95_11 : ∀ pc, 550 ≤ pc → pc < 600 → am_okA 95 pc = true := am_okRange (by decide +kernel)
theorem am_q95_12 : ∀ pc, 600 ≤ pc → pc < 650 → am_okA 95 pc = true := am_okRange (by decide +kernel)
theorem am_q95_13 : ∀ pc, 650 ≤ pc → pc < 700 → am_okA 95 pc = true := am_okRange (by decide +kernel)
theorem am_q95_14 : ∀ pc, 700 ≤ pc → pc < 750 → am_okA 95 pc = true := am_okRange (by decide +kernel)
theorem am_q95_15 : ∀ pc, 750 ≤ pc → pc < 800 → am_okA 95 pc = true := am_okRange (by decide +kernel)
theorem am_q95_16 : ∀ pc, 800 ≤ pc → pc < 850 → am_okA 95 pc = true := am_okRange (by decide +kernel)
theorem am_q95_17 : ∀ pc, 850 ≤ pc → pc < 900 → am_okA 95 pc = true := am_okRange (by decide +kernel)
theorem am_q95_18 : ∀ pc, 900 ≤ pc → pc < 950 → am_okA 95 pc = true := am_okRange (by decide +kernel)
theorem am_q95_19 : ∀ pc, 950 ≤ pc → pc < 1000 → am_okA 95 pc = true := am_okRange (by decide +kernel)
theorem am_q95_20 : ∀ pc, 1000 ≤ pc → pc < 1050 → am_okA 95 pc = true := am_okRange (by decide +kernel)
theorem am_q95_21 : ∀ pc, 1050 ≤ pc → pc < 1100 → am_okA 95 pc = true := am_okRange (by decide +kernel)
theorem am_q95_22 : ∀ pc, 1100 ≤ pc → pc < 1150 → am_okA 95 pc = true := am_okRange (by decide +kernel)
theorem am_q95_23 : ∀ pc, 1150 ≤ pc → pc < 1200 → am_okA 95 pc = true := am_okRange (by decide +kernel)
theorem am_q95_24 : ∀ pc, 1200 ≤ pc → pc < 1250 → am_okA 95 pc = true := am_okRange (by decide +kernel)
theorem am_q95_25 : ∀ pc, 1250 ≤ pc → pc < 1273 → am_okA 95 pc = true := am_okRange (by decide +kernel)
theorem am_q95 (pc : Nat) (h : pc < 1273) : am_okA 95 pc = true := by
  rcases Nat.lt_or_ge pc 50 with q0 | q0
  · exact am_q95_0 pc (by omega) q0
  rcases Nat.lt_or_ge pc 100 with q1 | q1
  · exact am_q95_1 pc (by omega) q1
  rcases Nat.lt_or_ge pc 150 with q2 | q2
  · exact am_q95_2 pc (by omega) q2
  rcases Nat.lt_or_ge pc 200 with q3 | q3
  · exact am_q95_3 pc (by omega) q3
  rcases Nat.lt_or_ge pc 250 with q4 | q4
  · exact am_q95_4 pc (by omega) q4
  rcases Nat.lt_or_ge pc 300 with q5 | q5
  · exact am_q95_5 pc (by omega) q5
  rcases Nat.lt_or_ge pc 350 with q6 | q6
  · exact am_q95_6 pc (by omega) q6
  rcases Nat.lt_or_ge pc 400 with q7 | q7
  · exact am_q95_7 pc (by omega) q7
  rcases Nat.lt_or_ge pc 450 with q8 | q8
  · exact am_q95_8 pc (by omega) q8
  rcases Nat.lt_or_ge pc 500 with q9 | q9
  · exact am_q95_9 pc (by omega) q9
  rcases Nat.lt_or_ge pc 550 with q10 | q10
  · exact am_q95_10 pc (by omega) q10
  rcases Nat.lt_or_ge pc 600 with q11 | q11
  · exact am_q95_11 pc (by omega) q11
  rcases Nat.lt_or_ge pc 650 with q12 | q12
  · exact am_q95_12 pc (by omega) q12
  rcases Nat.lt_or_ge pc 700 with q13 | q13
  · exact am_q95_13 pc (by omega) q13
  rcases Nat.lt_or_ge pc 750 with q14 | q14
  · exact am_q95_14 pc (by omega) q14
  rcases Nat.lt_or_ge pc 800 with q15 | q15
  · exact am_q95_15 pc (by omega) q15
  rcases Nat.lt_or_ge pc 850 with q16 | q16
  · exact am_q95_16 pc (by omega) q16
  rcases Nat.lt_or_ge pc 900 with q17 | q17
  · exact am_q95_17 pc (by omega) q17
  rcases Nat.lt_or_ge pc 950 with q18 | q18
  · exact am_q95_18 pc (by omega) q18
  rcases Nat.lt_or_ge pc 1000 with q19 | q19
  · exact am_q95_19 pc (by omega) q19
  rcases Nat.lt_or_ge pc 1050 with q20 | q20
  · exact am_q95_20 pc (by omega) q20
  rcases Nat.lt_or_ge pc 1100 with q21 | q21
  · exact am_q95_21 pc (by omega) q21
  rcases Nat.lt_or_ge pc 1150 with q22 | q22
  · exact am_q95_22 pc (by omega) q22
  rcases Nat.lt_or_ge pc 1200 with q23 | q23
  · exact am_q95_23 pc (by omega) q23
  rcases Nat.lt_or_ge pc 1250 with q24 | q24
  · exact am_q95_24 pc (by omega) q24
  exact am_q95_25 pc (by omega) h
theorem am_k95 : ∀ pc i j, am_fet 95 pc = some (i, j) → am_okR 95 pc i j = true := am_okOf2 1273 (fun pc i j h => am_gd_some (show am_f95 pc = some (i, j) from h)) am_q95
theorem am_kg0 (m : Nat) (h1 : 0 ≤ m) (h2 : m < 8) : am_okP m := by
  rcases (show m = 0 ∨ m = 1 ∨ m = 2 ∨ m = 3 ∨ m = 4 ∨ m = 5 ∨ m = 6 ∨ m = 7 by omega) with rfl | rfl | rfl | rfl | rfl | rfl | rfl | rfl
  · exact am_k0
  · exact am_k1
  · exact am_k2
  · exact am_k3
  · exact am_k4
  · exact am_k5
  · exact am_k6
  · exact am_k7
theorem am_kg1 (m : Nat) (h1 : 8 ≤ m) (h2 : m < 16) : am_okP m := by
  rcases (show m = 8 ∨ m = 9 ∨ m = 10 ∨ m = 11 ∨ m = 12 ∨ m = 13 ∨ m = 14 ∨ m = 15 by omega) with rfl | rfl | rfl | rfl | rfl | rfl | rfl | rfl
  · exact am_k8
  · exact am_k9
  · exact am_k10
  · exact am_k11
  · exact am_k12
  · exact am_k13
  · exact am_k14
  · exact am_k15
theorem am_kg2 (m : Nat) (h1 : 16 ≤ m) (h2 : m < 24) : am_okP m := by
  rcases (show m = 16 ∨ m = 17 ∨ m = 18 ∨ m = 19 ∨ m = 20 ∨ m = 21 ∨ m = 22 ∨ m = 23 by omega) with rfl | rfl | rfl | rfl | rfl | rfl | rfl | rfl
  · exact am_k16
  · exact am_k17
  · exact am_k18
  · exact am_k19
  · exact am_k20
  · exact am_k21
  · exact am_k22
  · exact am_k23
theorem am_kg3 (m : Nat) (h1 : 24 ≤ m) (h2 : m < 32) : am_okP m := by
  rcases (show m = 24 ∨ m = 25 ∨ m = 26 ∨ m = 27 ∨ m = 28 ∨ m = 29 ∨ m = 30 ∨ m = 31 by omega) with rfl | rfl | rfl | rfl | rfl | rfl | rfl | rfl
  · exact am_k24
  · exact am_k25
  · exact am_k26
  · exact am_k27
  · exact am_k28
  · exact am_k29
  · exact am_k30
  · exact am_k31
theorem am_kg4 (m : Nat) (h1 : 32 ≤ m) (h2 : m < 40) : am_okP m := by
  rcases (show m = 32 ∨ m = 33 ∨ m = 34 ∨ m = 35 ∨ m = 36 ∨ m = 37 ∨ m = 38 ∨ m = 39 by omega) with rfl | rfl | rfl | rfl | rfl | rfl | rfl | rfl
  · exact am_k32
  · exact am_k33
  · exact am_k34
  · exact am_k35
  · exact am_k36
  · exact am_k37
  · exact am_k38
  · exact am_k39
theorem am_kg5 (m : Nat) (h1 : 40 ≤ m) (h2 : m < 48) : am_okP m := by
  rcases (show m = 40 ∨ m = 41 ∨ m = 42 ∨ m = 43 ∨ m = 44 ∨ m = 45 ∨ m = 46 ∨ m = 47 by omega) with rfl | rfl | rfl | rfl | rfl | rfl | rfl | rfl
  · exact am_k40
  · exact am_k41
  · exact am_k42
  · exact am_k43
  · exact am_k44
  · exact am_k45
  · exact am_k46
  · exact am_k47
theorem am_kg6 (m : Nat) (h1 : 48 ≤ m) (h2 : m < 56) : am_okP m := by
  rcases (show m = 48 ∨ m = 49 ∨ m = 50 ∨ m = 51 ∨ m = 52 ∨ m = 53 ∨ m = 54 ∨ m = 55 by omega) with rfl | rfl | rfl | rfl | rfl | rfl | rfl | rfl
  · exact am_k48
  · exact am_k49
  · exact am_k50
  · exact am_k51
  · exact am_k52
  · exact am_k53
  · exact am_k54
  · exact am_k55
theorem am_kg7 (m : Nat) (h1 : 56 ≤ m) (h2 : m < 64) : am_okP m := by
  rcases (show m = 56 ∨ m = 57 ∨ m = 58 ∨ m = 59 ∨ m = 60 ∨ m = 61 ∨ m = 62 ∨ m = 63 by omega) with rfl | rfl | rfl | rfl | rfl | rfl | rfl | rfl
  · exact am_k56
  · exact am_k57
  · exact am_k58
  · exact am_k59
  · exact am_k60
  · exact am_k61
  · exact am_k62
  · exact am_k63
theorem am_kg8 (m : Nat) (h1 : 64 ≤ m) (h2 : m < 72) : am_okP m := by
  rcases (show m = 64 ∨ m = 65 ∨ m = 66 ∨ m = 67 ∨ m = 68 ∨ m = 69 ∨ m = 70 ∨ m = 71 by omega) with rfl | rfl | rfl | rfl | rfl | rfl | rfl | rfl
  · exact am_k64
  · exact am_k65
  · exact am_k66
  · exact am_k67
  · exact am_k68
  · exact am_k69
  · exact am_k70
  · exact am_k71
theorem am_kg9 (m : Nat) (h1 : 72 ≤ m) (h2 : m < 80) : am_okP m := by
  rcases (show m = 72 ∨ m = 73 ∨ m = 74 ∨ m = 75 ∨ m = 76 ∨ m = 77 ∨ m = 78 ∨ m = 79 by omega) with rfl | rfl | rfl | rfl | rfl | rfl | rfl | rfl
  · exact am_k72
  · exact am_k73
  · exact am_k74
  · exact am_k75
  · exact am_k76
  · exact am_k77
  · exact am_k78
  · exact am_k79
theorem am_kg10 (m : Nat) (h1 : 80 ≤ m) (h2 : m < 88) : am_okP m := by
  rcases (show m = 80 ∨ m = 81 ∨ m = 82 ∨ m = 83 ∨ m = 84 ∨ m = 85 ∨ m = 86 ∨ m = 87 by omega) with rfl | rfl | rfl | rfl | rfl | rfl | rfl | rfl
  · exact am_k80
  · exact am_k81
  · exact am_k82
  · exact am_k83
  · exact am_k84
  · exact am_k85
  · exact am_k86
  · exact am_k87
theorem am_kg11 (m : Nat) (h1 : 88 ≤ m) (h2 : m < 96) : am_okP m := by
  rcases (show m = 88 ∨ m = 89 ∨ m = 90 ∨ m = 91 ∨ m = 92 ∨ m = 93 ∨ m = 94 ∨ m = 95 by omega) with rfl | rfl | rfl | rfl | rfl | rfl | rfl | rfl
  · exact am_k88
  · exact am_k89
  · exact am_k90
  · exact am_k91
  · exact am_k92
  · exact am_k93
  · exact am_k94
  · exact am_k95
theorem am_okAll (m pc : Nat) (i : Instr) (j : Nat) (h : am_fet m pc = some (i, j)) : am_okR m pc i j = true := by
  have hm : m < 96 := by
    rcases Nat.lt_or_ge m 96 with q | q
    · exact q
    · rw [am_fet, Nat.ble_eq_true_of_le q] at h; cases h
  rcases Nat.lt_or_ge m 8 with q0 | q0
  · exact am_kg0 m (by omega) q0 pc i j h
  rcases Nat.lt_or_ge m 16 with q1 | q1
  · exact am_kg1 m (by omega) q1 pc i j h
  rcases Nat.lt_or_ge m 24 with q2 | q2
  · exact am_kg2 m (by omega) q2 pc i j h
  rcases Nat.lt_or_ge m 32 with q3 | q3
  · exact am_kg3 m (by omega) q3 pc i j h
  rcases Nat.lt_or_ge m 40 with q4 | q4
  · exact am_kg4 m (by omega) q4 pc i j h
  rcases Nat.lt_or_ge m 48 with q5 | q5
  · exact am_kg5 m (by omega) q5 pc i j h
  rcases Nat.lt_or_ge m 56 with q6 | q6
  · exact am_kg6 m (by omega) q6 pc i j h
  rcases Nat.lt_or_ge m 64 with q7 | q7
  · exact am_kg7 m (by omega) q7 pc i j h
  rcases Nat.lt_or_ge m 72 with q8 | q8
  · exact am_kg8 m (by omega) q8 pc i j h
  rcases Nat.lt_or_ge m 80 with q9 | q9
  · exact am_kg9 m (by omega) q9 pc i j h
  rcases Nat.lt_or_ge m 88 with q10 | q10
  · exact am_kg10 m (by omega) q10 pc i j h
  exact am_kg11 m (by omega) hm pc i j h
end
section
/-! WORLDS: the abstract machine's memory as cells of the heap -/
def am_cv (ad : Nat → Nat) : Value → Value
  | .ref a => .ref (ad a)
  | v => v
def am_fv (ad : Nat → Nat) (c : Nat) (x : Int32) : Value := match c with
  | 0 => .int x
  | 1 => .null
  | b + 2 => .ref (ad b)
def am_flds (ad : Nat → Nat) (fs : List Nat) (f : Nat → Int32) : List Value := (List.range fs.length).map (fun j => am_fv ad (fs.getD j 0) (f j))
def am_cell (ad : Nat → Nat) (cA : Nat → ClassId) (e : Nat × Nat × List Nat) (k : Nat) (f : Nat → Int32) : va_E := match e.1 with
  | 0 => .inl (cA k, e.2.1, .inl f)
  | 1 => .inl (cA k, e.2.1, .inl f)
  | 2 => .inl (cA k, e.2.1, .inl f)
  | c + 3 => .inr (c, am_flds ad e.2.2 f)
def am_ws (ad : Nat → Nat) (cA : Nat → ClassId) (sh : am_Sh) (μ : am_Mu) : va_W := (List.range sh.length).map (fun k => (ad k, am_cell ad cA (sh.getD k (0, 0, [])) k (μ k)))
def am_ty (kd : Nat) : FieldType := match kd with
  | 0 => .int
  | 1 => .boolean
  | _ => .byte
def am_Ar (cA : Nat → ClassId) (sh : am_Sh) (U : State) : Prop := ∀ (k : Nat) (e : Nat × Nat × List Nat), sh[k]? = some e → e.1 < 3 → ArrOfT U (cA k) (am_ty e.1) ∧ va_RA U (cA k) (am_ty e.1)
/-- an object's slots are as its class has them -/
def am_Wf (sh : am_Sh) : Prop := ∀ (a ci n : Nat) (fs : List Nat), sh[a]? = some (ci + 3, n, fs) → fs.length = (am_fresh.getD ci []).length ∧ ∀ (k c : Nat), fs[k]? = some c → (c = 0 ↔ (am_fresh.getD ci []).getD k 9 = 0)
def am_Wd (dC : Nat → ClassId) (dI : Nat → Nat → Nat) (ad : Nat → Nat) (cA : Nat → ClassId) (A : Nat → Prop) (sh : am_Sh) (μ : am_Mu) (U : State) (H : Heap) : Prop :=
  va_P (dC, dI) am_cl (am_ws ad cA sh μ) H ∧ va_D A (am_ws ad cA sh μ) ∧ va_K (dC, dI) am_cl [] U ∧ am_Ar cA sh U ∧ am_Wf sh
theorem am_ws_len (ad : Nat → Nat) (cA : Nat → ClassId) (sh : am_Sh) (μ : am_Mu) : (am_ws ad cA sh μ).length = sh.length := by simp [am_ws]
theorem am_ws_get {ad : Nat → Nat} {cA : Nat → ClassId} {sh : am_Sh} {μ : am_Mu} {k : Nat} {e : Nat × Nat × List Nat} (h : sh[k]? = some e) : (am_ws ad cA sh μ)[k]? = some (ad k, am_cell ad cA e k (μ k)) := by
  have hk : k < sh.length := (List.getElem?_eq_some_iff.mp h).1
  simp only [am_ws, List.getElem?_map, List.getElem?_range hk, Option.map_some, List.getD_eq_getElem?_getD, h, Option.getD_some]
theorem am_ws_of {ad : Nat → Nat} {cA : Nat → ClassId} {sh : am_Sh} {μ : am_Mu} {k : Nat} {q : Nat × va_E} (h : (am_ws ad cA sh μ)[k]? = some q) : k < sh.length ∧ q.1 = ad k := by
  have hk : k < sh.length := by
    have := (List.getElem?_eq_some_iff.mp h).1
    rwa [am_ws_len] at this
  obtain ⟨e, he⟩ : ∃ e, sh[k]? = some e := ⟨_, List.getElem?_eq_getElem hk⟩
  rw [am_ws_get he] at h
  exact ⟨hk, by rw [← Option.some.inj h]⟩
theorem am_flds_get {ad : Nat → Nat} {fs : List Nat} {f : Nat → Int32} {j c : Nat} (h : fs[j]? = some c) : (am_flds ad fs f)[j]? = some (am_fv ad c (f j)) := by
  have hj : j < fs.length := (List.getElem?_eq_some_iff.mp h).1
  simp only [am_flds, List.getElem?_map, List.getElem?_range hj, Option.map_some, List.getD_eq_getElem?_getD, h, Option.getD_some]
theorem am_flds_len (ad : Nat → Nat) (fs : List Nat) (f : Nat → Int32) : (am_flds ad fs f).length = fs.length := by simp [am_flds]
theorem am_flds_none {ad : Nat → Nat} {fs : List Nat} {f : Nat → Int32} {j : Nat} (h : fs[j]? = none) : (am_flds ad fs f)[j]? = none := by
  rw [List.getElem?_eq_none_iff] at h ⊢
  rw [am_flds_len]; exact h
/-- a number is written into a slot -/
theorem am_flds_put {ad : Nat → Nat} {fs : List Nat} {μ : am_Mu} {a j : Nat} {x : Int32} (h : fs[j]? = some 0) : (am_flds ad fs (μ a)).set j (.int x) = am_flds ad fs (am_up μ a j x a) := by
  apply List.ext_getElem?
  intro i
  rw [List.getElem?_set, am_flds_len]
  by_cases hij : j = i
  · subst hij
    have hj : j < fs.length := (List.getElem?_eq_some_iff.mp h).1
    rw [if_pos rfl, if_pos hj, am_flds_get h]
    simp [am_up, am_fv]
  · rw [if_neg hij]
    cases hc : fs[i]? with
    | none => rw [am_flds_none hc, am_flds_none hc]
    | some c =>
      rw [am_flds_get hc, am_flds_get hc]
      have : am_up μ a j x a i = μ a i := by simp [am_up, Ne.symm hij]
      rw [this]
/-- a reference is written into a slot -/
theorem am_flds_putr {ad : Nat → Nat} {fs : List Nat} {f : Nat → Int32} {j b c : Nat} (h : fs[j]? = some c) : (am_flds ad fs f).set j (.ref (ad b)) = am_flds ad (fs.set j (b + 2)) f := by
  apply List.ext_getElem?
  intro i
  have hj : j < fs.length := (List.getElem?_eq_some_iff.mp h).1
  rw [List.getElem?_set, am_flds_len]
  by_cases hij : j = i
  · subst hij
    rw [if_pos rfl, if_pos hj, am_flds_get (c := b + 2) (by rw [List.getElem?_set_self hj])]
    rfl
  · rw [if_neg hij]
    cases hc : fs[i]? with
    | none => rw [am_flds_none hc, am_flds_none (by rw [List.getElem?_set_ne hij]; exact hc)]
    | some c => rw [am_flds_get hc, am_flds_get (by rw [List.getElem?_set_ne hij]; exact hc)]
theorem am_up_ne {μ : am_Mu} {a j k : Nat} {x : Int32} (h : ¬ k = a) : am_up μ a j x k = μ k := by
  funext i; simp [am_up, h]
theorem am_up_eq {μ : am_Mu} {a j : Nat} {x : Int32} : am_up μ a j x a = upd (μ a) j x := by
  funext i; simp [am_up, upd]
theorem am_row_ne {μ : am_Mu} {a k : Nat} {f : Nat → Int32} (h : ¬ k = a) : am_row μ a f k = μ k := by simp [am_row, h]
theorem am_row_eq {μ : am_Mu} {a : Nat} {f : Nat → Int32} : am_row μ a f a = f := by simp [am_row]
/-- one cell is written -/
theorem am_ws_set {ad : Nat → Nat} {cA : Nat → ClassId} {sh sh' : am_Sh} {μ μ' : am_Mu} {a : Nat} {e' : Nat × Nat × List Nat} {E : va_E} (hl : sh'.length = sh.length) (ha : sh'[a]? = some e') (hE : E = am_cell ad cA e' a (μ' a)) (hr : ∀ k, ¬ k = a → sh'[k]? = sh[k]? ∧ μ' k = μ k) : (am_ws ad cA sh μ).set a (ad a, E) = am_ws ad cA sh' μ' := by
  apply List.ext_getElem?
  intro i
  rw [List.getElem?_set, am_ws_len]
  by_cases hij : a = i
  · subst hij
    have hj : a < sh.length := by rw [← hl]; exact (List.getElem?_eq_some_iff.mp ha).1
    rw [if_pos rfl, if_pos hj, am_ws_get ha, hE]
  · rw [if_neg hij]
    obtain ⟨h1, h2⟩ := hr i (fun h => hij h.symm)
    cases hc : sh[i]? with
    | none =>
      have n1 : ∀ {s : am_Sh} {ν : am_Mu}, s[i]? = none → (am_ws ad cA s ν)[i]? = none := by
        intro s ν h
        rw [List.getElem?_eq_none_iff] at h ⊢
        rw [am_ws_len]; exact h
      rw [n1 hc, n1 (h1.trans hc)]
    | some c => rw [am_ws_get hc, am_ws_get (h1.trans hc), h2]
theorem am_sl_aux (l : List Nat) : ∀ k : Nat, l[k]?.getD 0 ≤ l.sum := by
  induction l with
  | nil => intro k; simp
  | cons x t ih =>
    intro k
    cases k with
    | zero => simp
    | succ k => have := ih k; simp only [List.getElem?_cons_succ, List.sum_cons]; omega
/-- slots of all cells -/
def am_sl (sh : am_Sh) : Nat := (sh.map fun e => e.2.1).sum
theorem am_sl_app (sh : am_Sh) (e : Nat × Nat × List Nat) : am_sl (sh ++ [e]) = am_sl sh + e.2.1 := by simp [am_sl]
theorem am_sl_set {sh : am_Sh} {a : Nat} {e e' : Nat × Nat × List Nat} (h : sh[a]? = some e) (hn : e'.2.1 = e.2.1) : am_sl (sh.set a e') = am_sl sh := by
  unfold am_sl
  congr 1
  apply List.ext_getElem?
  intro i
  rw [List.getElem?_map, List.getElem?_map, List.getElem?_set]
  by_cases hij : a = i
  · subst hij
    have hj : a < sh.length := (List.getElem?_eq_some_iff.mp h).1
    rw [if_pos rfl, if_pos hj, h]
    simp [hn]
  · rw [if_neg hij]
theorem am_Wd.K {dC : Nat → ClassId} {dI : Nat → Nat → Nat} {ad : Nat → Nat} {cA : Nat → ClassId} {A : Nat → Prop} {sh : am_Sh} {μ : am_Mu} {U : State} {H : Heap} (h : am_Wd dC dI ad cA A sh μ U H) {k : Nat} {e : Nat × Nat × List Nat} (hk : sh[k]? = some e) (hl : e.1 < 3) : va_K (dC, dI) am_cl [(cA k, am_ty e.1)] U := by
  refine ⟨h.2.2.1.1, fun i q hq => ?_⟩
  cases i with
  | zero => cases hq; exact h.2.2.2.1 k e hk hl
  | succ i => simp at hq
theorem am_Wd.lt {dC : Nat → ClassId} {dI : Nat → Nat → Nat} {ad : Nat → Nat} {cA : Nat → ClassId} {A : Nat → Prop} {sh : am_Sh} {μ : am_Mu} {U : State} {H : Heap} (h : am_Wd dC dI ad cA A sh μ U H) {k : Nat} (hk : k < sh.length) : ad k < H.size ∧ A (ad k) := by
  obtain ⟨e, he⟩ : ∃ e, sh[k]? = some e := ⟨_, List.getElem?_eq_getElem hk⟩
  have h1 := am_ws_get (ad := ad) (cA := cA) (μ := μ) he
  exact ⟨(h.1 k _ h1).lt, h.2.1.2 k _ h1⟩
/-! locals -/
def am_lvF (ad : Nat → Nat) (L : List Value) (i : Nat) : Option (Nat × Value) := match L[i]? with
  | some (.int x) => some (i, .int x)
  | some (.ref a) => some (i, .ref (ad a))
  | _ => none
def am_lv (ad : Nat → Nat) (L : List Value) : List (Nat × Value) := (List.range L.length).filterMap (am_lvF ad L)
def am_Lok (ad : Nat → Nat) (L : List Value) (ls : Array Slot) (nL : Nat) : Prop := L.length = nL ∧ lv_has ls nL (am_lv ad L)
theorem am_lv_mem {ad : Nat → Nat} {L : List Value} {q : Nat × Value} : q ∈ am_lv ad L ↔ ∃ v, L[q.1]? = some v ∧ am_ir v = true ∧ q.2 = am_cv ad v := by
  unfold am_lv
  rw [List.mem_filterMap]
  constructor
  · rintro ⟨i, -, h⟩
    unfold am_lvF at h
    split at h
    · next x e => cases h; exact ⟨_, e, rfl, rfl⟩
    · next a e => cases h; exact ⟨_, e, rfl, rfl⟩
    · cases h
  · rintro ⟨v, h1, h2, h3⟩
    refine ⟨q.1, List.mem_range.mpr (List.getElem?_eq_some_iff.mp h1).1, ?_⟩
    unfold am_lvF
    rw [h1]
    obtain ⟨i, w⟩ := q
    cases v <;> first | (simp [am_ir] at h2; done) | (dsimp only at h3; subst h3; rfl)
theorem am_Lok.get {ad : Nat → Nat} {L : List Value} {ls : Array Slot} {nL i : Nat} {v : Value} (h : am_Lok ad L ls nL) (hi : L[i]? = some v) (hv : am_ir v = true) : ls[i]? = some (.val (am_cv ad v)) := h.2.2.2 (i, am_cv ad v) (am_lv_mem.mpr ⟨v, hi, hv, rfl⟩)
theorem am_cat1 {ad : Nat → Nat} {v : Value} (h : am_ir v = true) : (am_cv ad v).category = 1 := by
  cases v <;> first | (simp [am_ir] at h; done) | rfl
theorem am_Lok.set {ad : Nat → Nat} {L : List Value} {ls ls' : Array Slot} {nL i : Nat} {v : Value} (h : am_Lok ad L ls nL) (hv : am_ir v = true) (h' : lv_has ls' nL ((i, am_cv ad v) :: (am_lv ad L).filter (fun q => !(q.1 == i) && !(q.1 + 1 == i && q.2.category == 2)))) : am_Lok ad (L.set i v) ls' nL := by
  refine ⟨by rw [List.length_set]; exact h.1, h'.1, h'.2.1, fun q hq => ?_⟩
  obtain ⟨w, h1, h2, h3⟩ := am_lv_mem.mp hq
  obtain ⟨j, z⟩ := q
  dsimp only at h1 h3 ⊢
  subst h3
  by_cases hj : i = j
  · subst hj
    have hl : i < L.length := by
      have := (List.getElem?_eq_some_iff.mp h1).1
      rwa [List.length_set] at this
    rw [List.getElem?_set_self hl] at h1
    cases h1
    exact h'.2.2 (i, am_cv ad v) List.mem_cons_self
  · rw [List.getElem?_set_ne hj] at h1
    refine h'.2.2 (j, am_cv ad w) (List.mem_cons_of_mem _ (List.mem_filter.mpr ⟨am_lv_mem.mpr ⟨w, h1, h2, rfl⟩, ?_⟩))
    have hc := am_cat1 (ad := ad) h2
    simp [Ne.symm hj, hc]
end
section
/-! SOUNDNESS: what the abstract machine does, the machine does -/
def am_Nst (U : State) : Prop := (∀ t ∈ am_lN, va_Nw (am_fldC true t) U) ∧ ∀ t ∈ am_lMN, va_Nw (am_metC true t) U
def am_Cx (p : Program) (R : Room) (s : State) (m : MethodId) (args : Array Value) (meth : Method) (c : Code) (mm d : Nat) : Prop :=
  p.tables.exec = Jvm.exec ∧ c.code = am_cod mm ∧ c.maxLocals = am_nl mm ∧ s.vm.findClass (am_RC (am_ow mm)) = some m.cls ∧ (∀ w ∈ am_tbl, w.before args s = true) ∧ am_Nst s ∧ d ≤ R.frames ∧ 40 * d ≤ R.locals ∧ ((am_yq mm).name = "<init>" → meth.name = "<init>")
/-- the text, as it lies among the cells that were there before -/
def am_Tx (q qv : Nat) (A : Nat → Prop) (s : State) (H : Heap) : Prop := va_O "java/lang/String" q A s H ∧ va_OF "java/lang/String" "coder" "B" (.int 0) q A s H ∧ va_OF "java/lang/String" "value" "[B" (.ref qv) q A s H ∧ va_T .byte qv 29 (fun j => .int (am_txt.getD j 0)) A s H ∧ va_Z "java/lang/String" "COMPACT_STRINGS" "Z" (.int 1) A s H ∧ (∃ f : Value, f.category = 1 ∧ va_Z "jdk/internal/util/Preconditions" "SIOOBE_FORMATTER" "Ljava/util/function/BiFunction;" f A s H) ∧ vk_R "SealBookLaw" 39 "t:xa>y+a;k:xa>y+a,y+b;c:1>x-a" q s
theorem am_Tx.same {q qv : Nat} {A : Nat → Prop} {u U : State} {H : Heap} (hv : U.vm = u.vm) (h : am_Tx q qv A u H) : am_Tx q qv A U H := by
  have hvm : u.vm.Alike U.vm := by rw [hv]; exact Vm.Alike.refl _
  obtain ⟨h1, h2, h3, h4, h5, ⟨f, hf, h6⟩, h7⟩ := h
  exact ⟨h1.moved hvm, h2.moved hvm, h3.moved hvm, h4.moved hvm, h5.moved hvm, ⟨f, hf, h6.moved hvm⟩, h7.same hv⟩
theorem am_Tx.warm {q qv : Nat} {A : Nat → Prop} {s U : State} {H : Heap} (hW : s.WarmedH U.vm) (h : am_Tx q qv A s H) : am_Tx q qv A U H := by
  have hvm := hW.alike
  obtain ⟨h1, h2, h3, h4, h5, ⟨f, hf, h6⟩, h7⟩ := h
  exact ⟨h1.moved hvm, h2.moved hvm, h3.moved hvm, h4.moved hvm, h5.moved hvm, ⟨f, hf, h6.moved hvm⟩, h7.warm hW⟩
theorem am_Tx.kept {q qv : Nat} {A : Nat → Prop} {s : State} {H H1 : Heap} (hq : ∀ a : Nat, a < H.size → ¬ A a → H1[a]? = H[a]?) (h : am_Tx q qv A s H) : am_Tx q qv A s H1 := by
  obtain ⟨h1, h2, h3, h4, h5, ⟨f, hf, h6⟩, h7⟩ := h
  exact ⟨h1.kept hq, h2.kept hq, h3.kept hq, h4.kept hq, h5.kept hq, ⟨f, hf, h6.kept hq⟩, h7⟩
theorem am_Tx.narrow {q qv : Nat} {A B : Nat → Prop} {s : State} {H : Heap} (hAB : ∀ a, B a → A a) (h : am_Tx q qv A s H) : am_Tx q qv B s H := by
  obtain ⟨h1, h2, h3, h4, h5, ⟨f, hf, h6⟩, h7⟩ := h
  exact ⟨h1.narrow hAB, h2.narrow hAB, h3.narrow hAB, h4.narrow hAB, h5.narrow hAB, ⟨f, hf, h6.narrow hAB⟩, h7⟩
def am_Sc (scr : am_Scr) (ad : Nat → Nat) (A : Nat → Prop) (s : State) (H0 : Heap) : Prop := match scr with
  | none => True
  | some none => am_Tx (ad am_STR) (ad am_STV) A s H0
  | some (some (L, xs)) => am_Tx (ad am_STR) (ad am_STV) A s H0 ∧ va_X (ad am_SCR) L xs s H0 ∧ ad am_SCR < H0.size ∧ ¬ A (ad am_SCR)
theorem am_Sc.sub {scr : am_Scr} {ad : Nat → Nat} {A : Nat → Prop} {s : State} {H0 : Heap} (h : am_Sc scr ad A s H0) : am_Sc (am_sub scr) ad A s H0 := by
  match scr, h with
  | none, _ => trivial
  | some none, h => exact h
  | some (some (L, xs)), h => exact h.1
theorem am_Sc.tx {z : Option (Nat × (Nat → Int32))} {ad : Nat → Nat} {A : Nat → Prop} {s : State} {H0 : Heap} (h : am_Sc (some z) ad A s H0) : am_Tx (ad am_STR) (ad am_STV) A s H0 := by
  match z, h with
  | none, h => exact h
  | some (L, xs), h => exact h.1
def am_E3 (ad ad' : Nat → Nat) : Prop := ad' am_SCR = ad am_SCR ∧ ad' am_STR = ad am_STR ∧ ad' am_STV = ad am_STV
theorem am_Sc.cong {scr : am_Scr} {ad ad' : Nat → Nat} {A : Nat → Prop} {s : State} {H0 : Heap} (e : am_E3 ad ad') (h : am_Sc scr ad A s H0) : am_Sc scr ad' A s H0 := by
  match scr, h with
  | none, _ => trivial
  | some none, h =>
    show am_Tx (ad' am_STR) (ad' am_STV) A s H0
    rw [e.2.1, e.2.2]
    exact h
  | some (some (L, xs)), h =>
    show am_Tx (ad' am_STR) (ad' am_STV) A s H0 ∧ va_X (ad' am_SCR) L xs s H0 ∧ ad' am_SCR < H0.size ∧ ¬ A (ad' am_SCR)
    rw [e.1, e.2.1, e.2.2]
    exact h
/-- at a callee's entry -/
theorem am_Sc.at {scr : am_Scr} {ad : Nat → Nat} {A B : Nat → Prop} {s : State} {H0 H : Heap} {locs : List Loc} (h : am_Sc scr ad A s H0) (hS : va_S A H0 H locs) (hAB : ∀ q, B q → A q) : am_Sc scr ad B s H := by
  have hk : ∀ a : Nat, a < H0.size → ¬ A a → H[a]? = H0[a]? := fun a h1 h2 => hS.2.1 a h1 h2
  match scr, h with
  | none, _ => trivial
  | some none, h => exact (am_Tx.kept hk h).narrow hAB
  | some (some (L, xs)), h => exact ⟨(am_Tx.kept hk h.1).narrow hAB, h.2.1.kept (hk _ h.2.2.1 h.2.2.2), Nat.lt_of_lt_of_le h.2.2.1 hS.1, fun q => h.2.2.2 (hAB _ q)⟩
theorem am_Sc.warm {scr : am_Scr} {ad : Nat → Nat} {A : Nat → Prop} {s U : State} {H : Heap} (hW : s.WarmedH U.vm) (h : am_Sc scr ad A s H) : am_Sc scr ad A U H := by
  match scr, h with
  | none, _ => trivial
  | some none, h => exact am_Tx.warm hW h
  | some (some (L, xs)), h => exact ⟨h.1.warm hW, h.2.1.moved hW.alike, h.2.2⟩
theorem am_Sc.same {scr : am_Scr} {ad : Nat → Nat} {A : Nat → Prop} {s U : State} {H : Heap} (hv : U.vm = s.vm) (h : am_Sc scr ad A s H) : am_Sc scr ad A U H := by
  match scr, h with
  | none, _ => trivial
  | some none, h => exact am_Tx.same hv h
  | some (some (L, xs)), h => exact ⟨h.1.same hv, h.2.1.moved (by rw [hv]; exact Vm.Alike.refl _), h.2.2⟩
def am_Ext (ad ad' : Nat → Nat) (sh sh' : am_Sh) : Prop := (∀ k, k < sh.length → ad' k = ad k) ∧ am_E3 ad ad' ∧ (sh'.length = sh.length → ad' = ad)
def am_Rt (mm pc : Nat) (r : Option Value) : Prop := match r with
  | none => decode (am_cod mm) pc = .ok (.return_, 1) ∧ am_rt mm = none
  | some (.int x) => decode (am_cod mm) pc = .ok (.ireturn, 1) ∧ (am_rt mm = some .int ∨ (am_rt mm = some .boolean ∧ x &&& 1 = x))
  | some (.ref _) => decode (am_cod mm) pc = .ok (.areturn, 1) ∧ ∃ C, am_rt mm = some (.object C)
  | _ => False
def am_Sd (scr : am_Scr) (d mm pc : Nat) (L S : List Value) (sh : am_Sh) (μ : am_Mu) (out : am_Out) : Prop :=
  sh.length ≤ out.2.1.length ∧ am_sl sh ≤ am_sl out.2.1 ∧
  ∀ (p : Program) (l : Launch) (e : Env) (R : Room) (s : State) (m : MethodId) (args : Array Value) (below : List Frame) (meth : Method) (c : Code) (H : Heap) (locs : List Loc) (cells slots : Nat) (Q : State → Prop) (ls : Array Slot) (dC : Nat → ClassId) (dI : Nat → Nat → Nat) (ad : Nat → Nat) (cA : Nat → ClassId) (A : Nat → Prop) (H0 : Heap),
    am_Cx p R s m args meth c mm d → am_Wd dC dI ad cA A sh μ s H → va_S A H0 H locs → (∀ q, H0.size ≤ q → A q) → am_Sc scr ad A s H0 → am_Lok ad L ls (am_nl mm) → cells + out.2.1.length ≤ R.cells + sh.length → slots + am_sl out.2.1 ≤ R.slots + am_sl sh →
    (∀ (pc' : Nat) (ad' : Nat → Nat) (cA' : Nat → ClassId) (H' : Heap) (locs' : List Loc) (ls' : Array Slot), am_Ext ad ad' sh out.2.1 → am_Wd dC dI ad' cA' A out.2.1 out.2.2 s H' → va_S A H0 H' locs' → am_Rt mm pc' out.1 → W p l e R s m args below meth c H' locs' (cells + (out.2.1.length - sh.length)) (slots + (am_sl out.2.1 - am_sl sh)) Q (F0 m pc' ls' (out.1.map (am_cv ad')).toList)) →
    W p l e R s m args below meth c H locs cells slots Q (F0 m pc ls (S.map (am_cv ad)))
/-- a step that writes no cell -/
theorem am_Sd.frame {scr : am_Scr} {d mm pc pc' : Nat} {L S L' S' : List Value} {sh : am_Sh} {μ : am_Mu} {out : am_Out}
    (hs : ∀ (p : Program) (l : Launch) (e : Env) (R : Room) (s : State) (m : MethodId) (args : Array Value) (below : List Frame) (meth : Method) (c : Code) (H : Heap) (locs : List Loc) (cells slots : Nat) (Q : State → Prop) (ls : Array Slot) (dC : Nat → ClassId) (dI : Nat → Nat → Nat) (ad : Nat → Nat) (cA : Nat → ClassId) (A : Nat → Prop) (H0 : Heap),
      am_Cx p R s m args meth c mm d → am_Wd dC dI ad cA A sh μ s H → va_S A H0 H locs → am_Sc scr ad A s H0 → am_Lok ad L ls (am_nl mm) → cells ≤ R.cells → slots ≤ R.slots →
      (∀ ls' : Array Slot, am_Lok ad L' ls' (am_nl mm) → W p l e R s m args below meth c H locs cells slots Q (F0 m pc' ls' (S'.map (am_cv ad)))) →
      W p l e R s m args below meth c H locs cells slots Q (F0 m pc ls (S.map (am_cv ad))))
    (h : am_Sd scr d mm pc' L' S' sh μ out) : am_Sd scr d mm pc L S sh μ out := by
  refine ⟨h.1, h.2.1, ?_⟩
  intro p l e R s m args below meth c H locs cells slots Q ls dC dI ad cA A H0 hC hW hS hA hsc hl hc1 hc2 kr
  have a1 := h.1
  have a2 := h.2.1
  exact hs p l e R s m args below meth c H locs cells slots Q ls dC dI ad cA A H0 hC hW hS hsc hl (by omega) (by omega) (fun ls' hl' => h.2.2 p l e R s m args below meth c H locs cells slots Q ls' dC dI ad cA A H0 hC hW hS hA hsc hl' hc1 hc2 kr)
/-- a step that writes one cell -/
theorem am_Sd.write {scr : am_Scr} {d mm pc pc' : Nat} {L S S' : List Value} {sh sh' : am_Sh} {μ μ' : am_Mu} {out : am_Out} (hlen : sh'.length = sh.length) (hsl : am_sl sh' = am_sl sh)
    (hs : ∀ (p : Program) (l : Launch) (e : Env) (R : Room) (s : State) (m : MethodId) (args : Array Value) (below : List Frame) (meth : Method) (c : Code) (H : Heap) (locs : List Loc) (cells slots : Nat) (Q : State → Prop) (ls : Array Slot) (dC : Nat → ClassId) (dI : Nat → Nat → Nat) (ad : Nat → Nat) (cA : Nat → ClassId) (A : Nat → Prop) (H0 : Heap),
      am_Cx p R s m args meth c mm d → am_Wd dC dI ad cA A sh μ s H → va_S A H0 H locs → am_Lok ad L ls (am_nl mm) →
      (∀ (H1 : Heap) (locs1 : List Loc), am_Wd dC dI ad cA A sh' μ' s H1 → va_S A H0 H1 locs1 → W p l e R s m args below meth c H1 locs1 cells slots Q (F0 m pc' ls (S'.map (am_cv ad)))) →
      W p l e R s m args below meth c H locs cells slots Q (F0 m pc ls (S.map (am_cv ad))))
    (h : am_Sd scr d mm pc' L S' sh' μ' out) : am_Sd scr d mm pc L S sh μ out := by
  refine ⟨by rw [← hlen]; exact h.1, by rw [← hsl]; exact h.2.1, ?_⟩
  intro p l e R s m args below meth c H locs cells slots Q ls dC dI ad cA A H0 hC hW hS hA hsc hl hc1 hc2 kr
  refine hs p l e R s m args below meth c H locs cells slots Q ls dC dI ad cA A H0 hC hW hS hl (fun H1 locs1 hW1 hS1 => ?_)
  refine h.2.2 p l e R s m args below meth c H1 locs1 cells slots Q ls dC dI ad cA A H0 hC hW1 hS1 hA hsc hl (by rw [hlen]; exact hc1) (by rw [hsl]; exact hc2) (fun pc2 ad2 cA2 H2 locs2 ls2 g1 g2 g3 g4 => ?_)
  have := kr pc2 ad2 cA2 H2 locs2 ls2 ⟨fun k hk => g1.1 k (by rw [hlen]; exact hk), g1.2.1, fun q => g1.2.2 (by rw [hlen]; exact q)⟩ g2 g3 g4
  rw [hlen, hsl]
  exact this
theorem am_any_mem {l : List (Nat × Nat × Nat × Nat)} {o k j : Nat} (h : am_any l o k j = true) : ∃ t ∈ l, t.1 = o ∧ t.2.1 = k ∧ t.2.2.1 = j := by
  unfold am_any at h
  obtain ⟨t, h1, h2⟩ := List.any_eq_true.mp h
  simp only [Bool.and_eq_true, Nat.beq_eq] at h2
  exact ⟨t, h1, h2.2.1, h2.1, h2.2.2⟩
theorem am_atL_mem {l : List (Nat × Nat × Nat × Nat)} {f : Nat × Nat × Nat × Nat → Cond} (h : am_atL l f = true) {t : Nat × Nat × Nat × Nat} (ht : t ∈ l) : f t ∈ am_tbl := am_in_mem (List.all_eq_true.mp h t ht)
section
variable {scr : am_Scr} {d mm pc : Nat} {L S : List Value} {sh : am_Sh} {μ : am_Mu} {out : am_Out} {i : Instr} {j : Nat}
theorem am_dec (h : am_fet mm pc = some (i, j)) : ∃ n, decode (am_cod mm) pc = .ok (i, n) ∧ am_ln i n = true ∧ am_aux mm pc i j = true := by
  have h1 := am_okAll mm pc i j h
  unfold am_okR at h1
  split at h1
  · next i' n e =>
    simp only [Bool.and_eq_true, decide_eq_true_eq] at h1
    obtain ⟨rfl, h2, h3⟩ := h1
    exact ⟨n, e, h2, h3⟩
  · cases h1
theorem am_dec1 (h : am_fet mm pc = some (i, j)) (n : Nat) (hn : ∀ k, am_ln i k = true → k = n) : decode (am_cod mm) pc = .ok (i, n) ∧ am_aux mm pc i j = true := by
  obtain ⟨k, h1, h2, h3⟩ := am_dec h
  rw [hn k h2] at h1
  exact ⟨h1, h3⟩
theorem am_kon {v : Nat} (h : am_any am_lK (am_ow mm) v j = true) : Cond.constant (am_RC (am_ow mm)) v (Int32.ofNat j) ∈ am_tbl := by
  obtain ⟨t, h1, h2, h3, h4⟩ := am_any_mem h
  have h5 := am_atL_mem am_lK_ok h1
  simpa only [h2, h3, h4] using h5
theorem am_konL {v : Nat} (h : am_any am_lKL (am_ow mm) v j = true) : Cond.constantLong (am_RC (am_ow mm)) v (Int64.ofNat j) ∈ am_tbl := by
  obtain ⟨t, h1, h2, h3, h4⟩ := am_any_mem h
  have h5 := am_atL_mem am_lKL_ok h1
  simpa only [h2, h3, h4] using h5
theorem am_s_iconst {v : Int} (hf : am_fet mm pc = some (.iconst v, j)) (h : am_Sd scr d mm (pc + 1) L (.int (Int32.ofInt v) :: S) sh μ out) : am_Sd scr d mm pc L (S) sh μ out := by
  obtain ⟨hd, hax⟩ := am_dec1 hf 1 (fun k h => Nat.eq_of_beq_eq_true h)
  refine am_Sd.frame (fun p l e R s m args below meth c H locs cells slots Q ls dC dI ad cA A H0 hC hW hS hsc hl hr1 hr2 kk => ?_) h
  obtain ⟨hx, hb, hml, hown, hts, hns, hfr, hlo, hin⟩ := hC
  exact lv_iconst (v := Int32.ofInt v) hx hb hd rfl (kk ls hl)
theorem am_s_bipush {v : Int} (hf : am_fet mm pc = some (.bipush v, j)) (h : am_Sd scr d mm (pc + 2) L (.int (Int8.ofInt v).toInt32 :: S) sh μ out) : am_Sd scr d mm pc L (S) sh μ out := by
  obtain ⟨hd, hax⟩ := am_dec1 hf 2 (fun k h => Nat.eq_of_beq_eq_true h)
  refine am_Sd.frame (fun p l e R s m args below meth c H locs cells slots Q ls dC dI ad cA A H0 hC hW hS hsc hl hr1 hr2 kk => ?_) h
  obtain ⟨hx, hb, hml, hown, hts, hns, hfr, hlo, hin⟩ := hC
  exact lv_bipush hx hb hd rfl (kk ls hl)
theorem am_s_sipush {v : Int} (hf : am_fet mm pc = some (.sipush v, j)) (h : am_Sd scr d mm (pc + 3) L (.int (Int16.ofInt v).toInt32 :: S) sh μ out) : am_Sd scr d mm pc L (S) sh μ out := by
  obtain ⟨hd, hax⟩ := am_dec1 hf 3 (fun k h => Nat.eq_of_beq_eq_true h)
  refine am_Sd.frame (fun p l e R s m args below meth c H locs cells slots Q ls dC dI ad cA A H0 hC hW hS hsc hl hr1 hr2 kk => ?_) h
  obtain ⟨hx, hb, hml, hown, hts, hns, hfr, hlo, hin⟩ := hC
  exact lv_sipush hx hb hd rfl (kk ls hl)
theorem am_s_ldcs {v : Nat} {z : Option (Nat × (Nat → Int32))} (hf : am_fet mm pc = some (.ldc v, j)) (hj : Nat.beq j am_STR = true) (hs : scr = some z) (h : am_Sd scr d mm (pc + 2) L (.ref am_STR :: S) sh μ out) : am_Sd scr d mm pc L (S) sh μ out := by
  obtain ⟨hd, hax⟩ := am_dec1 hf 2 (fun k h => Nat.eq_of_beq_eq_true h)
  simp only [am_aux, hj, cond_true, Bool.and_eq_true, Nat.beq_eq, beq_iff_eq] at hax
  obtain ⟨rfl, hR⟩ := hax
  refine am_Sd.frame (fun p l e R s m args below meth c H locs cells slots Q ls dC dI ad cA A H0 hC hW hS hsc hl hr1 hr2 kk => ?_) h
  obtain ⟨hx, hb, hml, hown, hts, hns, hfr, hlo, hin⟩ := hC
  subst hs
  obtain ⟨h1, h2, h3, h4, h5, h6, h7⟩ := hsc.tx
  rw [hR] at hown
  exact va_ldcS hx hb hown h7 hd (kk ls hl)
theorem am_s_ldc {v : Nat} (hf : am_fet mm pc = some (.ldc v, j)) (hj : Nat.beq j am_STR = false) (h : am_Sd scr d mm (pc + 2) L (.int (Int32.ofNat j) :: S) sh μ out) : am_Sd scr d mm pc L (S) sh μ out := by
  obtain ⟨hd, hax⟩ := am_dec1 hf 2 (fun k h => Nat.eq_of_beq_eq_true h)
  simp only [am_aux, hj, cond_false] at hax
  refine am_Sd.frame (fun p l e R s m args below meth c H locs cells slots Q ls dC dI ad cA A H0 hC hW hS hsc hl hr1 hr2 kk => ?_) h
  obtain ⟨hx, hb, hml, hown, hts, hns, hfr, hlo, hin⟩ := hC
  exact lv_ldc hx hb hown (hts _ (am_kon hax)) hd (kk ls hl)
theorem am_s_ldc_w {v : Nat} (hf : am_fet mm pc = some (.ldc_w v, j)) (h : am_Sd scr d mm (pc + 3) L (.int (Int32.ofNat j) :: S) sh μ out) : am_Sd scr d mm pc L (S) sh μ out := by
  obtain ⟨hd, hax⟩ := am_dec1 hf 3 (fun k h => Nat.eq_of_beq_eq_true h)
  refine am_Sd.frame (fun p l e R s m args below meth c H locs cells slots Q ls dC dI ad cA A H0 hC hW hS hsc hl hr1 hr2 kk => ?_) h
  obtain ⟨hx, hb, hml, hown, hts, hns, hfr, hlo, hin⟩ := hC
  exact lv_ldcw hx hb hown (hts _ (am_kon hax)) hd (kk ls hl)
theorem am_s_ldc2_w {v : Nat} (hf : am_fet mm pc = some (.ldc2_w v, j)) (h : am_Sd scr d mm (pc + 3) L (.long (Int64.ofNat j) :: S) sh μ out) : am_Sd scr d mm pc L (S) sh μ out := by
  obtain ⟨hd, hax⟩ := am_dec1 hf 3 (fun k h => Nat.eq_of_beq_eq_true h)
  refine am_Sd.frame (fun p l e R s m args below meth c H locs cells slots Q ls dC dI ad cA A H0 hC hW hS hsc hl hr1 hr2 kk => ?_) h
  obtain ⟨hx, hb, hml, hown, hts, hns, hfr, hlo, hin⟩ := hC
  exact lv_ldc2 hx hb hown (hts _ (am_konL hax)) hd (kk ls hl)
theorem am_s_iload_n {k : Fin 4} {x : Int32} (hf : am_fet mm pc = some (.iload_n k, j)) (hk : L[k.val]? = some (.int x)) (h : am_Sd scr d mm (pc + 1) L (.int x :: S) sh μ out) : am_Sd scr d mm pc L (S) sh μ out := by
  obtain ⟨hd, hax⟩ := am_dec1 hf 1 (fun k h => Nat.eq_of_beq_eq_true h)
  refine am_Sd.frame (fun p l e R s m args below meth c H locs cells slots Q ls dC dI ad cA A H0 hC hW hS hsc hl hr1 hr2 kk => ?_) h
  obtain ⟨hx, hb, hml, hown, hts, hns, hfr, hlo, hin⟩ := hC
  exact lv_iload_n hx hb hd rfl (hl.get hk rfl) (kk ls hl)
theorem am_s_iload {k : Nat} {x : Int32} (hf : am_fet mm pc = some (.iload k, j)) (hk : L[k]? = some (.int x)) (h : am_Sd scr d mm (pc + 2) L (.int x :: S) sh μ out) : am_Sd scr d mm pc L (S) sh μ out := by
  obtain ⟨hd, hax⟩ := am_dec1 hf 2 (fun k h => Nat.eq_of_beq_eq_true h)
  refine am_Sd.frame (fun p l e R s m args below meth c H locs cells slots Q ls dC dI ad cA A H0 hC hW hS hsc hl hr1 hr2 kk => ?_) h
  obtain ⟨hx, hb, hml, hown, hts, hns, hfr, hlo, hin⟩ := hC
  exact lv_iload hx hb hd (hl.get hk rfl) (kk ls hl)
theorem am_s_aload_n {k : Fin 4} {x : Nat} (hf : am_fet mm pc = some (.aload_n k, j)) (hk : L[k.val]? = some (.ref x)) (h : am_Sd scr d mm (pc + 1) L (.ref x :: S) sh μ out) : am_Sd scr d mm pc L (S) sh μ out := by
  obtain ⟨hd, hax⟩ := am_dec1 hf 1 (fun k h => Nat.eq_of_beq_eq_true h)
  refine am_Sd.frame (fun p l e R s m args below meth c H locs cells slots Q ls dC dI ad cA A H0 hC hW hS hsc hl hr1 hr2 kk => ?_) h
  obtain ⟨hx, hb, hml, hown, hts, hns, hfr, hlo, hin⟩ := hC
  exact lv_aload_n hx hb hd rfl (hl.get hk rfl) (kk ls hl)
theorem am_s_aload {k : Nat} {x : Nat} (hf : am_fet mm pc = some (.aload k, j)) (hk : L[k]? = some (.ref x)) (h : am_Sd scr d mm (pc + 2) L (.ref x :: S) sh μ out) : am_Sd scr d mm pc L (S) sh μ out := by
  obtain ⟨hd, hax⟩ := am_dec1 hf 2 (fun k h => Nat.eq_of_beq_eq_true h)
  refine am_Sd.frame (fun p l e R s m args below meth c H locs cells slots Q ls dC dI ad cA A H0 hC hW hS hsc hl hr1 hr2 kk => ?_) h
  obtain ⟨hx, hb, hml, hown, hts, hns, hfr, hlo, hin⟩ := hC
  exact lv_aload hx hb hd (hl.get hk rfl) (kk ls hl)
theorem am_s_istore_n {k : Fin 4} {x : Int32} (hf : am_fet mm pc = some (.istore_n k, j)) (hk : k.val < L.length) (h : am_Sd scr d mm (pc + 1) (L.set k.val (.int x)) (S) sh μ out) : am_Sd scr d mm pc L (.int x :: S) sh μ out := by
  obtain ⟨hd, hax⟩ := am_dec1 hf 1 (fun k h => Nat.eq_of_beq_eq_true h)
  refine am_Sd.frame (fun p l e R s m args below meth c H locs cells slots Q ls dC dI ad cA A H0 hC hW hS hsc hl hr1 hr2 kk => ?_) h
  obtain ⟨hx, hb, hml, hown, hts, hns, hfr, hlo, hin⟩ := hC
  exact lv_istore_n hx hb hd rfl hl.2 (by rw [← hl.1]; exact hk) rfl (fun ls9 hl9 => kk ls9 (hl.set (v := .int x) rfl hl9))
theorem am_s_istore {k : Nat} {x : Int32} (hf : am_fet mm pc = some (.istore k, j)) (hk : k < L.length) (h : am_Sd scr d mm (pc + 2) (L.set k (.int x)) (S) sh μ out) : am_Sd scr d mm pc L (.int x :: S) sh μ out := by
  obtain ⟨hd, hax⟩ := am_dec1 hf 2 (fun k h => Nat.eq_of_beq_eq_true h)
  refine am_Sd.frame (fun p l e R s m args below meth c H locs cells slots Q ls dC dI ad cA A H0 hC hW hS hsc hl hr1 hr2 kk => ?_) h
  obtain ⟨hx, hb, hml, hown, hts, hns, hfr, hlo, hin⟩ := hC
  exact lv_istore hx hb hd hl.2 (by rw [← hl.1]; exact hk) rfl (fun ls9 hl9 => kk ls9 (hl.set (v := .int x) rfl hl9))
theorem am_s_astore_n {k : Fin 4} {x : Nat} (hf : am_fet mm pc = some (.astore_n k, j)) (hk : k.val < L.length) (h : am_Sd scr d mm (pc + 1) (L.set k.val (.ref x)) (S) sh μ out) : am_Sd scr d mm pc L (.ref x :: S) sh μ out := by
  obtain ⟨hd, hax⟩ := am_dec1 hf 1 (fun k h => Nat.eq_of_beq_eq_true h)
  refine am_Sd.frame (fun p l e R s m args below meth c H locs cells slots Q ls dC dI ad cA A H0 hC hW hS hsc hl hr1 hr2 kk => ?_) h
  obtain ⟨hx, hb, hml, hown, hts, hns, hfr, hlo, hin⟩ := hC
  exact lv_astore_n hx hb hd rfl hl.2 (by rw [← hl.1]; exact hk) rfl (fun ls9 hl9 => kk ls9 (hl.set (v := .ref x) rfl hl9))
theorem am_s_astore {k : Nat} {x : Nat} (hf : am_fet mm pc = some (.astore k, j)) (hk : k < L.length) (h : am_Sd scr d mm (pc + 2) (L.set k (.ref x)) (S) sh μ out) : am_Sd scr d mm pc L (.ref x :: S) sh μ out := by
  obtain ⟨hd, hax⟩ := am_dec1 hf 2 (fun k h => Nat.eq_of_beq_eq_true h)
  refine am_Sd.frame (fun p l e R s m args below meth c H locs cells slots Q ls dC dI ad cA A H0 hC hW hS hsc hl hr1 hr2 kk => ?_) h
  obtain ⟨hx, hb, hml, hown, hts, hns, hfr, hlo, hin⟩ := hC
  exact lv_astore hx hb hd hl.2 (by rw [← hl.1]; exact hk) rfl (fun ls9 hl9 => kk ls9 (hl.set (v := .ref x) rfl hl9))
theorem am_s_iinc {k : Nat} {v : Int} {x : Int32} (hf : am_fet mm pc = some (.iinc k v, j)) (hk : L[k]? = some (.int x)) (h : am_Sd scr d mm (pc + 3) (L.set k (.int (x + Int32.ofInt v))) (S) sh μ out) : am_Sd scr d mm pc L (S) sh μ out := by
  obtain ⟨hd, hax⟩ := am_dec1 hf 3 (fun k h => Nat.eq_of_beq_eq_true h)
  refine am_Sd.frame (fun p l e R s m args below meth c H locs cells slots Q ls dC dI ad cA A H0 hC hW hS hsc hl hr1 hr2 kk => ?_) h
  obtain ⟨hx, hb, hml, hown, hts, hns, hfr, hlo, hin⟩ := hC
  obtain ⟨q, hq⟩ := List.getElem?_of_mem (am_lv_mem.mpr ⟨_, hk, rfl, rfl⟩ : (k, Value.int x) ∈ am_lv ad L)
  exact lv_iinc hx hb hd hl.2 hq rfl (by rw [← hl.1]; exact (List.getElem?_eq_some_iff.mp hk).1) rfl (fun ls9 hl9 => kk ls9 (hl.set (v := .int (x + Int32.ofInt v)) rfl hl9))
theorem am_s_iadd {x y : Int32} (hf : am_fet mm pc = some (.iadd, j)) (h : am_Sd scr d mm (pc + 1) L (.int (x + y) :: S) sh μ out) : am_Sd scr d mm pc L (.int y :: .int x :: S) sh μ out := by
  obtain ⟨hd, hax⟩ := am_dec1 hf 1 (fun k h => Nat.eq_of_beq_eq_true h)
  refine am_Sd.frame (fun p l e R s m args below meth c H locs cells slots Q ls dC dI ad cA A H0 hC hW hS hsc hl hr1 hr2 kk => ?_) h
  obtain ⟨hx, hb, hml, hown, hts, hns, hfr, hlo, hin⟩ := hC
  exact lv_iadd hx hb hd (kk ls hl)
theorem am_s_isub {x y : Int32} (hf : am_fet mm pc = some (.isub, j)) (h : am_Sd scr d mm (pc + 1) L (.int (x - y) :: S) sh μ out) : am_Sd scr d mm pc L (.int y :: .int x :: S) sh μ out := by
  obtain ⟨hd, hax⟩ := am_dec1 hf 1 (fun k h => Nat.eq_of_beq_eq_true h)
  refine am_Sd.frame (fun p l e R s m args below meth c H locs cells slots Q ls dC dI ad cA A H0 hC hW hS hsc hl hr1 hr2 kk => ?_) h
  obtain ⟨hx, hb, hml, hown, hts, hns, hfr, hlo, hin⟩ := hC
  exact lv_isub hx hb hd (kk ls hl)
theorem am_s_imul {x y : Int32} (hf : am_fet mm pc = some (.imul, j)) (h : am_Sd scr d mm (pc + 1) L (.int (x * y) :: S) sh μ out) : am_Sd scr d mm pc L (.int y :: .int x :: S) sh μ out := by
  obtain ⟨hd, hax⟩ := am_dec1 hf 1 (fun k h => Nat.eq_of_beq_eq_true h)
  refine am_Sd.frame (fun p l e R s m args below meth c H locs cells slots Q ls dC dI ad cA A H0 hC hW hS hsc hl hr1 hr2 kk => ?_) h
  obtain ⟨hx, hb, hml, hown, hts, hns, hfr, hlo, hin⟩ := hC
  exact lv_imul hx hb hd (kk ls hl)
theorem am_s_iand {x y : Int32} (hf : am_fet mm pc = some (.iand, j)) (h : am_Sd scr d mm (pc + 1) L (.int (x &&& y) :: S) sh μ out) : am_Sd scr d mm pc L (.int y :: .int x :: S) sh μ out := by
  obtain ⟨hd, hax⟩ := am_dec1 hf 1 (fun k h => Nat.eq_of_beq_eq_true h)
  refine am_Sd.frame (fun p l e R s m args below meth c H locs cells slots Q ls dC dI ad cA A H0 hC hW hS hsc hl hr1 hr2 kk => ?_) h
  obtain ⟨hx, hb, hml, hown, hts, hns, hfr, hlo, hin⟩ := hC
  exact lv_iand hx hb hd (kk ls hl)
theorem am_s_ior {x y : Int32} (hf : am_fet mm pc = some (.ior, j)) (h : am_Sd scr d mm (pc + 1) L (.int (x ||| y) :: S) sh μ out) : am_Sd scr d mm pc L (.int y :: .int x :: S) sh μ out := by
  obtain ⟨hd, hax⟩ := am_dec1 hf 1 (fun k h => Nat.eq_of_beq_eq_true h)
  refine am_Sd.frame (fun p l e R s m args below meth c H locs cells slots Q ls dC dI ad cA A H0 hC hW hS hsc hl hr1 hr2 kk => ?_) h
  obtain ⟨hx, hb, hml, hown, hts, hns, hfr, hlo, hin⟩ := hC
  exact lv_ior hx hb hd (kk ls hl)
theorem am_s_ixor {x y : Int32} (hf : am_fet mm pc = some (.ixor, j)) (h : am_Sd scr d mm (pc + 1) L (.int (x ^^^ y) :: S) sh μ out) : am_Sd scr d mm pc L (.int y :: .int x :: S) sh μ out := by
  obtain ⟨hd, hax⟩ := am_dec1 hf 1 (fun k h => Nat.eq_of_beq_eq_true h)
  refine am_Sd.frame (fun p l e R s m args below meth c H locs cells slots Q ls dC dI ad cA A H0 hC hW hS hsc hl hr1 hr2 kk => ?_) h
  obtain ⟨hx, hb, hml, hown, hts, hns, hfr, hlo, hin⟩ := hC
  exact lv_ixor hx hb hd (kk ls hl)
theorem am_s_ishl {x y : Int32} (hf : am_fet mm pc = some (.ishl, j)) (h : am_Sd scr d mm (pc + 1) L (.int (x <<< (y &&& 31)) :: S) sh μ out) : am_Sd scr d mm pc L (.int y :: .int x :: S) sh μ out := by
  obtain ⟨hd, hax⟩ := am_dec1 hf 1 (fun k h => Nat.eq_of_beq_eq_true h)
  refine am_Sd.frame (fun p l e R s m args below meth c H locs cells slots Q ls dC dI ad cA A H0 hC hW hS hsc hl hr1 hr2 kk => ?_) h
  obtain ⟨hx, hb, hml, hown, hts, hns, hfr, hlo, hin⟩ := hC
  exact lv_ishl hx hb hd (kk ls hl)
theorem am_s_ishr {x y : Int32} (hf : am_fet mm pc = some (.ishr, j)) (h : am_Sd scr d mm (pc + 1) L (.int (x >>> (y &&& 31)) :: S) sh μ out) : am_Sd scr d mm pc L (.int y :: .int x :: S) sh μ out := by
  obtain ⟨hd, hax⟩ := am_dec1 hf 1 (fun k h => Nat.eq_of_beq_eq_true h)
  refine am_Sd.frame (fun p l e R s m args below meth c H locs cells slots Q ls dC dI ad cA A H0 hC hW hS hsc hl hr1 hr2 kk => ?_) h
  obtain ⟨hx, hb, hml, hown, hts, hns, hfr, hlo, hin⟩ := hC
  exact lv_ishr hx hb hd (kk ls hl)
theorem am_s_iushr {x y : Int32} (hf : am_fet mm pc = some (.iushr, j)) (h : am_Sd scr d mm (pc + 1) L (.int (x.toUInt32 >>> (y.toUInt32 &&& Int32.toUInt32 31)).toInt32 :: S) sh μ out) : am_Sd scr d mm pc L (.int y :: .int x :: S) sh μ out := by
  obtain ⟨hd, hax⟩ := am_dec1 hf 1 (fun k h => Nat.eq_of_beq_eq_true h)
  refine am_Sd.frame (fun p l e R s m args below meth c H locs cells slots Q ls dC dI ad cA A H0 hC hW hS hsc hl hr1 hr2 kk => ?_) h
  obtain ⟨hx, hb, hml, hown, hts, hns, hfr, hlo, hin⟩ := hC
  exact lv_iushr hx hb hd rfl (kk ls hl)
theorem am_s_idiv {x y : Int32} (hf : am_fet mm pc = some (.idiv, j)) (hne : ¬ y = 0) (h : am_Sd scr d mm (pc + 1) L (.int (x / y) :: S) sh μ out) : am_Sd scr d mm pc L (.int y :: .int x :: S) sh μ out := by
  obtain ⟨hd, hax⟩ := am_dec1 hf 1 (fun k h => Nat.eq_of_beq_eq_true h)
  refine am_Sd.frame (fun p l e R s m args below meth c H locs cells slots Q ls dC dI ad cA A H0 hC hW hS hsc hl hr1 hr2 kk => ?_) h
  obtain ⟨hx, hb, hml, hown, hts, hns, hfr, hlo, hin⟩ := hC
  exact lv_idiv hx hb hd hne (kk ls hl)
theorem am_s_irem {x y : Int32} (hf : am_fet mm pc = some (.irem, j)) (hne : ¬ y = 0) (h : am_Sd scr d mm (pc + 1) L (.int (x - x / y * y) :: S) sh μ out) : am_Sd scr d mm pc L (.int y :: .int x :: S) sh μ out := by
  obtain ⟨hd, hax⟩ := am_dec1 hf 1 (fun k h => Nat.eq_of_beq_eq_true h)
  refine am_Sd.frame (fun p l e R s m args below meth c H locs cells slots Q ls dC dI ad cA A H0 hC hW hS hsc hl hr1 hr2 kk => ?_) h
  obtain ⟨hx, hb, hml, hown, hts, hns, hfr, hlo, hin⟩ := hC
  exact lv_irem hx hb hd hne (kk ls hl)
theorem am_s_lrem {x y : Int64} (hf : am_fet mm pc = some (.lrem, j)) (hne : ¬ y = 0) (h : am_Sd scr d mm (pc + 1) L (.long (x - x / y * y) :: S) sh μ out) : am_Sd scr d mm pc L (.long y :: .long x :: S) sh μ out := by
  obtain ⟨hd, hax⟩ := am_dec1 hf 1 (fun k h => Nat.eq_of_beq_eq_true h)
  refine am_Sd.frame (fun p l e R s m args below meth c H locs cells slots Q ls dC dI ad cA A H0 hC hW hS hsc hl hr1 hr2 kk => ?_) h
  obtain ⟨hx, hb, hml, hown, hts, hns, hfr, hlo, hin⟩ := hC
  exact lv_lrem hx hb hd hne (kk ls hl)
theorem am_s_ladd {x y : Int64} (hf : am_fet mm pc = some (.ladd, j)) (h : am_Sd scr d mm (pc + 1) L (.long (x + y) :: S) sh μ out) : am_Sd scr d mm pc L (.long y :: .long x :: S) sh μ out := by
  obtain ⟨hd, hax⟩ := am_dec1 hf 1 (fun k h => Nat.eq_of_beq_eq_true h)
  refine am_Sd.frame (fun p l e R s m args below meth c H locs cells slots Q ls dC dI ad cA A H0 hC hW hS hsc hl hr1 hr2 kk => ?_) h
  obtain ⟨hx, hb, hml, hown, hts, hns, hfr, hlo, hin⟩ := hC
  exact lv_ladd hx hb hd (kk ls hl)
theorem am_s_lmul {x y : Int64} (hf : am_fet mm pc = some (.lmul, j)) (h : am_Sd scr d mm (pc + 1) L (.long (x * y) :: S) sh μ out) : am_Sd scr d mm pc L (.long y :: .long x :: S) sh μ out := by
  obtain ⟨hd, hax⟩ := am_dec1 hf 1 (fun k h => Nat.eq_of_beq_eq_true h)
  refine am_Sd.frame (fun p l e R s m args below meth c H locs cells slots Q ls dC dI ad cA A H0 hC hW hS hsc hl hr1 hr2 kk => ?_) h
  obtain ⟨hx, hb, hml, hown, hts, hns, hfr, hlo, hin⟩ := hC
  exact lv_lmul hx hb hd (kk ls hl)
theorem am_s_ineg {x : Int32} (hf : am_fet mm pc = some (.ineg, j)) (h : am_Sd scr d mm (pc + 1) L (.int (-x) :: S) sh μ out) : am_Sd scr d mm pc L (.int x :: S) sh μ out := by
  obtain ⟨hd, hax⟩ := am_dec1 hf 1 (fun k h => Nat.eq_of_beq_eq_true h)
  refine am_Sd.frame (fun p l e R s m args below meth c H locs cells slots Q ls dC dI ad cA A H0 hC hW hS hsc hl hr1 hr2 kk => ?_) h
  obtain ⟨hx, hb, hml, hown, hts, hns, hfr, hlo, hin⟩ := hC
  exact lv_ineg hx hb hd (kk ls hl)
theorem am_s_i2b {x : Int32} (hf : am_fet mm pc = some (.i2b, j)) (h : am_Sd scr d mm (pc + 1) L (.int x.toInt8.toInt32 :: S) sh μ out) : am_Sd scr d mm pc L (.int x :: S) sh μ out := by
  obtain ⟨hd, hax⟩ := am_dec1 hf 1 (fun k h => Nat.eq_of_beq_eq_true h)
  refine am_Sd.frame (fun p l e R s m args below meth c H locs cells slots Q ls dC dI ad cA A H0 hC hW hS hsc hl hr1 hr2 kk => ?_) h
  obtain ⟨hx, hb, hml, hown, hts, hns, hfr, hlo, hin⟩ := hC
  exact lv_i2b hx hb hd rfl (kk ls hl)
theorem am_s_i2l {x : Int32} (hf : am_fet mm pc = some (.i2l, j)) (h : am_Sd scr d mm (pc + 1) L (.long x.toInt64 :: S) sh μ out) : am_Sd scr d mm pc L (.int x :: S) sh μ out := by
  obtain ⟨hd, hax⟩ := am_dec1 hf 1 (fun k h => Nat.eq_of_beq_eq_true h)
  refine am_Sd.frame (fun p l e R s m args below meth c H locs cells slots Q ls dC dI ad cA A H0 hC hW hS hsc hl hr1 hr2 kk => ?_) h
  obtain ⟨hx, hb, hml, hown, hts, hns, hfr, hlo, hin⟩ := hC
  exact lv_i2l hx hb hd rfl (kk ls hl)
theorem am_s_l2i {x : Int64} (hf : am_fet mm pc = some (.l2i, j)) (h : am_Sd scr d mm (pc + 1) L (.int x.toInt32 :: S) sh μ out) : am_Sd scr d mm pc L (.long x :: S) sh μ out := by
  obtain ⟨hd, hax⟩ := am_dec1 hf 1 (fun k h => Nat.eq_of_beq_eq_true h)
  refine am_Sd.frame (fun p l e R s m args below meth c H locs cells slots Q ls dC dI ad cA A H0 hC hW hS hsc hl hr1 hr2 kk => ?_) h
  obtain ⟨hx, hb, hml, hown, hts, hns, hfr, hlo, hin⟩ := hC
  exact lv_l2i hx hb hd rfl (kk ls hl)
theorem am_s_dup {v : Value} (hf : am_fet mm pc = some (.dup, j)) (hv : am_ir v = true) (h : am_Sd scr d mm (pc + 1) L (v :: v :: S) sh μ out) : am_Sd scr d mm pc L (v :: S) sh μ out := by
  obtain ⟨hd, hax⟩ := am_dec1 hf 1 (fun k h => Nat.eq_of_beq_eq_true h)
  refine am_Sd.frame (fun p l e R s m args below meth c H locs cells slots Q ls dC dI ad cA A H0 hC hW hS hsc hl hr1 hr2 kk => ?_) h
  obtain ⟨hx, hb, hml, hown, hts, hns, hfr, hlo, hin⟩ := hC
  exact lv_dup hx hb hd (am_cat1 hv) (kk ls hl)
theorem am_s_pop {v : Value} (hf : am_fet mm pc = some (.pop, j)) (hv : am_ir v = true) (h : am_Sd scr d mm (pc + 1) L (S) sh μ out) : am_Sd scr d mm pc L (v :: S) sh μ out := by
  obtain ⟨hd, hax⟩ := am_dec1 hf 1 (fun k h => Nat.eq_of_beq_eq_true h)
  refine am_Sd.frame (fun p l e R s m args below meth c H locs cells slots Q ls dC dI ad cA A H0 hC hW hS hsc hl hr1 hr2 kk => ?_) h
  obtain ⟨hx, hb, hml, hown, hts, hns, hfr, hlo, hin⟩ := hC
  exact lv_pop hx hb hd (am_cat1 hv) (kk ls hl)
theorem am_s_dup2 {v w : Value} (hf : am_fet mm pc = some (.dup2, j)) (hv : am_ir v = true) (hw : am_ir w = true) (h : am_Sd scr d mm (pc + 1) L (v :: w :: v :: w :: S) sh μ out) : am_Sd scr d mm pc L (v :: w :: S) sh μ out := by
  obtain ⟨hd, hax⟩ := am_dec1 hf 1 (fun k h => Nat.eq_of_beq_eq_true h)
  refine am_Sd.frame (fun p l e R s m args below meth c H locs cells slots Q ls dC dI ad cA A H0 hC hW hS hsc hl hr1 hr2 kk => ?_) h
  obtain ⟨hx, hb, hml, hown, hts, hns, hfr, hlo, hin⟩ := hC
  exact lv_dup2_11 hx hb hd (am_cat1 hv) (am_cat1 hw) (kk ls hl)
theorem am_s_goto {off : Int} (hf : am_fet mm pc = some (.goto off, j)) (h : am_Sd scr d mm j L S sh μ out) : am_Sd scr d mm pc L S sh μ out := by
  obtain ⟨hd, hax⟩ := am_dec1 hf 3 (fun k h => Nat.eq_of_beq_eq_true h)
  refine am_Sd.frame (fun p l e R s m args below meth c H locs cells slots Q ls dC dI ad cA A H0 hC hW hS hsc hl hr1 hr2 kk => ?_) h
  obtain ⟨hx, hb, hml, hown, hts, hns, hfr, hlo, hin⟩ := hC
  exact lv_goto hx hb hd (of_decide_eq_true hax) (kk ls hl)
theorem am_s_if_eq_t {off : Int} {x : Int32} (hf : am_fet mm pc = some (.ifCond .eq off, j)) (hc : x = 0) (h : am_Sd scr d mm (j) L S sh μ out) : am_Sd scr d mm pc L (.int x :: S) sh μ out := by
  obtain ⟨hd, hax⟩ := am_dec1 hf 3 (fun k h => Nat.eq_of_beq_eq_true h)
  refine am_Sd.frame (fun p l e R s m args below meth c H locs cells slots Q ls dC dI ad cA A H0 hC hW hS hsc hl hr1 hr2 kk => ?_) h
  obtain ⟨hx, hb, hml, hown, hts, hns, hfr, hlo, hin⟩ := hC
  exact lv_if_eq hx hb hd (of_decide_eq_true hax) (fun _ => kk ls hl) (fun q => absurd hc q)
theorem am_s_if_eq_f {off : Int} {x : Int32} (hf : am_fet mm pc = some (.ifCond .eq off, j)) (hc : ¬ x = 0) (h : am_Sd scr d mm (pc + 3) L S sh μ out) : am_Sd scr d mm pc L (.int x :: S) sh μ out := by
  obtain ⟨hd, hax⟩ := am_dec1 hf 3 (fun k h => Nat.eq_of_beq_eq_true h)
  refine am_Sd.frame (fun p l e R s m args below meth c H locs cells slots Q ls dC dI ad cA A H0 hC hW hS hsc hl hr1 hr2 kk => ?_) h
  obtain ⟨hx, hb, hml, hown, hts, hns, hfr, hlo, hin⟩ := hC
  exact lv_if_eq hx hb hd (of_decide_eq_true hax) (fun q => absurd q hc) (fun _ => kk ls hl)
theorem am_s_icmp_eq_t {off : Int} {x y : Int32} (hf : am_fet mm pc = some (.if_icmp .eq off, j)) (hc : x = y) (h : am_Sd scr d mm (j) L S sh μ out) : am_Sd scr d mm pc L (.int y :: .int x :: S) sh μ out := by
  obtain ⟨hd, hax⟩ := am_dec1 hf 3 (fun k h => Nat.eq_of_beq_eq_true h)
  refine am_Sd.frame (fun p l e R s m args below meth c H locs cells slots Q ls dC dI ad cA A H0 hC hW hS hsc hl hr1 hr2 kk => ?_) h
  obtain ⟨hx, hb, hml, hown, hts, hns, hfr, hlo, hin⟩ := hC
  exact lv_icmp_eq hx hb hd (of_decide_eq_true hax) (fun _ => kk ls hl) (fun q => absurd hc q)
theorem am_s_icmp_eq_f {off : Int} {x y : Int32} (hf : am_fet mm pc = some (.if_icmp .eq off, j)) (hc : ¬ x = y) (h : am_Sd scr d mm (pc + 3) L S sh μ out) : am_Sd scr d mm pc L (.int y :: .int x :: S) sh μ out := by
  obtain ⟨hd, hax⟩ := am_dec1 hf 3 (fun k h => Nat.eq_of_beq_eq_true h)
  refine am_Sd.frame (fun p l e R s m args below meth c H locs cells slots Q ls dC dI ad cA A H0 hC hW hS hsc hl hr1 hr2 kk => ?_) h
  obtain ⟨hx, hb, hml, hown, hts, hns, hfr, hlo, hin⟩ := hC
  exact lv_icmp_eq hx hb hd (of_decide_eq_true hax) (fun q => absurd q hc) (fun _ => kk ls hl)
theorem am_s_if_ne_t {off : Int} {x : Int32} (hf : am_fet mm pc = some (.ifCond .ne off, j)) (hc : ¬ x = 0) (h : am_Sd scr d mm (j) L S sh μ out) : am_Sd scr d mm pc L (.int x :: S) sh μ out := by
  obtain ⟨hd, hax⟩ := am_dec1 hf 3 (fun k h => Nat.eq_of_beq_eq_true h)
  refine am_Sd.frame (fun p l e R s m args below meth c H locs cells slots Q ls dC dI ad cA A H0 hC hW hS hsc hl hr1 hr2 kk => ?_) h
  obtain ⟨hx, hb, hml, hown, hts, hns, hfr, hlo, hin⟩ := hC
  exact lv_if_ne hx hb hd (of_decide_eq_true hax) (fun _ => kk ls hl) (fun q => absurd q hc)
theorem am_s_if_ne_f {off : Int} {x : Int32} (hf : am_fet mm pc = some (.ifCond .ne off, j)) (hc : x = 0) (h : am_Sd scr d mm (pc + 3) L S sh μ out) : am_Sd scr d mm pc L (.int x :: S) sh μ out := by
  obtain ⟨hd, hax⟩ := am_dec1 hf 3 (fun k h => Nat.eq_of_beq_eq_true h)
  refine am_Sd.frame (fun p l e R s m args below meth c H locs cells slots Q ls dC dI ad cA A H0 hC hW hS hsc hl hr1 hr2 kk => ?_) h
  obtain ⟨hx, hb, hml, hown, hts, hns, hfr, hlo, hin⟩ := hC
  exact lv_if_ne hx hb hd (of_decide_eq_true hax) (fun q => absurd hc q) (fun _ => kk ls hl)
theorem am_s_icmp_ne_t {off : Int} {x y : Int32} (hf : am_fet mm pc = some (.if_icmp .ne off, j)) (hc : ¬ x = y) (h : am_Sd scr d mm (j) L S sh μ out) : am_Sd scr d mm pc L (.int y :: .int x :: S) sh μ out := by
  obtain ⟨hd, hax⟩ := am_dec1 hf 3 (fun k h => Nat.eq_of_beq_eq_true h)
  refine am_Sd.frame (fun p l e R s m args below meth c H locs cells slots Q ls dC dI ad cA A H0 hC hW hS hsc hl hr1 hr2 kk => ?_) h
  obtain ⟨hx, hb, hml, hown, hts, hns, hfr, hlo, hin⟩ := hC
  exact lv_icmp_ne hx hb hd (of_decide_eq_true hax) (fun _ => kk ls hl) (fun q => absurd q hc)
theorem am_s_icmp_ne_f {off : Int} {x y : Int32} (hf : am_fet mm pc = some (.if_icmp .ne off, j)) (hc : x = y) (h : am_Sd scr d mm (pc + 3) L S sh μ out) : am_Sd scr d mm pc L (.int y :: .int x :: S) sh μ out := by
  obtain ⟨hd, hax⟩ := am_dec1 hf 3 (fun k h => Nat.eq_of_beq_eq_true h)
  refine am_Sd.frame (fun p l e R s m args below meth c H locs cells slots Q ls dC dI ad cA A H0 hC hW hS hsc hl hr1 hr2 kk => ?_) h
  obtain ⟨hx, hb, hml, hown, hts, hns, hfr, hlo, hin⟩ := hC
  exact lv_icmp_ne hx hb hd (of_decide_eq_true hax) (fun q => absurd hc q) (fun _ => kk ls hl)
theorem am_s_if_lt_t {off : Int} {x : Int32} (hf : am_fet mm pc = some (.ifCond .lt off, j)) (hc : x < 0) (h : am_Sd scr d mm (j) L S sh μ out) : am_Sd scr d mm pc L (.int x :: S) sh μ out := by
  obtain ⟨hd, hax⟩ := am_dec1 hf 3 (fun k h => Nat.eq_of_beq_eq_true h)
  refine am_Sd.frame (fun p l e R s m args below meth c H locs cells slots Q ls dC dI ad cA A H0 hC hW hS hsc hl hr1 hr2 kk => ?_) h
  obtain ⟨hx, hb, hml, hown, hts, hns, hfr, hlo, hin⟩ := hC
  exact lv_if_lt hx hb hd (of_decide_eq_true hax) (fun _ => kk ls hl) (fun q => absurd hc q)
theorem am_s_if_lt_f {off : Int} {x : Int32} (hf : am_fet mm pc = some (.ifCond .lt off, j)) (hc : ¬ x < 0) (h : am_Sd scr d mm (pc + 3) L S sh μ out) : am_Sd scr d mm pc L (.int x :: S) sh μ out := by
  obtain ⟨hd, hax⟩ := am_dec1 hf 3 (fun k h => Nat.eq_of_beq_eq_true h)
  refine am_Sd.frame (fun p l e R s m args below meth c H locs cells slots Q ls dC dI ad cA A H0 hC hW hS hsc hl hr1 hr2 kk => ?_) h
  obtain ⟨hx, hb, hml, hown, hts, hns, hfr, hlo, hin⟩ := hC
  exact lv_if_lt hx hb hd (of_decide_eq_true hax) (fun q => absurd q hc) (fun _ => kk ls hl)
theorem am_s_icmp_lt_t {off : Int} {x y : Int32} (hf : am_fet mm pc = some (.if_icmp .lt off, j)) (hc : x < y) (h : am_Sd scr d mm (j) L S sh μ out) : am_Sd scr d mm pc L (.int y :: .int x :: S) sh μ out := by
  obtain ⟨hd, hax⟩ := am_dec1 hf 3 (fun k h => Nat.eq_of_beq_eq_true h)
  refine am_Sd.frame (fun p l e R s m args below meth c H locs cells slots Q ls dC dI ad cA A H0 hC hW hS hsc hl hr1 hr2 kk => ?_) h
  obtain ⟨hx, hb, hml, hown, hts, hns, hfr, hlo, hin⟩ := hC
  exact lv_icmp_lt hx hb hd (of_decide_eq_true hax) (fun _ => kk ls hl) (fun q => absurd hc q)
theorem am_s_icmp_lt_f {off : Int} {x y : Int32} (hf : am_fet mm pc = some (.if_icmp .lt off, j)) (hc : ¬ x < y) (h : am_Sd scr d mm (pc + 3) L S sh μ out) : am_Sd scr d mm pc L (.int y :: .int x :: S) sh μ out := by
  obtain ⟨hd, hax⟩ := am_dec1 hf 3 (fun k h => Nat.eq_of_beq_eq_true h)
  refine am_Sd.frame (fun p l e R s m args below meth c H locs cells slots Q ls dC dI ad cA A H0 hC hW hS hsc hl hr1 hr2 kk => ?_) h
  obtain ⟨hx, hb, hml, hown, hts, hns, hfr, hlo, hin⟩ := hC
  exact lv_icmp_lt hx hb hd (of_decide_eq_true hax) (fun q => absurd q hc) (fun _ => kk ls hl)
theorem am_s_if_ge_t {off : Int} {x : Int32} (hf : am_fet mm pc = some (.ifCond .ge off, j)) (hc : 0 ≤ x) (h : am_Sd scr d mm (j) L S sh μ out) : am_Sd scr d mm pc L (.int x :: S) sh μ out := by
  obtain ⟨hd, hax⟩ := am_dec1 hf 3 (fun k h => Nat.eq_of_beq_eq_true h)
  refine am_Sd.frame (fun p l e R s m args below meth c H locs cells slots Q ls dC dI ad cA A H0 hC hW hS hsc hl hr1 hr2 kk => ?_) h
  obtain ⟨hx, hb, hml, hown, hts, hns, hfr, hlo, hin⟩ := hC
  exact lv_if_ge hx hb hd (of_decide_eq_true hax) (fun _ => kk ls hl) (fun q => absurd hc q)
theorem am_s_if_ge_f {off : Int} {x : Int32} (hf : am_fet mm pc = some (.ifCond .ge off, j)) (hc : ¬ 0 ≤ x) (h : am_Sd scr d mm (pc + 3) L S sh μ out) : am_Sd scr d mm pc L (.int x :: S) sh μ out := by
  obtain ⟨hd, hax⟩ := am_dec1 hf 3 (fun k h => Nat.eq_of_beq_eq_true h)
  refine am_Sd.frame (fun p l e R s m args below meth c H locs cells slots Q ls dC dI ad cA A H0 hC hW hS hsc hl hr1 hr2 kk => ?_) h
  obtain ⟨hx, hb, hml, hown, hts, hns, hfr, hlo, hin⟩ := hC
  exact lv_if_ge hx hb hd (of_decide_eq_true hax) (fun q => absurd q hc) (fun _ => kk ls hl)
theorem am_s_icmp_ge_t {off : Int} {x y : Int32} (hf : am_fet mm pc = some (.if_icmp .ge off, j)) (hc : y ≤ x) (h : am_Sd scr d mm (j) L S sh μ out) : am_Sd scr d mm pc L (.int y :: .int x :: S) sh μ out := by
  obtain ⟨hd, hax⟩ := am_dec1 hf 3 (fun k h => Nat.eq_of_beq_eq_true h)
  refine am_Sd.frame (fun p l e R s m args below meth c H locs cells slots Q ls dC dI ad cA A H0 hC hW hS hsc hl hr1 hr2 kk => ?_) h
  obtain ⟨hx, hb, hml, hown, hts, hns, hfr, hlo, hin⟩ := hC
  exact lv_icmp_ge hx hb hd (of_decide_eq_true hax) (fun _ => kk ls hl) (fun q => absurd hc q)
theorem am_s_icmp_ge_f {off : Int} {x y : Int32} (hf : am_fet mm pc = some (.if_icmp .ge off, j)) (hc : ¬ y ≤ x) (h : am_Sd scr d mm (pc + 3) L S sh μ out) : am_Sd scr d mm pc L (.int y :: .int x :: S) sh μ out := by
  obtain ⟨hd, hax⟩ := am_dec1 hf 3 (fun k h => Nat.eq_of_beq_eq_true h)
  refine am_Sd.frame (fun p l e R s m args below meth c H locs cells slots Q ls dC dI ad cA A H0 hC hW hS hsc hl hr1 hr2 kk => ?_) h
  obtain ⟨hx, hb, hml, hown, hts, hns, hfr, hlo, hin⟩ := hC
  exact lv_icmp_ge hx hb hd (of_decide_eq_true hax) (fun q => absurd q hc) (fun _ => kk ls hl)
theorem am_s_if_gt_t {off : Int} {x : Int32} (hf : am_fet mm pc = some (.ifCond .gt off, j)) (hc : 0 < x) (h : am_Sd scr d mm (j) L S sh μ out) : am_Sd scr d mm pc L (.int x :: S) sh μ out := by
  obtain ⟨hd, hax⟩ := am_dec1 hf 3 (fun k h => Nat.eq_of_beq_eq_true h)
  refine am_Sd.frame (fun p l e R s m args below meth c H locs cells slots Q ls dC dI ad cA A H0 hC hW hS hsc hl hr1 hr2 kk => ?_) h
  obtain ⟨hx, hb, hml, hown, hts, hns, hfr, hlo, hin⟩ := hC
  exact lv_if_gt hx hb hd (of_decide_eq_true hax) (fun _ => kk ls hl) (fun q => absurd hc q)
theorem am_s_if_gt_f {off : Int} {x : Int32} (hf : am_fet mm pc = some (.ifCond .gt off, j)) (hc : ¬ 0 < x) (h : am_Sd scr d mm (pc + 3) L S sh μ out) : am_Sd scr d mm pc L (.int x :: S) sh μ out := by
  obtain ⟨hd, hax⟩ := am_dec1 hf 3 (fun k h => Nat.eq_of_beq_eq_true h)
  refine am_Sd.frame (fun p l e R s m args below meth c H locs cells slots Q ls dC dI ad cA A H0 hC hW hS hsc hl hr1 hr2 kk => ?_) h
  obtain ⟨hx, hb, hml, hown, hts, hns, hfr, hlo, hin⟩ := hC
  exact lv_if_gt hx hb hd (of_decide_eq_true hax) (fun q => absurd q hc) (fun _ => kk ls hl)
theorem am_s_icmp_gt_t {off : Int} {x y : Int32} (hf : am_fet mm pc = some (.if_icmp .gt off, j)) (hc : y < x) (h : am_Sd scr d mm (j) L S sh μ out) : am_Sd scr d mm pc L (.int y :: .int x :: S) sh μ out := by
  obtain ⟨hd, hax⟩ := am_dec1 hf 3 (fun k h => Nat.eq_of_beq_eq_true h)
  refine am_Sd.frame (fun p l e R s m args below meth c H locs cells slots Q ls dC dI ad cA A H0 hC hW hS hsc hl hr1 hr2 kk => ?_) h
  obtain ⟨hx, hb, hml, hown, hts, hns, hfr, hlo, hin⟩ := hC
  exact lv_icmp_gt hx hb hd (of_decide_eq_true hax) (fun _ => kk ls hl) (fun q => absurd hc q)
theorem am_s_icmp_gt_f {off : Int} {x y : Int32} (hf : am_fet mm pc = some (.if_icmp .gt off, j)) (hc : ¬ y < x) (h : am_Sd scr d mm (pc + 3) L S sh μ out) : am_Sd scr d mm pc L (.int y :: .int x :: S) sh μ out := by
  obtain ⟨hd, hax⟩ := am_dec1 hf 3 (fun k h => Nat.eq_of_beq_eq_true h)
  refine am_Sd.frame (fun p l e R s m args below meth c H locs cells slots Q ls dC dI ad cA A H0 hC hW hS hsc hl hr1 hr2 kk => ?_) h
  obtain ⟨hx, hb, hml, hown, hts, hns, hfr, hlo, hin⟩ := hC
  exact lv_icmp_gt hx hb hd (of_decide_eq_true hax) (fun q => absurd q hc) (fun _ => kk ls hl)
theorem am_s_if_le_t {off : Int} {x : Int32} (hf : am_fet mm pc = some (.ifCond .le off, j)) (hc : x ≤ 0) (h : am_Sd scr d mm (j) L S sh μ out) : am_Sd scr d mm pc L (.int x :: S) sh μ out := by
  obtain ⟨hd, hax⟩ := am_dec1 hf 3 (fun k h => Nat.eq_of_beq_eq_true h)
  refine am_Sd.frame (fun p l e R s m args below meth c H locs cells slots Q ls dC dI ad cA A H0 hC hW hS hsc hl hr1 hr2 kk => ?_) h
  obtain ⟨hx, hb, hml, hown, hts, hns, hfr, hlo, hin⟩ := hC
  exact lv_if_le hx hb hd (of_decide_eq_true hax) (fun _ => kk ls hl) (fun q => absurd hc q)
theorem am_s_if_le_f {off : Int} {x : Int32} (hf : am_fet mm pc = some (.ifCond .le off, j)) (hc : ¬ x ≤ 0) (h : am_Sd scr d mm (pc + 3) L S sh μ out) : am_Sd scr d mm pc L (.int x :: S) sh μ out := by
  obtain ⟨hd, hax⟩ := am_dec1 hf 3 (fun k h => Nat.eq_of_beq_eq_true h)
  refine am_Sd.frame (fun p l e R s m args below meth c H locs cells slots Q ls dC dI ad cA A H0 hC hW hS hsc hl hr1 hr2 kk => ?_) h
  obtain ⟨hx, hb, hml, hown, hts, hns, hfr, hlo, hin⟩ := hC
  exact lv_if_le hx hb hd (of_decide_eq_true hax) (fun q => absurd q hc) (fun _ => kk ls hl)
theorem am_s_icmp_le_t {off : Int} {x y : Int32} (hf : am_fet mm pc = some (.if_icmp .le off, j)) (hc : x ≤ y) (h : am_Sd scr d mm (j) L S sh μ out) : am_Sd scr d mm pc L (.int y :: .int x :: S) sh μ out := by
  obtain ⟨hd, hax⟩ := am_dec1 hf 3 (fun k h => Nat.eq_of_beq_eq_true h)
  refine am_Sd.frame (fun p l e R s m args below meth c H locs cells slots Q ls dC dI ad cA A H0 hC hW hS hsc hl hr1 hr2 kk => ?_) h
  obtain ⟨hx, hb, hml, hown, hts, hns, hfr, hlo, hin⟩ := hC
  exact lv_icmp_le hx hb hd (of_decide_eq_true hax) (fun _ => kk ls hl) (fun q => absurd hc q)
theorem am_s_icmp_le_f {off : Int} {x y : Int32} (hf : am_fet mm pc = some (.if_icmp .le off, j)) (hc : ¬ x ≤ y) (h : am_Sd scr d mm (pc + 3) L S sh μ out) : am_Sd scr d mm pc L (.int y :: .int x :: S) sh μ out := by
  obtain ⟨hd, hax⟩ := am_dec1 hf 3 (fun k h => Nat.eq_of_beq_eq_true h)
  refine am_Sd.frame (fun p l e R s m args below meth c H locs cells slots Q ls dC dI ad cA A H0 hC hW hS hsc hl hr1 hr2 kk => ?_) h
  obtain ⟨hx, hb, hml, hown, hts, hns, hfr, hlo, hin⟩ := hC
  exact lv_icmp_le hx hb hd (of_decide_eq_true hax) (fun q => absurd q hc) (fun _ => kk ls hl)
end
end
section
section
variable {scr : am_Scr} {d mm pc : Nat} {L S : List Value} {sh : am_Sh} {μ : am_Mu} {out : am_Out} {i : Instr} {j : Nat}
theorem am_inb_in {x : Int32} {n : Nat} (h : am_inb x n = true) : vp_in x n := by
  unfold am_inb at h
  simp only [Bool.not_eq_true', Bool.or_eq_false_iff, decide_eq_false_iff_not] at h
  rintro (q | q)
  · exact h.1 q
  · rw [Nat.ble_eq_true_of_le q] at h; exact absurd h.2 (by simp)
theorem am_s_tblOut {dflt lo hi : Int} {offs : Array Int} {x : Int32} (hf : am_fet mm pc = some (.tableswitch dflt lo hi offs, j)) (hc : x.toInt < lo ∨ hi < x.toInt) (h : am_Sd scr d mm (am_pcOf pc dflt) L S sh μ out) : am_Sd scr d mm pc L (.int x :: S) sh μ out := by
  obtain ⟨n, hd, -, hax⟩ := am_dec hf
  simp only [am_aux, Bool.and_eq_true, decide_eq_true_eq] at hax
  refine am_Sd.frame (fun p l e R s m args below meth c H locs cells slots Q ls dC dI ad cA A H0 hC hW hS hsc hl hr1 hr2 kk => ?_) h
  obtain ⟨hx, hb, hml, hown, hts, hns, hfr, hlo, hin⟩ := hC
  exact lv_tableOut hx hb hd hc (Int.toNat_of_nonneg hax.1).symm (kk ls hl)
theorem am_s_tblIn {dflt lo hi off : Int} {offs : Array Int} {x : Int32} (hf : am_fet mm pc = some (.tableswitch dflt lo hi offs, j)) (hc : ¬ (x.toInt < lo ∨ hi < x.toInt)) (ho : offs[(x.toInt - lo).toNat]? = some off) (h : am_Sd scr d mm (am_pcOf pc off) L S sh μ out) : am_Sd scr d mm pc L (.int x :: S) sh μ out := by
  obtain ⟨n, hd, -, hax⟩ := am_dec hf
  simp only [am_aux, Bool.and_eq_true, decide_eq_true_eq] at hax
  have h1 : 0 ≤ (pc : Int) + off := by
    have := List.all_eq_true.mp hax.2 off (Array.mem_toList_iff.mpr (Array.mem_of_getElem? ho))
    exact of_decide_eq_true this
  refine am_Sd.frame (fun p l e R s m args below meth c H locs cells slots Q ls dC dI ad cA A H0 hC hW hS hsc hl hr1 hr2 kk => ?_) h
  obtain ⟨hx, hb, hml, hown, hts, hns, hfr, hlo, hin⟩ := hC
  exact lv_tableIn hx hb hd (fun q => hc (Or.inl q)) (fun q => hc (Or.inr q)) ho (Int.toNat_of_nonneg h1).symm (kk ls hl)
theorem am_lkOff {P : Int → Prop} (dflt : Int) (x : Int) (hd : P dflt) : ∀ ps : List (Int × Int), (∀ q ∈ ps, P q.2) → P (Op.lookupswitch.offset ps dflt x)
  | [], _ => by simpa [Op.lookupswitch.offset] using hd
  | q :: ps, h => by
    rw [Op.lookupswitch.offset_cons]
    split
    · exact h q List.mem_cons_self
    · exact am_lkOff dflt x hd ps (fun r hr => h r (List.mem_cons_of_mem _ hr))
theorem am_s_lookup {dflt : Int} {ps : Array (Int × Int)} {x : Int32} (hf : am_fet mm pc = some (.lookupswitch dflt ps, j)) (hp : (ps.toList.zip (ps.toList.drop 1)).all (fun (a, next) => a.1 < next.1) = true) (h : am_Sd scr d mm (am_pcOf pc (Op.lookupswitch.offset ps.toList dflt x.toInt)) L S sh μ out) : am_Sd scr d mm pc L (.int x :: S) sh μ out := by
  obtain ⟨n, hd, -, hax⟩ := am_dec hf
  simp only [am_aux, Bool.and_eq_true, decide_eq_true_eq] at hax
  have h1 : 0 ≤ (pc : Int) + Op.lookupswitch.offset ps.toList dflt x.toInt := am_lkOff (P := fun o => 0 ≤ (pc : Int) + o) dflt x.toInt hax.1 ps.toList (fun q hq => of_decide_eq_true (List.all_eq_true.mp hax.2 q hq))
  refine am_Sd.frame (fun p l e R s m args below meth c H locs cells slots Q ls dC dI ad cA A H0 hC hW hS hsc hl hr1 hr2 kk => ?_) h
  obtain ⟨hx, hb, hml, hown, hts, hns, hfr, hlo, hin⟩ := hC
  exact lv_lookup hx hb hd hp rfl (Int.toNat_of_nonneg h1).symm (kk ls hl)
theorem am_okCl (k : Nat) (c : vw_C) (h : am_cl[k]? = some c) : am_okC k c = true := by
  have hk : k < am_cl.length := (List.getElem?_eq_some_iff.mp h).1
  have h1 := List.all_eq_true.mp am_okC_all k (List.mem_range.mpr hk)
  simpa only [List.getD_eq_getElem?_getD, h, Option.getD_some] using h1
theorem am_clsF {k : Nat} {c : vw_C} (h : am_cl[k]? = some c) : (∀ w ∈ u_ws c.1 c.2.1 c.2.2, w ∈ am_tbl) ∧ (∀ a, a < c.2.2 → ∀ b, b < c.2.2 → a ≠ b → (c.2.1 a).2.1 ≠ (c.2.1 b).2.1) ∧ (∀ a, a < c.2.2 → parseFieldDescriptor (c.2.1 a).2.2.1 = some ((parseFieldDescriptor (c.2.1 a).2.2.1).getD .int) ∧ defaultValue ((parseFieldDescriptor (c.2.1 a).2.2.1).getD .int) = (match (am_fresh.getD k []).getD a 0 with | 0 => .int 0 | _ => .null)) ∧ (am_fresh.getD k []).length = c.2.2 ∧ Cond.instantiable c.1 c.2.2 ∈ am_tbl ∧ Cond.initialized c.1 ∈ am_tbl ∧ am_RC k = c.1 ∧ ∀ x ∈ am_fresh.getD k [], x ≤ 1 := by
  have h1 := am_okCl k c h
  simp only [am_okC, Bool.and_eq_true, List.all_eq_true, List.mem_range, Nat.beq_eq, decide_eq_true_eq, Bool.or_eq_true, Bool.not_eq_true', beq_eq_false_iff_ne, Nat.ble_eq] at h1
  obtain ⟨h1, h2, h3, h4, h5, h6, h7⟩ := h1
  refine ⟨fun w hw => ?_, fun a ha b hb hab => ?_, fun a ha => ⟨?_, (h2 a ha).2.2⟩, h3, am_in_mem h4, am_in_mem h5, h6, h7⟩
  · obtain ⟨a, ha, rfl⟩ := List.mem_map.mp hw
    exact am_in_mem (h1 a (List.mem_range.mp ha))
  · rcases (h2 a ha).1 b hb with q | q
    · exact absurd q hab
    · exact q
  · have := (h2 a ha).2.1
    cases hq : parseFieldDescriptor (c.2.1 a).2.2.1 with
    | none => rw [hq] at this; cases this
    | some t => rfl
theorem am_cellO {ad : Nat → Nat} {cA : Nat → ClassId} {e : Nat × Nat × List Nat} {k ci : Nat} {f : Nat → Int32} (h : e.1 = ci + 3) : am_cell ad cA e k f = .inr (ci, am_flds ad e.2.2 f) := by
  obtain ⟨kd, n, fs⟩ := e
  dsimp only at h
  subst h
  rfl
theorem am_cellA {ad : Nat → Nat} {cA : Nat → ClassId} {e : Nat × Nat × List Nat} {k : Nat} {f : Nat → Int32} (h : e.1 < 3) : am_cell ad cA e k f = .inl (cA k, e.2.1, .inl f) := by
  obtain ⟨kd, n, fs⟩ := e
  dsimp only at h
  match kd, h with
  | 0, _ => rfl
  | 1, _ => rfl
  | 2, _ => rfl
/-- an object of the world: its class, and how many slots -/
theorem am_Wd.obj {dC : Nat → ClassId} {dI : Nat → Nat → Nat} {ad : Nat → Nat} {cA : Nat → ClassId} {A : Nat → Prop} {U : State} {H : Heap} (h : am_Wd dC dI ad cA A sh μ U H) {a ci n : Nat} {fs : List Nat} (ha : sh[a]? = some (ci + 3, n, fs)) : ∃ c, am_cl[ci]? = some c := by
  have h1 := am_ws_get (ad := ad) (cA := cA) (μ := μ) ha
  rw [am_cellO (ci := ci) rfl] at h1
  obtain ⟨r, h2, -⟩ := h.1 a _ h1
  exact ⟨r, h2⟩
/-- at most so many slots: a word of the link says that the slot is there -/
theorem am_s_getfield {v a c n : Nat} {fs : List Nat} (hf : am_fet mm pc = some (.getfield v, j)) (ha : sh[a]? = some (j / 100 + 3, n, fs)) (hfs : fs[j % 100]? = some c)
    (h : ∀ w, (∀ ad : Nat → Nat, am_cv ad w = am_fv ad c (μ a (j % 100))) → am_Sd scr d mm (pc + 3) L (w :: S) sh μ out) : am_Sd scr d mm pc L (.ref a :: S) sh μ out := by
  obtain ⟨hd, hax⟩ := am_dec1 hf 3 (fun k h => Nat.eq_of_beq_eq_true h)
  obtain ⟨w, hw⟩ : ∃ w : Value, ∀ ad : Nat → Nat, am_cv ad w = am_fv ad c (μ a (j % 100)) := by
    match c with
    | 0 => exact ⟨.int (μ a (j % 100)), fun _ => rfl⟩
    | 1 => exact ⟨.null, fun _ => rfl⟩
    | b + 2 => exact ⟨.ref b, fun _ => rfl⟩
  refine am_Sd.frame (fun p l e R s m args below meth c H locs cells slots Q ls dC dI ad cA A H0 hC hW hS hsc hl hr1 hr2 kk => ?_) (h w hw)
  obtain ⟨hx, hb, hml, hown, hts, hns, hfr, hlo, hin⟩ := hC
  obtain ⟨k, hk⟩ := hW.obj ha
  obtain ⟨f1, f2, f3, f4, f5, f6, f7, f8⟩ := am_clsF hk
  have hwg := am_ws_get (ad := ad) (cA := cA) (μ := μ) ha
  rw [am_cellO (ci := j / 100) rfl] at hwg
  have hlen := (hW.2.2.2.2 a (j / 100) n fs ha).1
  have hlt : j % 100 < k.2.2 := by rw [← f4, ← hlen]; exact (List.getElem?_eq_some_iff.mp hfs).1
  have hv : (am_flds ad fs (μ a))[j % 100]? = some (am_cv ad w) := by rw [am_flds_get hfs, hw ad]
  have hkk := kk ls hl
  simp only [am_aux, Bool.or_eq_true] at hax
  rcases hax with hax | hax
  · obtain ⟨t, t1, t2, t3, t4⟩ := am_any_mem hax
    have hlink := hts _ (am_atL_mem am_lF_ok t1)
    simp only [am_fldC, t2, t3, t4, hk, cond_false] at hlink
    exact va_get hx hb hts f1 hown hW.2.2.1 hW.1 a hwg hk (j % 100) hlt hlink (fun _ h9 => h9) hv hd hkk
  · obtain ⟨t, t1, t2, t3, t4⟩ := am_any_mem hax
    have hlink := va_Nw.use (A := args) (by simp only [am_fldC, t2, t3, t4, hk, cond_true]; rfl) (hns.1 t t1)
    simp only [am_fldC, t2, t3, t4, hk, cond_true] at hlink
    exact va_getN hx hb hts f1 hown hW.2.2.1 hW.1 a hwg hk (j % 100) hlt hlink (fun _ h9 => h9) hv hd hkk
theorem am_pty {ci k : Nat} {c : vw_C} (hc : am_cl[ci]? = some c) (hk : k < c.2.2) : ∃ ty, parseFieldDescriptor (c.2.1 k).2.2.1 = some ty ∧ (((am_fresh.getD ci []).getD k 9 = 0 ∧ ty = .int) ∨ (¬ (am_fresh.getD ci []).getD k 9 = 0 ∧ ((∃ C, ty = .object C) ∨ ∃ t, ty = .array t))) := by
  have key : ∀ ci, ci < am_cl.length → (match am_cl[ci]? with
      | none => true
      | some c => (List.range c.2.2).all (fun k => match parseFieldDescriptor (c.2.1 k).2.2.1 with
        | some .int => Nat.beq ((am_fresh.getD ci []).getD k 9) 0
        | some (.object _) => !(Nat.beq ((am_fresh.getD ci []).getD k 9) 0)
        | some (.array _) => !(Nat.beq ((am_fresh.getD ci []).getD k 9) 0)
        | _ => false)) = true := by
    intro ci hci
    exact List.all_eq_true.mp (by decide +kernel : (List.range am_cl.length).all (fun ci => (match am_cl[ci]? with
      | none => true
      | some c => (List.range c.2.2).all (fun k => match parseFieldDescriptor (c.2.1 k).2.2.1 with
        | some .int => Nat.beq ((am_fresh.getD ci []).getD k 9) 0
        | some (.object _) => !(Nat.beq ((am_fresh.getD ci []).getD k 9) 0)
        | some (.array _) => !(Nat.beq ((am_fresh.getD ci []).getD k 9) 0)
        | _ => false))) = true) ci (List.mem_range.mpr hci)
  have h1 := key ci (List.getElem?_eq_some_iff.mp hc).1
  rw [hc] at h1
  have h2 := List.all_eq_true.mp h1 k (List.mem_range.mpr hk)
  split at h2
  · next e => exact ⟨_, e, Or.inl ⟨Nat.eq_of_beq_eq_true h2, rfl⟩⟩
  · next C e =>
    refine ⟨_, e, Or.inr ⟨fun q => ?_, Or.inl ⟨C, rfl⟩⟩⟩
    rw [q] at h2; cases h2
  · next C e =>
    refine ⟨_, e, Or.inr ⟨fun q => ?_, Or.inr ⟨C, rfl⟩⟩⟩
    rw [q] at h2; cases h2
  · cases h2
/-- a slot is written -/
theorem am_s_put {v a c n : Nat} {fs fs' : List Nat} {w : Value} {μ' : am_Mu} (hf : am_fet mm pc = some (.putfield v, j)) (ha : sh[a]? = some (j / 100 + 3, n, fs)) (hfs : fs[j % 100]? = some c)
    (hw : (∃ x, w = .int x ∧ c = 0 ∧ fs' = fs ∧ μ' = am_up μ a (j % 100) x) ∨ (∃ b, w = .ref b ∧ ¬ c = 0 ∧ fs' = fs.set (j % 100) (b + 2) ∧ μ' = μ))
    (h : am_Sd scr d mm (pc + 3) L S (sh.set a (j / 100 + 3, n, fs')) μ' out) : am_Sd scr d mm pc L (w :: .ref a :: S) sh μ out := by
  obtain ⟨hd, hax⟩ := am_dec1 hf 3 (fun k h => Nat.eq_of_beq_eq_true h)
  simp only [am_aux, Bool.and_eq_true] at hax
  obtain ⟨hax, hpo⟩ := hax
  have hal : a < sh.length := (List.getElem?_eq_some_iff.mp ha).1
  refine am_Sd.write (by simp) (am_sl_set (e' := (j / 100 + 3, n, fs')) ha rfl) (fun p l e R s m args below meth c0 H locs cells slots Q ls dC dI ad cA A H0 hC hW hS hl kk => ?_) h
  obtain ⟨hx, hb, hml, hown, hts, hns, hfr, hlo, hin⟩ := hC
  obtain ⟨k, hk⟩ := hW.obj ha
  obtain ⟨f1, f2, f3, f4, f5, f6, f7, f8⟩ := am_clsF hk
  have hwg := am_ws_get (ad := ad) (cA := cA) (μ := μ) ha
  rw [am_cellO (ci := j / 100) rfl] at hwg
  obtain ⟨hlen, hwf⟩ := hW.2.2.2.2 a (j / 100) n fs ha
  have hjl : j % 100 < fs.length := (List.getElem?_eq_some_iff.mp hfs).1
  have hlt : j % 100 < k.2.2 := by rw [← f4, ← hlen]; exact hjl
  obtain ⟨ty, hty, hty2⟩ := am_pty hk hlt
  have h0 := hwf (j % 100) c hfs
  obtain ⟨t, t1, t2, t3, t4⟩ := am_any_mem hax
  have hlink := hts _ (am_atL_mem am_lF_ok t1)
  simp only [am_fldC, t2, t3, t4, hk, cond_false] at hlink
  have hnf : narrow ty (am_cv ad w) = am_cv ad w ∧ fits ty (am_cv ad w) = true := by
    rcases hw with ⟨x, rfl, hc0, -, -⟩ | ⟨b, rfl, hc0, -, -⟩
    · rcases hty2 with ⟨q, rfl⟩ | ⟨q, -⟩
      · exact ⟨rfl, rfl⟩
      · exact absurd (h0.mp hc0) q
    · rcases hty2 with ⟨q, rfl⟩ | ⟨q, ⟨C, rfl⟩ | ⟨C, rfl⟩⟩
      · exact absurd (h0.mpr q) hc0
      · exact ⟨rfl, rfl⟩
      · exact ⟨rfl, rfl⟩
  have hset : (am_ws ad cA sh μ).set a (ad a, .inr (j / 100, (am_flds ad fs (μ a)).set (j % 100) (am_cv ad w))) = am_ws ad cA (sh.set a (j / 100 + 3, n, fs')) μ' := by
    refine am_ws_set (by simp) (List.getElem?_set_self hal) ?_ (fun i hi => ⟨List.getElem?_set_ne (fun q => hi q.symm), ?_⟩)
    · rw [am_cellO (ci := j / 100) rfl]
      rcases hw with ⟨x, rfl, rfl, rfl, rfl⟩ | ⟨b, rfl, -, rfl, rfl⟩
      · exact congrArg (fun z => (Sum.inr (j / 100, z) : va_E)) (am_flds_put hfs)
      · exact congrArg (fun z => (Sum.inr (j / 100, z) : va_E)) (am_flds_putr hfs)
    · rcases hw with ⟨x, rfl, rfl, rfl, rfl⟩ | ⟨b, rfl, -, rfl, rfl⟩
      · exact am_up_ne hi
      · rfl
  have hAr : am_Ar cA (sh.set a (j / 100 + 3, n, fs')) s := by
    intro i e9 hi hi3
    by_cases hia : a = i
    · subst hia
      rw [List.getElem?_set_self hal] at hi
      cases hi
      exact absurd hi3 (by omega)
    · rw [List.getElem?_set_ne hia] at hi
      exact hW.2.2.2.1 i e9 hi hi3
  have hWf : am_Wf (sh.set a (j / 100 + 3, n, fs')) := by
    intro i ci n9 fs9 hi
    by_cases hia : a = i
    · subst hia
      rw [List.getElem?_set_self hal] at hi
      have e1 : j / 100 = ci ∧ n = n9 ∧ fs' = fs9 := by
        have := Option.some.inj hi
        simp only [Prod.mk.injEq] at this
        exact ⟨by omega, this.2.1, this.2.2⟩
      obtain ⟨rfl, rfl, rfl⟩ := e1
      rcases hw with ⟨x, -, -, rfl, -⟩ | ⟨b, -, hc0, rfl, -⟩
      · exact ⟨hlen, hwf⟩
      · refine ⟨by rw [List.length_set]; exact hlen, fun k9 c9 hk9 => ?_⟩
        by_cases hkk : j % 100 = k9
        · subst hkk
          rw [List.getElem?_set_self hjl] at hk9
          cases hk9
          exact ⟨fun q => absurd q (by omega), fun q => absurd (h0.mpr q) hc0⟩
        · rw [List.getElem?_set_ne hkk] at hk9
          exact hwf k9 c9 hk9
    · rw [List.getElem?_set_ne hia] at hi
      exact hW.2.2.2.2 i ci n9 fs9 hi
  have kk2 : ∀ (H1 : Heap) (locs1 : List Loc), va_P (dC, dI) am_cl ((am_ws ad cA sh μ).set a (ad a, .inr (j / 100, (am_flds ad fs (μ a)).set (j % 100) (am_cv ad w)))) H1 → va_D A ((am_ws ad cA sh μ).set a (ad a, .inr (j / 100, (am_flds ad fs (μ a)).set (j % 100) (am_cv ad w)))) → va_S A H0 H1 locs1 → W p l e R s m args below meth c0 H1 locs1 cells slots Q (F0 m (pc + 3) ls (S.map (am_cv ad))) := by
    intro H1 locs1 q1 q2 q3
    rw [hset] at q1 q2
    exact kk H1 locs1 ⟨q1, q2, hW.2.2.1, hAr, hWf⟩ q3
  cases hfin : (k.2.1 (j % 100)).2.2.2 with
  | false => exact va_put hx hb hts f1 (fun a => (parseFieldDescriptor (k.2.1 a).2.2.1).getD .int) (fun a ha => (f3 a ha).1) f2 hown hW.2.2.1 hW.1 hW.2.1 hS a hwg hk (j % 100) hlt hlink (fun _ h9 => h9) hfin hty hnf.1 hnf.2 (by rw [am_flds_len]; exact hjl) hd kk2
  | true =>
    simp only [am_putOK, hk, hfin, Bool.not_true, Bool.false_or, Bool.and_eq_true, beq_iff_eq] at hpo
    exact va_putF hx hb hts f1 (fun a => (parseFieldDescriptor (k.2.1 a).2.2.1).getD .int) (fun a ha => (f3 a ha).1) f2 hown hW.2.2.1 hW.1 hW.2.1 hS a hwg hk (j % 100) hlt hlink (fun _ h9 => h9) hfin (hin hpo.1) hpo.2 hty hnf.1 hnf.2 (by rw [am_flds_len]; exact hjl) hd kk2
theorem am_s_iald {x : Int32} {a n : Nat} {fs : List Nat} (hf : am_fet mm pc = some (.iaload, j)) (ha : sh[a]? = some (0, n, fs)) (hx : am_inb x n = true) (h : am_Sd scr d mm (pc + 1) L (.int (μ a x.toNatClampNeg) :: S) sh μ out) : am_Sd scr d mm pc L (.int x :: .ref a :: S) sh μ out := by
  obtain ⟨hd, hax⟩ := am_dec1 hf 1 (fun k h => Nat.eq_of_beq_eq_true h)
  refine am_Sd.frame (fun p l e R s m args below meth c H locs cells slots Q ls dC dI ad cA A H0 hC hW hS hsc hl hr1 hr2 kk => ?_) h
  obtain ⟨hex, hb, hml, hown, hts, hns, hfr, hlo, hin⟩ := hC
  exact va_iald hex hb (hW.K ha (show 0 < 3 by decide)) hW.1 a 0 (am_ws_get ha) rfl (am_inb_in hx) hd (kk ls hl)
theorem am_s_zald {x : Int32} {a n : Nat} {fs : List Nat} (hf : am_fet mm pc = some (.baload, j)) (ha : sh[a]? = some (1, n, fs)) (hx : am_inb x n = true) (h : am_Sd scr d mm (pc + 1) L (.int (μ a x.toNatClampNeg) :: S) sh μ out) : am_Sd scr d mm pc L (.int x :: .ref a :: S) sh μ out := by
  obtain ⟨hd, hax⟩ := am_dec1 hf 1 (fun k h => Nat.eq_of_beq_eq_true h)
  refine am_Sd.frame (fun p l e R s m args below meth c H locs cells slots Q ls dC dI ad cA A H0 hC hW hS hsc hl hr1 hr2 kk => ?_) h
  obtain ⟨hex, hb, hml, hown, hts, hns, hfr, hlo, hin⟩ := hC
  exact va_zald hex hb (hW.K ha (show 1 < 3 by decide)) hW.1 a 0 (am_ws_get ha) rfl (am_inb_in hx) hd (kk ls hl)
theorem am_s_bald {x : Int32} {a n : Nat} {fs : List Nat} (hf : am_fet mm pc = some (.baload, j)) (ha : sh[a]? = some (2, n, fs)) (hx : am_inb x n = true) (h : am_Sd scr d mm (pc + 1) L (.int (μ a x.toNatClampNeg) :: S) sh μ out) : am_Sd scr d mm pc L (.int x :: .ref a :: S) sh μ out := by
  obtain ⟨hd, hax⟩ := am_dec1 hf 1 (fun k h => Nat.eq_of_beq_eq_true h)
  refine am_Sd.frame (fun p l e R s m args below meth c H locs cells slots Q ls dC dI ad cA A H0 hC hW hS hsc hl hr1 hr2 kk => ?_) h
  obtain ⟨hex, hb, hml, hown, hts, hns, hfr, hlo, hin⟩ := hC
  exact va_bald hex hb (hW.K ha (show 2 < 3 by decide)) hW.1 a 0 (am_ws_get ha) rfl (am_inb_in hx) hd (kk ls hl)
theorem am_s_sld {x : Int32} {n : Nat} {f : Nat → Int32} (hf : am_fet mm pc = some (.iaload, j)) (hx : am_inb x n = true) (hs : scr = some (some (n, f))) (h : am_Sd scr d mm (pc + 1) L (.int (f x.toNatClampNeg) :: S) sh μ out) : am_Sd scr d mm pc L (.int x :: .ref am_SCR :: S) sh μ out := by
  obtain ⟨hd, hax⟩ := am_dec1 hf 1 (fun k h => Nat.eq_of_beq_eq_true h)
  refine am_Sd.frame (fun p l e R s m args below meth c H locs cells slots Q ls dC dI ad cA A H0 hC hW hS hsc hl hr1 hr2 kk => ?_) h
  obtain ⟨hex, hb, hml, hown, hts, hns, hfr, hlo, hin⟩ := hC
  subst hs
  exact va_sld hex hb hsc.2.1 hsc.2.2.1 hsc.2.2.2 hS (am_inb_in hx) hd (kk ls hl)
theorem am_s_slen {n : Nat} {f : Nat → Int32} (hf : am_fet mm pc = some (.arraylength, j)) (hs : scr = some (some (n, f))) (h : am_Sd scr d mm (pc + 1) L (.int (Int32.ofNat n) :: S) sh μ out) : am_Sd scr d mm pc L (.ref am_SCR :: S) sh μ out := by
  obtain ⟨hd, hax⟩ := am_dec1 hf 1 (fun k h => Nat.eq_of_beq_eq_true h)
  refine am_Sd.frame (fun p l e R s m args below meth c H locs cells slots Q ls dC dI ad cA A H0 hC hW hS hsc hl hr1 hr2 kk => ?_) h
  obtain ⟨hex, hb, hml, hown, hts, hns, hfr, hlo, hin⟩ := hC
  subst hs
  exact va_slen hex hb hsc.2.1 hsc.2.2.1 hsc.2.2.2 hS hd (kk ls hl)
theorem am_s_alen {a n : Nat} {fs : List Nat} (hf : am_fet mm pc = some (.arraylength, j)) (ha : sh[a]? = some (0, n, fs)) (h : am_Sd scr d mm (pc + 1) L (.int (Int32.ofNat n) :: S) sh μ out) : am_Sd scr d mm pc L (.ref a :: S) sh μ out := by
  obtain ⟨hd, hax⟩ := am_dec1 hf 1 (fun k h => Nat.eq_of_beq_eq_true h)
  refine am_Sd.frame (fun p l e R s m args below meth c H locs cells slots Q ls dC dI ad cA A H0 hC hW hS hsc hl hr1 hr2 kk => ?_) h
  obtain ⟨hex, hb, hml, hown, hts, hns, hfr, hlo, hin⟩ := hC
  exact va_alen hex hb (hW.K ha (show 0 < 3 by decide)) hW.1 a 0 (am_ws_get ha) rfl rfl hd (kk ls hl)
/-- an array's world behind a store -/
theorem am_ws_arr {ad : Nat → Nat} {cA : Nat → ClassId} {a x kd n : Nat} {fs : List Nat} {v : Int32} (ha : sh[a]? = some (kd, n, fs)) (hk : kd < 3) : (am_ws ad cA sh μ).set a (ad a, .inl (cA a, n, .inl (upd (μ a) x v))) = am_ws ad cA sh (am_up μ a x v) :=
  am_ws_set rfl ha (by rw [am_cellA hk, am_up_eq]) (fun i hi => ⟨rfl, am_up_ne hi⟩)
theorem am_s_iast {x v : Int32} {a n : Nat} {fs : List Nat} (hf : am_fet mm pc = some (.iastore, j)) (ha : sh[a]? = some (0, n, fs)) (hx : am_inb x n = true) (h : am_Sd scr d mm (pc + 1) L S sh (am_up μ a x.toNatClampNeg v) out) : am_Sd scr d mm pc L (.int v :: .int x :: .ref a :: S) sh μ out := by
  obtain ⟨hd, hax⟩ := am_dec1 hf 1 (fun k h => Nat.eq_of_beq_eq_true h)
  refine am_Sd.write rfl rfl (fun p l e R s m args below meth c H locs cells slots Q ls dC dI ad cA A H0 hC hW hS hl kk => ?_) h
  obtain ⟨hex, hb, hml, hown, hts, hns, hfr, hlo, hin⟩ := hC
  refine va_iast hex hb (hW.K ha (show 0 < 3 by decide)) hW.1 hW.2.1 hS a 0 (am_ws_get ha) rfl (am_inb_in hx) hd (fun H1 locs1 q1 q2 q3 => ?_)
  rw [am_ws_arr ha (by decide)] at q1 q2
  exact kk H1 locs1 ⟨q1, q2, hW.2.2⟩ q3
theorem am_s_zast {x v : Int32} {a n : Nat} {fs : List Nat} (hf : am_fet mm pc = some (.bastore, j)) (ha : sh[a]? = some (1, n, fs)) (hx : am_inb x n = true) (h : am_Sd scr d mm (pc + 1) L S sh (am_up μ a x.toNatClampNeg (v &&& 1)) out) : am_Sd scr d mm pc L (.int v :: .int x :: .ref a :: S) sh μ out := by
  obtain ⟨hd, hax⟩ := am_dec1 hf 1 (fun k h => Nat.eq_of_beq_eq_true h)
  refine am_Sd.write rfl rfl (fun p l e R s m args below meth c H locs cells slots Q ls dC dI ad cA A H0 hC hW hS hl kk => ?_) h
  obtain ⟨hex, hb, hml, hown, hts, hns, hfr, hlo, hin⟩ := hC
  refine va_zast hex hb (hW.K ha (show 1 < 3 by decide)) hW.1 hW.2.1 hS a 0 (am_ws_get ha) rfl (am_inb_in hx) hd (fun H1 locs1 q1 q2 q3 => ?_)
  rw [show vp_nar .boolean v = v &&& 1 from rfl, am_ws_arr ha (by decide)] at q1 q2
  exact kk H1 locs1 ⟨q1, q2, hW.2.2⟩ q3
theorem am_s_bast {x v : Int32} {a n : Nat} {fs : List Nat} (hf : am_fet mm pc = some (.bastore, j)) (ha : sh[a]? = some (2, n, fs)) (hx : am_inb x n = true) (h : am_Sd scr d mm (pc + 1) L S sh (am_up μ a x.toNatClampNeg v.toInt8.toInt32) out) : am_Sd scr d mm pc L (.int v :: .int x :: .ref a :: S) sh μ out := by
  obtain ⟨hd, hax⟩ := am_dec1 hf 1 (fun k h => Nat.eq_of_beq_eq_true h)
  refine am_Sd.write rfl rfl (fun p l e R s m args below meth c H locs cells slots Q ls dC dI ad cA A H0 hC hW hS hl kk => ?_) h
  obtain ⟨hex, hb, hml, hown, hts, hns, hfr, hlo, hin⟩ := hC
  refine va_bast hex hb (hW.K ha (show 2 < 3 by decide)) hW.1 hW.2.1 hS a 0 (am_ws_get ha) rfl (am_inb_in hx) hd (fun H1 locs1 q1 q2 q3 => ?_)
  rw [show vp_nar .byte v = v.toInt8.toInt32 from rfl, am_ws_arr ha (by decide)] at q1 q2
  exact kk H1 locs1 ⟨q1, q2, hW.2.2⟩ q3
end
end
section
section
variable {scr : am_Scr} {d mm pc : Nat} {L S : List Value} {sh : am_Sh} {μ : am_Mu} {out : am_Out} {i : Instr} {j : Nat}
theorem am_mathW : Cond.static Lib.Math.max.name ∈ am_tbl ∧ Cond.static Lib.Math.min.name ∈ am_tbl ∧ Cond.static Lib.Math.abs.name ∈ am_tbl ∧ Cond.initialized "java/lang/Math" ∈ am_tbl ∧ Cond.native arraycopyName ∈ am_tbl ∧ Cond.static arraycopyName ∈ am_tbl ∧ Cond.initialized "java/lang/System" ∈ am_tbl ∧ Cond.instanceMethod objectInit ∈ am_tbl ∧ Cond.arrayClass .int ∈ am_tbl ∧ Cond.arrayClass .boolean ∈ am_tbl ∧ Cond.arrayClass .byte ∈ am_tbl := by
  have h := am_math
  simp only [Bool.and_eq_true] at h
  obtain ⟨h1, h2, h3, h4, h5, h6, h7, h8, h9, h10, h11⟩ := h
  exact ⟨am_in_mem h1, am_in_mem h2, am_in_mem h3, am_in_mem h4, am_in_mem h5, am_in_mem h6, am_in_mem h7, am_in_mem h8, am_in_mem h9, am_in_mem h10, am_in_mem h11⟩
theorem am_catS {S : List Value} (ad : Nat → Nat) (h : S.all am_ir = true) : ((S.map (am_cv ad)).map fun v => v.category).sum = S.length := by
  induction S with
  | nil => rfl
  | cons v t ih =>
    simp only [List.all_cons, Bool.and_eq_true] at h
    simp only [List.map_cons, List.sum_cons, List.length_cons, ih h.2, am_cat1 h.1]
    omega
/-- which link a call has -/
theorem am_callLink {k : Nat} (hax : am_any am_lM (am_ow mm) k j = true ∨ am_any am_lMN (am_ow mm) k j = true) : Cond.methodLink (am_RC (am_ow mm)) k (am_yqM j) ∈ am_tbl ∨ ∀ U, am_Nst U → va_Nw (.methodLinkNest (am_RC (am_ow mm)) k (am_yqM j) "SealBook") U := by
  rcases hax with hax | hax
  · obtain ⟨t, t1, t2, t3, t4⟩ := am_any_mem hax
    have h5 := am_atL_mem am_lM_ok t1
    simp only [am_metC, t2, t3, t4, cond_false] at h5
    exact Or.inl h5
  · obtain ⟨t, t1, t2, t3, t4⟩ := am_any_mem hax
    refine Or.inr (fun U hU => ?_)
    have h5 := hU.2 t t1
    simp only [am_metC, t2, t3, t4, cond_true] at h5
    exact h5
/-- no nest link leads to a method of the library -/
theorem am_noNest : am_lMN.all (fun t => Nat.blt t.2.2.1 am_law) = true := by decide +kernel
theorem am_callLib {k : Nat} (hj : am_law ≤ j) (hax : am_any am_lM (am_ow mm) k j = true ∨ am_any am_lMN (am_ow mm) k j = true) : Cond.methodLink (am_RC (am_ow mm)) k (am_yqM j) ∈ am_tbl := by
  rcases hax with hax | hax
  · obtain ⟨t, t1, t2, t3, t4⟩ := am_any_mem hax
    have h5 := am_atL_mem am_lM_ok t1
    simp only [am_metC, t2, t3, t4, cond_false] at h5
    exact h5
  · obtain ⟨t, t1, t2, t3, t4⟩ := am_any_mem hax
    have h5 := List.all_eq_true.mp am_noNest t t1
    simp only [Nat.blt_eq, t4] at h5
    omega
theorem am_s_obj {v a : Nat} (hf : am_fet mm pc = some (.invokespecial v, 1000)) (hir : S.all am_ir = true) (hlen : S.length ≤ 8) (h : am_Sd scr (d + 1) mm (pc + 3) L S sh μ out) : am_Sd scr (d + 1) mm pc L (.ref a :: S) sh μ out := by
  obtain ⟨hd, hax⟩ := am_dec1 hf 3 (fun k h => Nat.eq_of_beq_eq_true h)
  simp only [am_aux, Bool.and_eq_true, Bool.or_eq_true] at hax
  refine am_Sd.frame (fun p l e R s m args below meth c H locs cells slots Q ls dC dI ad cA A H0 hC hW hS hsc hl hr1 hr2 kk => ?_) h
  obtain ⟨hx, hb, hml, hown, hts, hns, hfr, hlo, hin⟩ := hC
  exact W.objInit hx hb hown (hts _ (am_callLib (by decide) hax.1)) (hts _ am_mathW.2.2.2.2.2.2.2.1) (hts _ am_mathC.2.2.2) rfl (by rw [hml]; exact hl.2.1) rfl hd (by omega) (by rw [am_catS ad hir]; show 2 * 0 + _ + 12 ≤ _; omega) (kk ls hl)
theorem am_s_max {v : Nat} {x y : Int32} (hf : am_fet mm pc = some (.invokestatic v, 1001)) (hir : S.all am_ir = true) (hlen : S.length ≤ 8) (h : am_Sd scr (d + 1) mm (pc + 3) L (.int (if x < y then y else x) :: S) sh μ out) : am_Sd scr (d + 1) mm pc L (.int y :: .int x :: S) sh μ out := by
  obtain ⟨hd, hax⟩ := am_dec1 hf 3 (fun k h => Nat.eq_of_beq_eq_true h)
  simp only [am_aux, Bool.and_eq_true, Bool.or_eq_true] at hax
  refine am_Sd.frame (fun p l e R s m args below meth c H locs cells slots Q ls dC dI ad cA A H0 hC hW hS hsc hl hr1 hr2 kk => ?_) h
  obtain ⟨hx, hb, hml, hown, hts, hns, hfr, hlo, hin⟩ := hC
  exact va_mmax hx hb (by rw [hml]; exact hl.2.1.symm) hown (hts _ (am_callLib (by decide) hax.1)) (hts _ am_mathW.1) (hts _ am_mathW.2.2.2.1) (hts _ am_mathC.1) (by omega) (by rw [am_catS ad hir]; omega) hr1 hr2 hd (kk ls hl)
theorem am_s_min {v : Nat} {x y : Int32} (hf : am_fet mm pc = some (.invokestatic v, 1002)) (hir : S.all am_ir = true) (hlen : S.length ≤ 8) (h : am_Sd scr (d + 1) mm (pc + 3) L (.int (if y < x then y else x) :: S) sh μ out) : am_Sd scr (d + 1) mm pc L (.int y :: .int x :: S) sh μ out := by
  obtain ⟨hd, hax⟩ := am_dec1 hf 3 (fun k h => Nat.eq_of_beq_eq_true h)
  simp only [am_aux, Bool.and_eq_true, Bool.or_eq_true] at hax
  refine am_Sd.frame (fun p l e R s m args below meth c H locs cells slots Q ls dC dI ad cA A H0 hC hW hS hsc hl hr1 hr2 kk => ?_) h
  obtain ⟨hx, hb, hml, hown, hts, hns, hfr, hlo, hin⟩ := hC
  exact va_mmin hx hb (by rw [hml]; exact hl.2.1.symm) hown (hts _ (am_callLib (by decide) hax.1)) (hts _ am_mathW.2.1) (hts _ am_mathW.2.2.2.1) (hts _ am_mathC.2.1) (by omega) (by rw [am_catS ad hir]; omega) hr1 hr2 hd (kk ls hl)
theorem am_s_abs {v : Nat} {x : Int32} (hf : am_fet mm pc = some (.invokestatic v, 1003)) (hir : S.all am_ir = true) (hlen : S.length ≤ 8) (h : am_Sd scr (d + 1) mm (pc + 3) L (.int (if 0 ≤ x then x else 0 - x) :: S) sh μ out) : am_Sd scr (d + 1) mm pc L (.int x :: S) sh μ out := by
  obtain ⟨hd, hax⟩ := am_dec1 hf 3 (fun k h => Nat.eq_of_beq_eq_true h)
  simp only [am_aux, Bool.and_eq_true, Bool.or_eq_true] at hax
  refine am_Sd.frame (fun p l e R s m args below meth c H locs cells slots Q ls dC dI ad cA A H0 hC hW hS hsc hl hr1 hr2 kk => ?_) h
  obtain ⟨hx, hb, hml, hown, hts, hns, hfr, hlo, hin⟩ := hC
  exact va_mabs hx hb (by rw [hml]; exact hl.2.1.symm) hown (hts _ (am_callLib (by decide) hax.1)) (hts _ am_mathW.2.2.1) (hts _ am_mathW.2.2.2.1) (hts _ am_mathC.2.2.1) (by omega) (by rw [am_catS ad hir]; omega) hr1 hr2 hd (kk ls hl)
theorem am_s_copy {v a b n0 n1 : Nat} {n sp dp : Int32} {fa fb : List Nat} (hf : am_fet mm pc = some (.invokestatic v, 1004)) (ha : sh[a]? = some (0, n0, fa)) (hb1 : sh[b]? = some (0, n1, fb)) (h1 : ¬ sp < 0) (h2 : ¬ dp < 0) (h3 : ¬ n < 0) (h4 : sp.toNatClampNeg + n.toNatClampNeg ≤ n0) (h5 : dp.toNatClampNeg + n.toNatClampNeg ≤ n1)
    (h : am_Sd scr (d + 1) mm (pc + 3) L [] sh (am_row μ b (va_cpy (μ a) (μ b) sp.toNatClampNeg dp.toNatClampNeg n.toNatClampNeg)) out) : am_Sd scr (d + 1) mm pc L [.int n, .int dp, .ref b, .int sp, .ref a] sh μ out := by
  obtain ⟨hd, hax⟩ := am_dec1 hf 3 (fun k h => Nat.eq_of_beq_eq_true h)
  simp only [am_aux, Bool.and_eq_true, Bool.or_eq_true] at hax
  refine am_Sd.write (S' := []) rfl rfl (fun p l e R s m args below meth c H locs cells slots Q ls dC dI ad cA A H0 hC hW hS hl kk => ?_) h
  obtain ⟨hx, hb, hml, hown, hts, hns, hfr, hlo, hin⟩ := hC
  have hK : va_K (dC, dI) am_cl [(cA a, .int), (cA b, .int)] s := by
    refine ⟨hW.2.2.1.1, fun i q hq => ?_⟩
    match i, hq with
    | 0, hq => cases hq; exact hW.2.2.2.1 a _ ha (show 0 < 3 by decide)
    | 1, hq => cases hq; exact hW.2.2.2.1 b _ hb1 (show 0 < 3 by decide)
    | i + 2, hq => simp at hq
  refine va_copyi (ty := .int) hx hb (by rw [hml]; exact hl.2.1.symm) hown (hts _ (am_callLib (by decide) hax.1)) (hts _ am_mathW.2.2.2.2.1) (hts _ am_mathW.2.2.2.2.2.1) (hts _ am_mathW.2.2.2.2.2.2.1) hK hW.1 hW.2.1 hS a b 0 1 (am_ws_get ha) (am_ws_get hb1) rfl rfl rfl h1 h2 h3 h4 h5 (fun _ _ => rfl) (by omega) (by
    have : nativeFrameWords "java/lang/System" "arraycopy" 5 + 11 ≤ 40 := by decide +kernel
    show 0 + _ ≤ _
    omega) hd (fun H1 locs1 q1 q2 q3 => ?_)
  have hset : (am_ws ad cA sh μ).set b (ad b, .inl (cA b, n1, .inl (va_cpy (μ a) (μ b) sp.toNatClampNeg dp.toNatClampNeg n.toNatClampNeg))) = am_ws ad cA sh (am_row μ b (va_cpy (μ a) (μ b) sp.toNatClampNeg dp.toNatClampNeg n.toNatClampNeg)) :=
    am_ws_set rfl hb1 (by rw [am_cellA (show 0 < 3 by decide), am_row_eq]) (fun i hi => ⟨rfl, am_row_ne hi⟩)
  rw [hset] at q1 q2
  exact kk H1 locs1 ⟨q1, q2, hW.2.2⟩ q3
/-! new cells -/
theorem am_fre_vk {n : Nat} {L : List Value} (h : L.all (am_vk n) = true) {ad : Nat → Nat} {q : Nat} (hn : n < am_SCR) : L.map (am_cv (fun k => if k = n then q else ad k)) = L.map (am_cv ad) := by
  refine List.map_congr_left (fun v hv => ?_)
  have h1 := List.all_eq_true.mp h v hv
  cases v <;> try rfl
  next a =>
    simp only [am_vk, Bool.or_eq_true, Nat.blt_eq, Nat.beq_eq] at h1
    show Value.ref _ = Value.ref _
    congr 1
    exact if_neg (by
      rintro rfl
      have : am_STR = am_SCR + 1 := rfl
      rcases h1 with h1 | h1 | h1 <;> omega)
theorem am_lv_cong {ad ad' : Nat → Nat} {L : List Value} (h : L.map (am_cv ad') = L.map (am_cv ad)) : am_lv ad' L = am_lv ad L := by
  unfold am_lv
  congr 1
  funext i
  have hi := congrArg (fun l => l[i]?) h
  simp only [List.getElem?_map] at hi
  unfold am_lvF
  cases hL : L[i]? with
  | none => rfl
  | some v =>
    rw [hL] at hi
    have := Option.some.inj hi
    cases v <;> first | rfl | (simp only [am_cv, Value.ref.injEq] at this; simp only [this])
theorem am_ws_push {ad : Nat → Nat} {cA : Nat → ClassId} {q : Nat} {c : ClassId} {e : Nat × Nat × List Nat} (hs : sh.all (am_ek sh.length) = true) : am_ws (fun k => if k = sh.length then q else ad k) (fun k => if k = sh.length then c else cA k) (sh ++ [e]) (am_push μ sh.length) = am_ws ad cA sh μ ++ [(q, am_cell (fun k => if k = sh.length then q else ad k) (fun k => if k = sh.length then c else cA k) e sh.length (fun _ => 0))] := by
  apply List.ext_getElem?
  intro i
  rcases Nat.lt_or_ge i sh.length with h | h
  · obtain ⟨x, hx⟩ : ∃ x, sh[i]? = some x := ⟨_, List.getElem?_eq_getElem h⟩
    rw [am_ws_get (by rw [List.getElem?_append_left h]; exact hx), List.getElem?_append_left (by rw [am_ws_len]; exact h), am_ws_get hx]
    have hne : ¬ i = sh.length := by omega
    have hek := List.all_eq_true.mp hs x (List.mem_of_getElem? hx)
    simp only [am_ek, List.all_eq_true, Nat.blt_eq] at hek
    have hμ : am_push μ sh.length i = μ i := by simp [am_push, hne]
    rw [hμ, if_neg hne]
    congr 2
    obtain ⟨kd, n, fs⟩ := x
    match kd with
    | 0 => simp [am_cell, hne]
    | 1 => simp [am_cell, hne]
    | 2 => simp [am_cell, hne]
    | c9 + 3 =>
      show Sum.inr (c9, _) = Sum.inr (c9, _)
      congr 2
      refine List.map_congr_left (fun k hk => ?_)
      have hk1 := List.mem_range.mp hk
      have h9 := hek (fs.getD k 0) (by rw [List.getD_eq_getElem?_getD, List.getElem?_eq_getElem hk1]; exact List.getElem_mem hk1)
      match hc : fs.getD k 0 with
      | 0 => rfl
      | 1 => rfl
      | b + 2 =>
        rw [hc] at h9
        show Value.ref _ = Value.ref _
        congr 1
        exact if_neg (by omega)
  · rcases Nat.lt_or_ge sh.length i with h2 | h2
    · rw [List.getElem?_eq_none (by rw [am_ws_len]; simp; omega), List.getElem?_eq_none (by simp [am_ws_len]; omega)]
    · have : i = sh.length := by omega
      subst this
      rw [am_ws_get (e := e) (by simp), List.getElem?_append_right (by rw [am_ws_len]; omega)]
      simp [am_ws_len, am_push]
/-- a step that makes one cell -/
theorem am_Sd.fresh {pc' : Nat} {S' : List Value} {e : Nat × Nat × List Nat} (hg : am_fre sh L S' = true) (hwf : ∀ ci n fs, e = (ci + 3, n, fs) → fs.length = (am_fresh.getD ci []).length ∧ ∀ (k c : Nat), fs[k]? = some c → (c = 0 ↔ (am_fresh.getD ci []).getD k 9 = 0))
    (hs : ∀ (p : Program) (l : Launch) (en : Env) (R : Room) (s : State) (m : MethodId) (args : Array Value) (below : List Frame) (meth : Method) (c : Code) (H : Heap) (locs : List Loc) (cells slots : Nat) (Q : State → Prop) (ls : Array Slot) (dC : Nat → ClassId) (dI : Nat → Nat → Nat) (ad : Nat → Nat) (cA : Nat → ClassId) (A : Nat → Prop) (H0 : Heap),
      am_Cx p R s m args meth c mm d → am_Wd dC dI ad cA A sh μ s H → va_S A H0 H locs → (∀ q, H0.size ≤ q → A q) → am_Lok ad L ls (am_nl mm) → cells + 1 ≤ R.cells → slots + e.2.1 ≤ R.slots →
      (∀ (q : Nat) (cc : ClassId) (H1 : Heap), va_P (dC, dI) am_cl (am_ws ad cA sh μ ++ [(q, am_cell (fun k => if k = sh.length then q else ad k) (fun k => if k = sh.length then cc else cA k) e sh.length (fun _ => 0))]) H1 → va_D A (am_ws ad cA sh μ ++ [(q, am_cell (fun k => if k = sh.length then q else ad k) (fun k => if k = sh.length then cc else cA k) e sh.length (fun _ => 0))]) → va_S A H0 H1 locs → (e.1 < 3 → ArrOfT s cc (am_ty e.1) ∧ va_RA s cc (am_ty e.1)) → W p l en R s m args below meth c H1 locs (cells + 1) (slots + e.2.1) Q (F0 m pc' ls (.ref q :: S'.map (am_cv ad)))) →
      W p l en R s m args below meth c H locs cells slots Q (F0 m pc ls (S.map (am_cv ad))))
    (h : am_Sd scr d mm pc' L (.ref sh.length :: S') (sh ++ [e]) (am_push μ sh.length) out) : am_Sd scr d mm pc L S sh μ out := by
  have a1 := h.1
  have a2 := h.2.1
  rw [List.length_append, List.length_singleton] at a1
  rw [am_sl_app] at a2
  simp only [am_fre, Bool.and_eq_true, Nat.blt_eq] at hg
  obtain ⟨g1, g2, g3, g4⟩ := hg
  refine ⟨by omega, by omega, ?_⟩
  intro p l en R s m args below meth c H locs cells slots Q ls dC dI ad cA A H0 hC hW hS hA hsc hl hc1 hc2 kr
  refine hs p l en R s m args below meth c H locs cells slots Q ls dC dI ad cA A H0 hC hW hS hA hl (by omega) (by omega) (fun q cc H1 hP1 hD1 hS1 hAr1 => ?_)
  rw [← am_ws_push g4] at hP1 hD1
  have hS' := am_fre_vk g3 (ad := ad) (q := q) g1
  have hL' := am_fre_vk g2 (ad := ad) (q := q) g1
  have hscr : am_E3 ad (fun k => if k = sh.length then q else ad k) := ⟨if_neg (by omega), if_neg (by have : am_STR = am_SCR + 1 := rfl; omega), if_neg (by have : am_STV = am_SCR + 2 := rfl; omega)⟩
  have hst : (Value.ref sh.length :: S').map (am_cv (fun k => if k = sh.length then q else ad k)) = .ref q :: S'.map (am_cv ad) := by
    rw [List.map_cons, hS']
    simp [am_cv]
  rw [← hst]
  refine h.2.2 p l en R s m args below meth c H1 locs (cells + 1) (slots + e.2.1) Q ls dC dI _ _ A H0 hC ⟨hP1, hD1, hW.2.2.1, ?_, ?_⟩ hS1 hA (hsc.cong hscr) ⟨hl.1, by rw [am_lv_cong hL']; exact hl.2⟩ (by rw [List.length_append, List.length_singleton]; omega) (by rw [am_sl_app]; omega) (fun pc2 ad2 cA2 H2 locs2 ls2 q1 q2 q3 q4 => ?_)
  · intro i e9 hi h3
    rcases Nat.lt_or_ge i sh.length with hlt | hge
    · rw [List.getElem?_append_left hlt] at hi
      dsimp only
      rw [if_neg (show ¬ i = sh.length by omega)]
      exact hW.2.2.2.1 i e9 hi h3
    · rw [List.getElem?_append_right hge] at hi
      have hz : i - sh.length = 0 := by
        have := (List.getElem?_eq_some_iff.mp hi).1
        simp at this; omega
      rw [hz] at hi
      cases hi
      have : i = sh.length := by omega
      dsimp only
      rw [if_pos this]
      exact hAr1 h3
  · intro i ci n fs hi
    rcases Nat.lt_or_ge i sh.length with hlt | hge
    · rw [List.getElem?_append_left hlt] at hi
      exact hW.2.2.2.2 i ci n fs hi
    · rw [List.getElem?_append_right hge] at hi
      have hz : i - sh.length = 0 := by
        have := (List.getElem?_eq_some_iff.mp hi).1
        simp at this; omega
      rw [hz] at hi
      exact hwf ci n fs (Option.some.inj hi)
  · have := kr pc2 ad2 cA2 H2 locs2 ls2 ⟨fun k hk => ?_, ?_, fun hq => absurd hq (by omega)⟩ q2 q3 q4
    · rw [List.length_append, List.length_singleton, am_sl_app]
      rw [show cells + 1 + (out.2.1.length - (sh.length + 1)) = cells + (out.2.1.length - sh.length) by omega, show slots + e.2.1 + (am_sl out.2.1 - (am_sl sh + e.2.1)) = slots + (am_sl out.2.1 - am_sl sh) by omega]
      exact this
    · have := q1.1 k (by rw [List.length_append]; omega)
      rw [this]
      exact if_neg (by omega)
    · exact ⟨q1.2.1.1.trans hscr.1, q1.2.1.2.1.trans hscr.2.1, q1.2.1.2.2.trans hscr.2.2⟩
theorem am_s_newa0 {t : ArrayType} {n : Int32} {kd : Nat} (hf : am_fet mm pc = some (.newarray t, j)) (hk : am_kd t = some kd) (h1 : ¬ n < 0) (h2 : n.toNatClampNeg ≤ 100000) (hg : am_fre sh L S = true) (h : am_Sd scr d mm (pc + 2) L (.ref sh.length :: S) (sh ++ [(kd, n.toNatClampNeg, [])]) (am_push μ sh.length) out) : am_Sd scr d mm pc L (.int n :: S) sh μ out := by
  obtain ⟨hd, hax⟩ := am_dec1 hf 2 (fun k h => Nat.eq_of_beq_eq_true h)
  have hkd : kd < 3 ∧ newarray.typeOf t = am_ty kd ∧ Cond.arrayClass (newarray.typeOf t) ∈ am_tbl ∧ defaultValue (am_ty kd) = .int 0 ∧ componentBytes (am_ty kd) ≤ 4 := by
    cases t <;> simp only [am_kd, Option.some.injEq, reduceCtorEq] at hk <;> subst hk
    · exact ⟨by decide, rfl, am_mathW.2.2.2.2.2.2.2.2.2.1, rfl, by decide⟩
    · exact ⟨by decide, rfl, am_mathW.2.2.2.2.2.2.2.2.2.2, rfl, by decide⟩
    · exact ⟨by decide, rfl, am_mathW.2.2.2.2.2.2.2.2.1, rfl, by decide⟩
  obtain ⟨k1, k2, k3, k4, k5⟩ := hkd
  refine am_Sd.fresh (S' := S) (e := (kd, n.toNatClampNeg, [])) hg (fun ci n9 fs he => absurd k1 (by have := congrArg (fun z => z.1) he; dsimp only at this; omega)) (fun p l en R s m args below meth c H locs cells slots Q ls dC dI ad cA A H0 hC hW hS hA hl hr1 hr2 kk => ?_) h
  obtain ⟨hx, hb, hml, hown, hts, hns, hfr, hlo, hin⟩ := hC
  refine va_newa (a0 := (n.toNatClampNeg, .inl (fun _ => 0))) hx hb (hts _ k3) k2 hW.2.2.1 hW.1 hW.2.1 hS hA (fun cc => by rw [k4]; rfl) h1 rfl (Nat.le_trans (Nat.mul_le_mul h2 k5) (by decide)) hr1 hr2 hd (fun q cc H1 qK qP qD qS => ?_)
  have hcell : am_cell (fun k => if k = sh.length then q else ad k) (fun k => if k = sh.length then cc else cA k) (kd, n.toNatClampNeg, []) sh.length (fun _ => 0) = .inl (cc, n.toNatClampNeg, .inl (fun _ => 0)) := by
    rw [am_cellA k1]; simp
  refine kk q cc H1 (by rw [hcell]; exact qP) (by rw [hcell]; exact qD) qS (fun _ => qK.2 0 (cc, am_ty kd) (by simp))
theorem am_msk_fre {sh : am_Sh} {L S : List Value} (h : am_fre sh [] S = true) : am_fre sh (am_msk sh.length L) S = true := by
  simp only [am_fre, Bool.and_eq_true, List.all_nil, true_and] at h ⊢
  refine ⟨h.1, ?_, h.2⟩
  rw [List.all_eq_true]
  intro v hv
  obtain ⟨w, hw, rfl⟩ := List.mem_map.mp hv
  unfold am_mk
  cases hq : am_vk sh.length w with
  | true => exact hq
  | false => rfl
theorem am_Sd.msk {n : Nat} (h : am_Sd scr d mm pc (am_msk n L) S sh μ out) : am_Sd scr d mm pc L S sh μ out := by
  refine ⟨h.1, h.2.1, ?_⟩
  intro p l e R s m args below meth c H locs cells slots Q ls dC dI ad cA A H0 hC hW hS hA hsc hl hc1 hc2 kr
  refine h.2.2 p l e R s m args below meth c H locs cells slots Q ls dC dI ad cA A H0 hC hW hS hA hsc ⟨by rw [am_msk, List.length_map]; exact hl.1, hl.2.1, hl.2.2.1, fun q hq => ?_⟩ hc1 hc2 kr
  obtain ⟨v, h1, h2, h3⟩ := am_lv_mem.mp hq
  refine hl.2.2.2 q (am_lv_mem.mpr ⟨v, ?_, h2, h3⟩)
  rw [am_msk, List.getElem?_map] at h1
  cases hx : L[q.1]? with
  | none => rw [hx] at h1; cases h1
  | some w =>
    rw [hx] at h1
    have h1 : am_mk n w = v := Option.some.inj h1
    unfold am_mk at h1
    cases hq : am_vk n w with
    | true => rw [hq, cond_true] at h1; rw [h1]
    | false => rw [hq, cond_false] at h1; rw [← h1] at h2; cases h2
theorem am_s_newa {t : ArrayType} {n : Int32} {kd : Nat} (hf : am_fet mm pc = some (.newarray t, j)) (hk : am_kd t = some kd) (h1 : ¬ n < 0) (h2 : n.toNatClampNeg ≤ 100000) (hg : am_fre sh [] S = true) (h : am_Sd scr d mm (pc + 2) (am_msk sh.length L) (.ref sh.length :: S) (sh ++ [(kd, n.toNatClampNeg, [])]) (am_push μ sh.length) out) : am_Sd scr d mm pc L (.int n :: S) sh μ out := am_Sd.msk (am_s_newa0 hf hk h1 h2 (am_msk_fre hg) h)
theorem am_s_new {v : Nat} {fs : List Nat} (hf : am_fet mm pc = some (.new v, j)) (hfs : am_fresh[j]? = some fs) (hg : am_fre sh L S = true) (h : am_Sd scr d mm (pc + 3) L (.ref sh.length :: S) (sh ++ [(j + 3, fs.length, fs)]) (am_push μ sh.length) out) : am_Sd scr d mm pc L S sh μ out := by
  obtain ⟨hd, hax⟩ := am_dec1 hf 3 (fun k h => Nat.eq_of_beq_eq_true h)
  obtain ⟨t, t1, t2, t3, t4⟩ := am_any_mem hax
  have hlink := am_atL_mem am_lC_ok t1
  simp only [am_clsC, t2, t3, t4] at hlink
  obtain ⟨k, hk⟩ : ∃ k, am_cl[j]? = some k := by
    have hj : j < am_fresh.length := (List.getElem?_eq_some_iff.mp hfs).1
    exact ⟨_, List.getElem?_eq_getElem (show j < am_cl.length from hj)⟩
  obtain ⟨f1, f2, f3, f4, f5, f6, f7, f8⟩ := am_clsF hk
  have hgd : am_fresh.getD j [] = fs := by rw [List.getD_eq_getElem?_getD, hfs]; rfl
  rw [hgd] at f3 f4 f8
  refine am_Sd.fresh (S' := S) (e := (j + 3, fs.length, fs)) hg (fun ci n9 fs9 he => ?_) (fun p l en R s m args below meth c H locs cells slots Q ls dC dI ad cA A H0 hC hW hS hA hl hr1 hr2 kk => ?_) h
  · simp only [Prod.mk.injEq] at he
    obtain ⟨e1, -, rfl⟩ := he
    have : j = ci := by omega
    subst this
    rw [hgd]
    refine ⟨rfl, fun k9 c9 h9 => ?_⟩
    rw [List.getD_eq_getElem?_getD, h9]; rfl
  · obtain ⟨hx, hb, hml, hown, hts, hns, hfr, hlo, hin⟩ := hC
    rw [f7] at hlink
    refine va_new (fs := am_flds ad fs (fun _ => 0)) hx hb hts f1 (fun a => (parseFieldDescriptor (k.2.1 a).2.2.1).getD .int) (fun a ha => (f3 a ha).1) hown (hts _ hlink) (hts _ f5) (hts _ f6) hW.2.2.1 hW.1 hW.2.1 hS hA hk (fun a ha => ?_) hr1 (by rw [← f4]; exact hr2) hd (fun q H1 qP qD qS => ?_)
    · rw [(f3 a ha).2]
      have hal : a < fs.length := by rw [f4]; exact ha
      obtain ⟨x, hx9⟩ : ∃ x, fs[a]? = some x := ⟨_, List.getElem?_eq_getElem hal⟩
      have hx1 := f8 x (List.mem_of_getElem? hx9)
      simp only [vp_V, List.getD_eq_getElem?_getD, am_flds_get hx9, hx9, Option.getD_some]
      match x, hx1 with
      | 0, _ => rfl
      | 1, _ => rfl
    · have hcell : am_cell (fun k => if k = sh.length then q else ad k) (fun k => if k = sh.length then 0 else cA k) (j + 3, fs.length, fs) sh.length (fun _ => 0) = .inr (j, am_flds ad fs (fun _ => 0)) := by
        rw [am_cellO (ci := j) rfl]
        congr 2
        refine List.map_congr_left (fun a ha => ?_)
        have hal := List.mem_range.mp ha
        obtain ⟨x, hx9⟩ : ∃ x, fs[a]? = some x := ⟨_, List.getElem?_eq_getElem hal⟩
        have hx1 := f8 x (List.mem_of_getElem? hx9)
        simp only [List.getD_eq_getElem?_getD, hx9, Option.getD_some]
        match x, hx1 with
        | 0, _ => rfl
        | 1, _ => rfl
      have := kk q 0 H1 (by rw [hcell]; exact qP) (by rw [hcell]; exact qD) qS (fun h9 => absurd h9 (by show ¬ j + 3 < 3; omega))
      rw [← f4]
      exact this
end
end
section
/-! CALLS -/
theorem am_lN_cl : am_lN.all (fun t => (am_cl[t.2.2.1 / 100]?).isSome) = true := by decide +kernel
theorem am_Nst.calling {U : State} (h : am_Nst U) (g : JFrame) (mk : MethodId) (a : Array Value) : am_Nst (U.calling g mk a) := by
  refine ⟨fun t ht => ?_, fun t ht => ?_⟩
  · have h1 := h.1 t ht
    refine va_Nw.same ?_ (show U.vm = (U.calling g mk a).vm from rfl) h1
    have h2 := List.all_eq_true.mp am_lN_cl t ht
    unfold am_fldC
    cases hc : am_cl[t.2.2.1 / 100]? with
    | none => rw [hc] at h2; cases h2
    | some c => rfl
  · exact va_Nw.same rfl (show U.vm = (U.calling g mk a).vm from rfl) (h.2 t ht)
theorem am_Nst.warm {s U : State} (hW : s.WarmedH U.vm) (h : am_Nst s) : am_Nst U := by
  refine ⟨fun t ht => ?_, fun t ht => ?_⟩
  · have h1 := h.1 t ht
    have h2 := List.all_eq_true.mp am_lN_cl t ht
    unfold am_fldC at h1 ⊢
    cases hc : am_cl[t.2.2.1 / 100]? with
    | none => rw [hc] at h2; cases h2
    | some c =>
      rw [hc] at h1
      exact va_Nw.warmF hW h1
  · exact va_Nw.warmM hW (h.2 t ht)
theorem am_Ar.moved {cA : Nat → ClassId} {sh : am_Sh} {u U : State} (hvm : u.vm.Alike U.vm) (h : am_Ar cA sh u) : am_Ar cA sh U := fun k e hk h3 => ⟨arrOfT_moved hvm (h k e hk h3).1, (h k e hk h3).2.moved hvm⟩
theorem am_Wd.moved {dC : Nat → ClassId} {dI : Nat → Nat → Nat} {ad : Nat → Nat} {cA : Nat → ClassId} {A : Nat → Prop} {sh : am_Sh} {μ : am_Mu} {u U : State} {H : Heap} (hvm : u.vm.Alike U.vm) (h : am_Wd dC dI ad cA A sh μ u H) : am_Wd dC dI ad cA A sh μ U H := ⟨h.1, h.2.1, va_K.moved hvm h.2.2.1, h.2.2.2.1.moved hvm, h.2.2.2.2⟩
theorem am_Wd.weaken {dC : Nat → ClassId} {dI : Nat → Nat → Nat} {ad : Nat → Nat} {cA : Nat → ClassId} {A A' : Nat → Prop} {sh : am_Sh} {μ : am_Mu} {U : State} {H : Heap} (h : am_Wd dC dI ad cA A sh μ U H) (hA : ∀ k, k < sh.length → A (ad k) → A' (ad k)) : am_Wd dC dI ad cA A' sh μ U H := by
  refine ⟨h.1, ⟨h.2.1.1, fun k q hq => ?_⟩, h.2.2⟩
  obtain ⟨h1, h2⟩ := am_ws_of hq
  have h3 := h.2.1.2 k q hq
  rw [h2] at h3 ⊢
  exact hA k h1 h3
def am_A (ad : Nat → Nat) (sh : am_Sh) (sz : Nat) : Nat → Prop := fun q => (∃ k, k < sh.length ∧ q = ad k) ∨ sz ≤ q
def am_Q (dC : Nat → ClassId) (dI : Nat → Nat → Nat) (ad : Nat → Nat) (A : Nat → Prop) (sh : am_Sh) (out : am_Out) : Array Value → State → Outcome → State → Prop := fun _ st oc t =>
  (∃ (ad' : Nat → Nat) (cA' : Nat → ClassId), am_Ext ad ad' sh out.2.1 ∧ oc = .returned (out.1.map (am_cv ad')) ∧ am_Wd dC dI ad' cA' A out.2.1 out.2.2 t t.heap) ∧ va_F A st t
theorem am_lgsl {vs : List Value} (h : vs.all (fun v => decide (v.category = 1)) = true) : (lg_sl vs).length = vs.length := by
  induction vs with
  | nil => rfl
  | cons v t ih =>
    simp only [List.all_cons, Bool.and_eq_true, decide_eq_true_eq] at h
    show (List.flatMap _ (v :: t)).length = _
    rw [List.flatMap_cons, List.length_append, if_neg (by omega)]
    have := ih h.2
    unfold lg_sl at this
    rw [this]
    simp
    omega
theorem am_lvargs {vs : List Value} (h : vs.all (fun v => decide (v.category = 1)) = true) : ∀ (k i : Nat) (v : Value), vs[i]? = some v → (k + i, v) ∈ lv_args k vs := by
  induction vs with
  | nil => intro k i v hi; simp at hi
  | cons w t ih =>
    intro k i v hi
    simp only [List.all_cons, Bool.and_eq_true, decide_eq_true_eq] at h
    cases i with
    | zero => cases hi; exact List.mem_cons_self
    | succ i =>
      refine List.mem_cons_of_mem _ ?_
      have := ih h.2 (k + 1) i v hi
      rw [show k + (i + 1) = k + 1 + i by omega]
      rw [if_neg (by omega)]
      exact this
theorem am_cat_map {As : List Value} (ad : Nat → Nat) (h : As.all am_ir = true) : (As.map (am_cv ad)).all (fun v => decide (v.category = 1)) = true := by
  rw [List.all_eq_true] at h ⊢
  intro v hv
  obtain ⟨w, hw, rfl⟩ := List.mem_map.mp hv
  exact decide_eq_true (am_cat1 (h w hw))
theorem am_entry {ad : Nat → Nat} {As : List Value} {nL : Nat} (hAs : As.all am_ir = true) (hn : As.length ≤ nL) : am_Lok ad (As ++ List.replicate (nL - As.length) .null) ((lg_sl (As.map (am_cv ad)) ++ List.replicate (nL - (lg_sl (As.map (am_cv ad))).length) Slot.unset).toArray) nL := by
  have hc := am_cat_map ad hAs
  have hlen : (lg_sl (As.map (am_cv ad))).length = As.length := by rw [am_lgsl hc, List.length_map]
  have hl := lv_entry (As.map (am_cv ad)) (n := nL) (by rw [hlen]; exact hn)
  refine ⟨by simp; omega, hl.1, hl.2.1, fun q hq => ?_⟩
  obtain ⟨v, h1, h2, h3⟩ := am_lv_mem.mp hq
  obtain ⟨i, w⟩ := q
  dsimp only at h1 h3
  subst h3
  refine hl.2.2 (i, am_cv ad v) ?_
  have hi : i < As.length := by
    rcases Nat.lt_or_ge i As.length with g | g
    · exact g
    · rw [List.getElem?_append_right g] at h1
      have := List.mem_of_getElem? h1
      rw [List.eq_of_mem_replicate this] at h2
      cases h2
  rw [List.getElem?_append_left hi] at h1
  have := am_lvargs hc 0 i (am_cv ad v) (by rw [List.getElem?_map, h1]; rfl)
  rwa [Nat.zero_add] at this
/-- what the tables say of a method -/
theorem am_mth {j : Nat} (hj : j < am_law) : plainName (am_yq j).cls = true ∧ Cond.code (am_yq j) (am_cod j) (am_nl j) (am_rt j) ∈ am_tbl ∧ (if am_st j = true then Cond.static (am_yq j) ∈ am_tbl else Cond.instanceMethod (am_yq j) ∈ am_tbl) ∧ (am_st j = false → (am_yq j).name ≠ "<init>" → Cond.selects (am_yq j).cls (am_yq j) (am_yq j) ∈ am_tbl) ∧ Cond.initialized (am_yq j).cls ∈ am_tbl ∧ ((am_yq j).cls ≠ "java/lang/invoke/MethodHandle" ∧ (am_yq j).cls ≠ "java/lang/invoke/VarHandle" ∧ (parseMethodDescriptor (am_yq j).desc).map (fun d => d.parameters.length) = some (am_na j)) ∧ ((am_yq j).name = "<init>" → am_rt j = none) := by
  have h := am_okM_all j hj
  simp only [am_okM, Bool.and_eq_true, decide_eq_true_eq, Bool.not_eq_true', beq_eq_false_iff_ne, Bool.or_eq_true] at h
  obtain ⟨h1, h2, h3, h4, h5, h6, h7, h8, h9⟩ := h
  refine ⟨h1, am_inC_mem h2, ?_, fun e1 e2 => ?_, am_in_mem h5, ⟨h6, h7, h8⟩, fun e => ?_⟩
  · cases hs : am_st j <;> rw [hs] at h3 <;> simpa using am_in_mem h3
  · rw [e1, show ((am_yq j).name == "<init>") = false from beq_eq_false_iff_ne.mpr e2] at h4
    exact am_in_mem h4
  · rcases h9 with q | q
    · exact absurd e q
    · exact q
theorem am_goodW {j : Nat} (hj : j < am_law) : GoodIn am_tbl (am_words j) := by
  have hall : ∀ w ∈ am_words j, w ∈ am_tbl := by
    intro w hw
    rcases List.mem_cons.mp hw with rfl | hw
    · exact (am_mth hj).2.1
    · exact hw
  exact fun w hw => ⟨hall w hw, good_of_word (List.mem_filter.mp (hall w hw)).2⟩
/-- the contract of a method at one memory -/
theorem am_met {scr0 : am_Scr} {d j : Nat} {As : List Value} {sh : am_Sh} {μ : am_Mu} {out : am_Out} (hj : j < am_law) (hAs : As.all am_ir = true) (hn : As.length ≤ am_nl j) (h : am_Sd scr0 d j 0 (As ++ List.replicate (am_nl j - As.length) .null) [] sh μ out)
    (l : Launch) (dC : Nat → ClassId) (dI : Nat → Nat → Nat) (ad : Nat → Nat) (cA : Nat → ClassId) (sz : Nat) :
    Met l (am_yq j) (am_words j) ({ frames := d, cells := out.2.1.length - sh.length, slots := am_sl out.2.1 - am_sl sh, locals := 40 * d })
      (va_Pc (As.map (am_cv ad)) (fun U => U.heap.size = sz ∧ am_Wd dC dI ad cA (fun _ => True) sh μ U U.heap ∧ am_Nst U ∧ am_Sc scr0 ad (am_A ad sh sz) U U.heap)) (am_Q dC dI ad (am_A ad sh sz) sh out) (out.2.1.length - sh.length) (am_sl out.2.1 - am_sl sh) (am_A ad sh sz) := by
  obtain ⟨m1, m2, m3, m4, m5, m6, m7⟩ := am_mth hj
  refine Met.ofW (cc := am_cod j) (maxL := am_nl j) (ret := am_rt j) m1 rfl ?_
  intro p e s m args below meth c s₁ B hml hv
  obtain ⟨rfl, hsz, hW, hN, hSc⟩ := hv
  have hts := atoms_spec (ws := am_words j) B.pre
  have hown : s.vm.findClass (am_RC (am_ow j)) = some m.cls := findClass_of_methodNamed B.named
  have hlocks := B.notSynchronized
  have hr := B.returns
  rw [lg_entry_eq]
  have hb : c.code = am_cod j := B.bytes
  subst hsz
  have hA : ∀ q : Nat, s.heap.size ≤ q → am_A ad sh s.heap.size q := fun q h => Or.inr h
  have hW1 : am_Wd dC dI ad cA (am_A ad sh s.heap.size) sh μ s s.heap := hW.weaken (fun k hk _ => Or.inl ⟨k, hk, rfl⟩)
  have a1 := h.1
  have a2 := h.2.1
  refine h.2.2 p l e _ s m (As.map (am_cv ad)).toArray below meth c s.heap [] 0 0 _ _ dC dI ad cA (am_A ad sh s.heap.size) s.heap ⟨B.exec, hb, hml, hown, fun w hw => hts w (List.mem_cons_of_mem _ hw), hN, Nat.le_refl _, Nat.le_refl _, fun hi => by rw [← hi]; exact (name_of_methodNamed B.named B.method).1⟩ hW1 va_S.rf hA hSc (am_entry hAs hn) (by show 0 + _ ≤ (out.2.1.length - sh.length) + _; omega) (by show 0 + _ ≤ (am_sl out.2.1 - am_sl sh) + _; omega) ?_
  intro pc' ad' cA' H' locs' ls' hE hW' hS' hR
  rw [Nat.zero_add, Nat.zero_add]
  have hq : ∀ t : State, t.heap = H' → s.WarmedH t.vm → am_Q dC dI ad (am_A ad sh s.heap.size) sh out (As.map (am_cv ad)).toArray s (.returned (out.1.map (am_cv ad'))) t := by
    intro t ht hw
    exact ⟨⟨ad', cA', hE, rfl, by rw [ht]; exact hW'.moved hw.alike⟩, hS'.F ht⟩
  obtain ⟨r, sh', μ'⟩ := out
  dsimp only at hq hR hS' a1 a2 ⊢
  match r, hR with
  | none, hR =>
    rw [hR.2] at hr
    exact W.vret B.exec hb hr hq hS'.2.2 hR.1
  | some (.int x), hR =>
    obtain ⟨hd, hR | ⟨hR, hx⟩⟩ := hR
    · rw [hR] at hr
      exact W.iret B.exec hb hr hq hS'.2.2 hd
    · rw [hR] at hr
      exact W.zret B.exec hb hr (show Value.int (x &&& 1) = .int x by rw [hx]) hq hS'.2.2 hd
  | some (.ref a), hR =>
    obtain ⟨hd, C, hR⟩ := hR
    rw [hR] at hr
    exact W.aret B.exec hb hr (Or.inl ⟨C, rfl⟩) (Or.inr ⟨_, rfl⟩) hq hS'.2.2 hd
section
variable {p : Program} {l : Launch} {e : Env} {R : Room} {s : State} {m : MethodId} {args : Array Value} {below : List Frame} {meth : Method} {c : Code} {H : Heap} {locs : List Loc} {cells slots : Nat} {Q : State → Prop}
theorem am_callk {pc : Nat} {ls : Array Slot} {rest st0 : List Value} {a : Array Value} {A0 A1 : Nat → Prop} {H0 : Heap} {mc ms : Nat} {dC : Nat → ClassId} {dI : Nat → Nat → Nat} {ad : Nat → Nat} {sh : am_Sh} {out : am_Out} (hr : va_Run p l e R s m args below meth c H locs cells slots mc ms (F0 m pc ls st0) rest (am_Q dC dI ad A1 sh out a) A1) (hS : va_S A0 H0 H locs) (hA : ∀ q, A1 q → A0 q)
    (kk : ∀ (ad' : Nat → Nat) (cA' : Nat → ClassId) (H1 : Heap) (locs1 : List Loc), am_Ext ad ad' sh out.2.1 → am_Wd dC dI ad' cA' A0 out.2.1 out.2.2 s H1 → va_S A0 H0 H1 locs1 → W p l e R s m args below meth c H1 locs1 (cells + mc) (slots + ms) Q (F0 m (pc + 3) ls ((out.1.map (am_cv ad')).toList ++ rest))) : W p l e R s m args below meth c H locs cells slots Q (F0 m pc ls st0) := by
  intro T hT X
  obtain ⟨v, st₀, t, T', L, h0, X', hL, e1, e2, ⟨⟨ad', cA', hE, hv, hWd⟩, hz, hk⟩, st⟩ := hr T hT X
  have hv2 : v = out.1.map (am_cv ad') := by injection hv
  subst hv2
  rw [h0] at hz hk
  have hal : s.vm.Alike t.vm := by rw [← e2]; exact X'.warmed.alike
  obtain ⟨t2, a1, b1⟩ := kk ad' cA' T'.heap (locs ++ L) hE (by rw [e1]; exact (hWd.moved hal.symm).weaken (fun k _ h => hA _ h))
    ⟨Nat.le_trans hS.1 (by rw [e1]; exact hz), fun q h1 h2 => by rw [e1, hk q (Nat.lt_of_lt_of_le h1 hS.1) (fun z => h2 (hA q z))]; exact hS.2.1 q h1 h2, fun q hq => by
      rcases List.mem_append.mp hq with h | h
      · exact hS.2.2 q h
      · exact hA _ (hL q h)⟩ T' rfl X'
  exact ⟨t2, st t2 a1, b1⟩
end
section
variable {scr : am_Scr} {d mm pc : Nat} {L : List Value} {sh : am_Sh} {μ : am_Mu} {out out1 : am_Out} {j : Nat} {As rest : List Value}
/-- behind a call -/
theorem am_s_after (hsl : sh.length ≤ out1.2.1.length) (hss : am_sl sh ≤ am_sl out1.2.1) (hg : out1.2.1.length = sh.length ∨ am_fre sh L rest = true)
    (hs : ∀ (p : Program) (l : Launch) (e : Env) (R : Room) (s : State) (m : MethodId) (args : Array Value) (below : List Frame) (meth : Method) (c : Code) (H : Heap) (locs : List Loc) (cells slots : Nat) (Q : State → Prop) (ls : Array Slot) (dC : Nat → ClassId) (dI : Nat → Nat → Nat) (ad : Nat → Nat) (cA : Nat → ClassId) (A : Nat → Prop) (H0 : Heap),
      am_Cx p R s m args meth c mm (d + 1) → am_Wd dC dI ad cA A sh μ s H → (∀ q, am_A ad sh H.size q → A q) → va_S A H0 H locs → am_Lok ad L ls (am_nl mm) → am_Sc scr ad A s H0 → cells + (out1.2.1.length - sh.length) ≤ R.cells → slots + (am_sl out1.2.1 - am_sl sh) ≤ R.slots →
      (∀ (ad' : Nat → Nat) (cA' : Nat → ClassId) (H1 : Heap) (locs1 : List Loc), am_Ext ad ad' sh out1.2.1 → am_Wd dC dI ad' cA' A out1.2.1 out1.2.2 s H1 → va_S A H0 H1 locs1 → W p l e R s m args below meth c H1 locs1 (cells + (out1.2.1.length - sh.length)) (slots + (am_sl out1.2.1 - am_sl sh)) Q (F0 m (pc + 3) ls ((out1.1.map (am_cv ad')).toList ++ rest.map (am_cv ad)))) →
      W p l e R s m args below meth c H locs cells slots Q (F0 m pc ls ((As.reverse ++ rest).map (am_cv ad))))
    (h : am_Sd scr (d + 1) mm (pc + 3) L (out1.1.toList ++ rest) out1.2.1 out1.2.2 out) : am_Sd scr (d + 1) mm pc L (As.reverse ++ rest) sh μ out := by
  have a1 := h.1
  have a2 := h.2.1
  refine ⟨by omega, by omega, ?_⟩
  intro p l e R s m args below meth c H locs cells slots Q ls dC dI ad cA A H0 hC hW hS hA hsc hl hc1 hc2 kr
  refine hs p l e R s m args below meth c H locs cells slots Q ls dC dI ad cA A H0 hC hW ?_ hS hl hsc (by omega) (by omega) (fun ad' cA' H1 locs1 hE hW1 hS1 => ?_)
  · rintro q (⟨k, hk, rfl⟩ | hq)
    · exact (hW.lt hk).2
    · exact hA q (Nat.le_trans hS.1 hq)
  · have hmap : L.map (am_cv ad') = L.map (am_cv ad) ∧ rest.map (am_cv ad') = rest.map (am_cv ad) := by
      rcases hg with hg | hg
      · rw [hE.2.2 hg]; exact ⟨rfl, rfl⟩
      · simp only [am_fre, Bool.and_eq_true] at hg
        have key : ∀ M : List Value, M.all (am_vk sh.length) = true → M.map (am_cv ad') = M.map (am_cv ad) := by
          intro M hM
          refine List.map_congr_left (fun v hv => ?_)
          have h1 := List.all_eq_true.mp hM v hv
          cases v <;> try rfl
          next a =>
            simp only [am_vk, Bool.or_eq_true, Nat.blt_eq, Nat.beq_eq] at h1
            show Value.ref _ = Value.ref _
            congr 1
            rcases h1 with h1 | rfl | rfl
            · exact hE.1 a h1
            · exact hE.2.1.1
            · exact hE.2.1.2.1
        exact ⟨key L hg.2.1, key rest hg.2.2.1⟩
    have hst : (out1.1.map (am_cv ad')).toList ++ rest.map (am_cv ad) = (out1.1.toList ++ rest).map (am_cv ad') := by
      rw [List.map_append, hmap.2]
      cases out1.1 <;> rfl
    rw [hst]
    refine h.2.2 p l e R s m args below meth c H1 locs1 _ _ Q ls dC dI ad' cA' A H0 hC hW1 hS1 hA (hsc.cong hE.2.1) ⟨hl.1, by rw [am_lv_cong hmap.1]; exact hl.2⟩ (by omega) (by omega) (fun pc2 ad2 cA2 H2 locs2 ls2 q1 q2 q3 q4 => ?_)
    have := kr pc2 ad2 cA2 H2 locs2 ls2 ⟨fun k hk => (q1.1 k (by omega)).trans (hE.1 k hk), ⟨q1.2.1.1.trans hE.2.1.1, q1.2.1.2.1.trans hE.2.1.2.1, q1.2.1.2.2.trans hE.2.1.2.2⟩, fun hq => (q1.2.2 (by omega)).trans (hE.2.2 (by omega))⟩ q2 q3 q4
    rw [show cells + (out1.2.1.length - sh.length) + (out.2.1.length - out1.2.1.length) = cells + (out.2.1.length - sh.length) by omega, show slots + (am_sl out1.2.1 - am_sl sh) + (am_sl out.2.1 - am_sl out1.2.1) = slots + (am_sl out.2.1 - am_sl sh) by omega]
    exact this
theorem am_blind {scr0 : am_Scr} {B : Nat → Prop} {dC : Nat → ClassId} {dI : Nat → Nat → Nat} {ad : Nat → Nat} {cA : Nat → ClassId} {sz : Nat} {av : List Value} : FrameBlind (va_Pc av (fun U => U.heap.size = sz ∧ am_Wd dC dI ad cA (fun _ => True) sh μ U U.heap ∧ am_Nst U ∧ am_Sc scr0 ad B U U.heap)) := by
  intro a U g mk q
  obtain ⟨q0, q1, q2, q3, q4⟩ := q
  exact ⟨q0, q1, q2.moved (u := U) (U := U.calling g mk a) (Vm.Alike.refl U.vm), q3.calling g mk a, q4.same (s := U) (U := U.calling g mk a) rfl⟩
theorem am_nlMax : (am_M.take am_law).all (fun t => Nat.ble t.2.2.2.1 13) = true := by decide +kernel
theorem am_nl13 {j : Nat} (hj : j < am_law) : am_nl j ≤ 13 := by
  unfold am_nl
  rw [List.getD_eq_getElem?_getD]
  cases h : am_M[j]? with
  | none => decide
  | some t =>
    have h2 : (am_M.take am_law)[j]? = some t := by rw [List.getElem?_take_of_lt hj]; exact h
    have := List.all_eq_true.mp am_nlMax t (List.mem_of_getElem? h2)
    exact Nat.le_of_ble_eq_true this
theorem am_yqM_of (hj : j < am_law) : am_yqM j = am_yq j := by
  have h : ∀ k, 1000 ≤ k → ¬ j = k := fun k hk q => by
    have : am_law ≤ 1000 := by decide
    omega
  unfold am_yqM
  split <;> first | (exfalso; exact absurd rfl (h _ (by decide))) | rfl
theorem am_s_call {scr0 : am_Scr} (hs0 : scr0 = none ∨ scr0 = am_sub scr ∨ scr0 = scr) {k : Nat} {i : Instr} (hf : am_fet mm pc = some (i, j)) (hj : j < am_law) (hAs : As.all am_ir = true) (hrest : rest.all am_ir = true) (hlen : rest.length ≤ 8) (hn : As.length ≤ am_nl j)
    (hcal : am_Sd scr0 d j 0 (As ++ List.replicate (am_nl j - As.length) .null) [] sh μ out1) (hg : out1.2.1.length = sh.length ∨ am_fre sh L rest = true)
    (hi : (i = .invokevirtual k ∧ am_st j = false ∧ (am_yq j).name ≠ "<init>" ∧ ∃ b As' n fs, As = .ref b :: As' ∧ As'.length = am_na j ∧ sh[b]? = some (am_ow j + 3, n, fs)) ∨ (i = .invokestatic k ∧ am_st j = true ∧ As.length = am_na j) ∨ (i = .invokespecial k ∧ am_st j = false ∧ (am_yq j).name = "<init>" ∧ ∃ b As', As = .ref b :: As' ∧ As'.length = am_na j))
    (h : am_Sd scr (d + 1) mm (pc + 3) L (out1.1.toList ++ rest) out1.2.1 out1.2.2 out) : am_Sd scr (d + 1) mm pc L (As.reverse ++ rest) sh μ out := by
  have hd0 := am_dec hf
  obtain ⟨m1, m2, m3, m4, m5, m6, m7⟩ := am_mth hj
  refine am_s_after hcal.1 hcal.2.1 hg (fun p l e R s m args below meth c H locs cells slots Q ls dC dI ad cA A H0 hC hW hAA hS hl hsc hr1 hr2 kk => ?_) h
  obtain ⟨hx, hb, hml, hown, hts, hns, hfr, hlo, hin⟩ := hC
  have hsc0 : am_Sc scr0 ad (am_A ad sh H.size) s H := by
    have h9 : am_Sc scr0 ad A s H0 := by
      rcases hs0 with rfl | rfl | rfl
      · trivial
      · exact hsc.sub
      · exact hsc
    exact h9.at hS hAA
  have hM := am_met hj hAs hn hcal l dC dI ad cA H.size
  have hR : d + 1 ≤ R.frames ∧ 8 + (am_nl j + 11) + 40 * d ≤ R.locals := by
    have := am_nl13 hj
    exact ⟨hfr, by omega⟩
  have hG := am_goodW hj
  have hro := lv_room (m := m) (pc := pc) (ls := ls) (rest := (As.reverse ++ rest).map (am_cv ad)) (st := rest.map (am_cv ad)) (by rw [am_catS ad hrest]; exact hlen)
  have hPc : ∀ U : State, U.heap = H → s.WarmedH U.vm → va_Pc (As.map (am_cv ad)) (fun U => U.heap.size = H.size ∧ am_Wd dC dI ad cA (fun _ => True) sh μ U U.heap ∧ am_Nst U ∧ am_Sc scr0 ad (am_A ad sh H.size) U U.heap) (As.map (am_cv ad)).toArray U := by
    intro U hU hWa
    exact ⟨rfl, by rw [hU], by rw [hU]; exact (hW.moved hWa.alike).weaken (fun _ _ _ => trivial), hns.warm hWa, by rw [hU]; exact hsc0.warm hWa⟩
  have hst : (As.reverse ++ rest).map (am_cv ad) = (As.map (am_cv ad)).reverse ++ rest.map (am_cv ad) := by rw [List.map_append, List.map_reverse]
  have hls : ls.size = am_nl mm := hl.2.1
  have hS9 : CallFix p m c (am_cod mm) (am_nl mm) s args am_tbl (am_RC (am_ow mm)) := ⟨hx, hb, hml, hown, hts⟩
  rcases hi with ⟨rfl, hst0, hnm, b, As', n, fs, rfl, hal, hbs⟩ | ⟨rfl, hst0, hal⟩ | ⟨rfl, hst0, hnm, b, As', rfl, hal⟩
  · obtain ⟨nn, hd, hln, hax⟩ := hd0
    have : nn = 3 := Nat.eq_of_beq_eq_true hln
    subst this
    simp only [am_aux, Bool.and_eq_true, Bool.or_eq_true] at hax
    rw [hst0, if_neg (by simp)] at m3
    have hrec : ∃ cellB : Cell, H[ad b]? = some cellB ∧ cellB.vm.isStatics = false ∧ s.vm.findClass (am_yq j).cls = some cellB.cls := by
      obtain ⟨q, hq⟩ := hW.obj hbs
      have hwg := am_ws_get (ad := ad) (cA := cA) (μ := μ) hbs
      rw [am_cellO (ci := am_ow j) rfl] at hwg
      obtain ⟨cell, r1, r2, r3⟩ := va_recv hW.2.2.1 hW.1 hq hwg
      refine ⟨cell, r1, r2, ?_⟩
      have := (am_clsF hq).2.2.2.2.2.2.1
      rw [← this] at r3
      exact r3
    have hst2 : (F0 m pc ls (((Value.ref b :: As').reverse ++ rest).map (am_cv ad))).stack = (As'.map (am_cv ad)).reverse ++ .ref (ad b) :: rest.map (am_cv ad) := by
      show ((Value.ref b :: As').reverse ++ rest).map (am_cv ad) = _
      rw [hst]; simp [am_cv]
    rcases am_callLink hax.1 with hlk | hlk
    · rw [am_yqM_of hj] at hlk
      have hcw : CallW R s args (am_RC (am_ow mm)) (am_yq j).cls k (am_yq j) (am_cod j) (am_nl j) (am_rt j) (am_words j) ({ frames := d, cells := out1.2.1.length - sh.length, slots := am_sl out1.2.1 - am_sl sh, locals := 40 * d }) (out1.2.1.length - sh.length) (am_sl out1.2.1 - am_sl sh) (am_na j) := ⟨callB_of (am_na j) hts hG rfl rfl rfl (hts _ m5) (hts _ hlk) m6 hR, hts _ m3, hts _ (m4 hst0 hnm)⟩
      exact am_callk (va_runV hS9 hM hcw ⟨am_blind, hrec, hPc⟩ rfl (by rw [List.length_map]; exact hal) hls hst2 hro hd ⟨hr1, hr2⟩) hS hAA (fun ad' cA' H1 locs1 => kk ad' cA' H1 locs1)
    · rw [am_yqM_of hj] at hlk
      exact am_callk (va_runVN hS9 hM ⟨va_cnB (am_na j) hts hG rfl rfl rfl (hlk s hns) (hts _ m5) m6 hR, hts _ m3, hts _ (m4 hst0 hnm)⟩ ⟨am_blind, hrec, hPc⟩ rfl (by rw [List.length_map]; exact hal) hls hst2 hro hd ⟨hr1, hr2⟩) hS hAA (fun ad' cA' H1 locs1 => kk ad' cA' H1 locs1)
  · obtain ⟨nn, hd, hln, hax⟩ := hd0
    have : nn = 3 := Nat.eq_of_beq_eq_true hln
    subst this
    simp only [am_aux, Bool.and_eq_true] at hax
    have hax1 := hax.1
    rw [Bool.or_eq_true] at hax1
    rw [hst0, if_pos rfl] at m3
    rcases am_callLink hax1 with hlk | hlk
    · rw [am_yqM_of hj] at hlk
      exact am_callk (va_runS hS9 hM ⟨callB_of (am_na j) hts hG rfl rfl rfl (hts _ m5) (hts _ hlk) m6 hR, hts _ m3⟩ ⟨am_blind, hPc⟩ rfl (by rw [List.length_map]; exact hal) hls hst hro hd ⟨hr1, hr2⟩) hS hAA (fun ad' cA' H1 locs1 => kk ad' cA' H1 locs1)
    · rw [am_yqM_of hj] at hlk
      exact am_callk (va_runSN hS9 hM ⟨va_cnB (am_na j) hts hG rfl rfl rfl (hlk s hns) (hts _ m5) m6 hR, hts _ m3, trivial⟩ ⟨am_blind, hPc⟩ rfl (by rw [List.length_map]; exact hal) hls hst hro hd ⟨hr1, hr2⟩) hS hAA (fun ad' cA' H1 locs1 => kk ad' cA' H1 locs1)
  · obtain ⟨nn, hd, hln, hax⟩ := hd0
    have : nn = 3 := Nat.eq_of_beq_eq_true hln
    subst this
    simp only [am_aux, Bool.and_eq_true] at hax
    have hax1 := hax.1
    rw [Bool.or_eq_true] at hax1
    rw [hst0, if_neg (by simp)] at m3
    have m7 := m7 hnm
    have hst2 : (F0 m pc ls (((Value.ref b :: As').reverse ++ rest).map (am_cv ad))).stack = (As'.map (am_cv ad)).reverse ++ .ref (ad b) :: rest.map (am_cv ad) := by
      show ((Value.ref b :: As').reverse ++ rest).map (am_cv ad) = _
      rw [hst]; simp [am_cv]
    have hw9 : am_words j = Cond.code (am_yq j) (am_cod j) (am_nl j) none :: am_tbl := by rw [← m7]; rfl
    rcases am_callLink hax1 with hlk | hlk
    · rw [am_yqM_of hj] at hlk
      exact am_callk (va_runI hS9 hM ⟨callB_of (am_na j) hts hG hw9 rfl rfl (hts _ m5) (hts _ hlk) m6 hR, hnm, hts _ m3⟩ ⟨am_blind, hPc⟩ rfl (by rw [List.length_map]; exact hal) hls hst2 hro hd ⟨hr1, hr2⟩) hS hAA (fun ad' cA' H1 locs1 => kk ad' cA' H1 locs1)
    · rw [am_yqM_of hj] at hlk
      exact am_callk (va_runIN hS9 hM ⟨va_cnB (am_na j) hts hG hw9 rfl rfl (hlk s hns) (hts _ m5) m6 hR, hnm, hts _ m3⟩ ⟨am_blind, hPc⟩ rfl (by rw [List.length_map]; exact hal) hls hst2 hro hd ⟨hr1, hr2⟩) hS hAA (fun ad' cA' H1 locs1 => kk ad' cA' H1 locs1)
end
end
section
/-! THE TEXT'S OWN METHODS: length and charAt, walked -/
def jx_Q (sz : Nat) (r : Option Value) : Array Value → State → Outcome → State → Prop := fun _ st oc t => oc = .returned r ∧ va_F (fun q => sz ≤ q) st t
def jx_P (q qv sz : Nat) (U : State) : Prop := U.heap.size = sz ∧ am_Tx q qv (fun a => sz ≤ a) U U.heap
theorem jx_blind {q qv sz : Nat} {av : List Value} : FrameBlind (va_Pc av (jx_P q qv sz)) := by
  intro a U g mk h
  obtain ⟨q0, q1, q2⟩ := h
  exact ⟨q0, q1, q2.same (u := U) (U := U.calling g mk a) rfl⟩
def jx_R (cc : ByteArray) (ret : Option FieldType) (pc : Nat) (r : Option Value) : Prop := match r with
  | none => decode cc pc = .ok (.return_, 1) ∧ ret = none
  | some (.int x) => decode cc pc = .ok (.ireturn, 1) ∧ ∃ ty, ret = some ty ∧ narrow ty (.int x) = .int x
  | _ => False
def jx_room (d : Nat) : Room := { frames := d, cells := 0, slots := 0, locals := 40 * d }
def jx_ws (y : MethodName) (cc : ByteArray) (nL : Nat) (ret : Option FieldType) : List Cond := .code y cc nL ret :: am_tbl
abbrev jx_Met (l : Launch) (y : MethodName) (cc : ByteArray) (nL : Nat) (ret : Option FieldType) (d : Nat) (As : List Value) (q qv sz : Nat) (r : Option Value) : Prop := Met l y (jx_ws y cc nL ret) (jx_room d) (va_Pc As (jx_P q qv sz)) (jx_Q sz r) 0 0 (fun a => sz ≤ a)
def jx_Lk (As : List Value) (ls : Array Slot) (nL : Nat) : Prop := As.all (fun v => decide (v.category = 1)) = true ∧ lv_has ls nL (lv_args 0 As)
theorem jx_Lk.get {As : List Value} {ls : Array Slot} {nL i : Nat} {v : Value} (h : jx_Lk As ls nL) (hi : As[i]? = some v) : ls[i]? = some (.val v) := by
  have h1 := am_lvargs h.1 0 i v hi
  rw [Nat.zero_add] at h1
  exact h.2.2.2 (i, v) h1
theorem jx_of {y : MethodName} {cc : ByteArray} {nL : Nat} {ret : Option FieldType} (hp : plainName y.cls = true) (As : List Value) (hAs : As.all (fun v => decide (v.category = 1)) = true) (hn : As.length ≤ nL) {d q qv sz : Nat} {r : Option Value} (l : Launch)
    (hb : ∀ (p : Program) (e : Env) (R : Room) (s : State) (m : MethodId) (below : List Frame) (meth : Method) (c : Code) (Q : State → Prop) (ls : Array Slot), CallFix p m c cc nL s As.toArray am_tbl y.cls → am_Tx q qv (fun a => s.heap.size ≤ a) s s.heap → jx_Lk As ls nL → d ≤ R.frames → 40 * d ≤ R.locals →
      (∀ (H' : Heap) (locs' : List Loc) (ls' : Array Slot) (pc' : Nat), va_S (fun a => s.heap.size ≤ a) s.heap H' locs' → jx_R cc ret pc' r → W p l e R s m As.toArray below meth c H' locs' 0 0 Q (F0 m pc' ls' r.toList)) → W p l e R s m As.toArray below meth c s.heap [] 0 0 Q (F0 m 0 ls [])) : jx_Met l y cc nL ret d As q qv sz r := by
  refine Met.ofW (cc := cc) (maxL := nL) (ret := ret) hp rfl ?_
  intro p e s m args below meth c s₁ B hml hv
  obtain ⟨rfl, hsz, hT⟩ := hv
  have hts := atoms_spec (ws := jx_ws y cc nL ret) B.pre
  have hown : s.vm.findClass y.cls = some m.cls := findClass_of_methodNamed B.named
  have hr := B.returns
  rw [lg_entry_eq]
  subst hsz
  have hl := lv_entry As (n := nL) (by rw [am_lgsl hAs]; exact hn)
  refine hb p e _ s m below meth c _ _ ⟨B.exec, B.bytes, hml, hown, fun w hw => hts w (List.mem_cons_of_mem _ hw)⟩ hT ⟨hAs, hl⟩ (Nat.le_refl _) (Nat.le_refl _) ?_
  intro H' locs' ls' pc' hS' hR
  have hq : ∀ t : State, t.heap = H' → s.WarmedH t.vm → jx_Q s.heap.size r As.toArray s (.returned r) t := fun t ht hw => ⟨rfl, hS'.F ht⟩
  match r, hR with
  | none, hR =>
    rw [hR.2] at hr
    exact W.vret B.exec B.bytes hr hq hS'.2.2 hR.1
  | some (.int x), hR =>
    obtain ⟨hd, ty, h1, h2⟩ := hR
    rw [h1] at hr
    exact W.zret B.exec B.bytes hr h2 hq hS'.2.2 hd
section
variable {p : Program} {l : Launch} {e : Env} {R : Room} {s : State} {m : MethodId} {args : Array Value} {below : List Frame} {meth : Method} {c : Code} {H : Heap} {locs : List Loc} {cells slots : Nat} {Q : State → Prop}
theorem jx_callk {pc : Nat} {ls : Array Slot} {rest st0 : List Value} {a : Array Value} {A0 : Nat → Prop} {H0 : Heap} {r : Option Value} (hr : va_Run p l e R s m args below meth c H locs cells slots 0 0 (F0 m pc ls st0) rest (jx_Q H.size r a) (fun q => H.size ≤ q)) (hS : va_S A0 H0 H locs) (hA : ∀ q, H0.size ≤ q → A0 q)
    (kk : ∀ (H1 : Heap) (locs1 : List Loc), (∀ q, q < H.size → H1[q]? = H[q]?) → va_S A0 H0 H1 locs1 → W p l e R s m args below meth c H1 locs1 cells slots Q (F0 m (pc + 3) ls (r.toList ++ rest))) : W p l e R s m args below meth c H locs cells slots Q (F0 m pc ls st0) := by
  intro T hT X
  obtain ⟨v, st₀, t, T', L, h0, X', hL, e1, e2, ⟨hv, hz, hk⟩, st⟩ := hr T hT X
  have hv2 : v = r := by injection hv
  subst hv2
  rw [h0] at hz hk
  obtain ⟨t2, a1, b1⟩ := kk T'.heap (locs ++ L) (fun q hq => by rw [e1]; exact hk q hq (Nat.not_le.mpr hq))
    ⟨Nat.le_trans hS.1 (by rw [e1]; exact hz), fun q h1 h2 => by rw [e1, hk q (Nat.lt_of_lt_of_le h1 hS.1) (fun z => absurd z (Nat.not_le.mpr (Nat.lt_of_lt_of_le h1 hS.1)))]; exact hS.2.1 q h1 h2, fun q hq => by
      rcases List.mem_append.mp hq with h | h
      · exact hS.2.2 q h
      · exact hA _ (Nat.le_trans hS.1 (hL q h))⟩ T' rfl X'
  exact ⟨t2, st t2 a1, b1⟩
theorem jx_good {y : MethodName} {cc : ByteArray} {nL : Nat} {ret : Option FieldType} (hw : Cond.code y cc nL ret ∈ am_tbl) : GoodIn am_tbl (jx_ws y cc nL ret) := by
  have hall : ∀ w ∈ jx_ws y cc nL ret, w ∈ am_tbl := by
    intro w hw2
    rcases List.mem_cons.mp hw2 with rfl | h
    · exact hw
    · exact h
  exact fun w hw => ⟨hall w hw, good_of_word (List.mem_filter.mp (hall w hw)).2⟩
/-- what the tables say of a method of the library -/
def jx_T (y : MethodName) (cc : ByteArray) (nL : Nat) (ret : Option FieldType) (n : Nat) : Prop := Cond.code y cc nL ret ∈ am_tbl ∧ Cond.initialized y.cls ∈ am_tbl ∧ (y.cls ≠ "java/lang/invoke/MethodHandle" ∧ y.cls ≠ "java/lang/invoke/VarHandle" ∧ (parseMethodDescriptor y.desc).map (fun d => d.parameters.length) = some n)
theorem jx_pc {q qv : Nat} {A0 : Nat → Prop} {H0 : Heap} {As : List Value} (hT : am_Tx q qv A0 s H0) (hS : va_S A0 H0 H locs) (hA : ∀ a, H0.size ≤ a → A0 a) : ∀ U : State, U.heap = H → s.WarmedH U.vm → va_Pc As (jx_P q qv H.size) As.toArray U := by
  intro U hU hW
  have h1 := am_Tx.kept (H1 := H) (fun a h1 h2 => hS.2.1 a h1 h2) hT
  have h2 : am_Tx q qv (fun a => H.size ≤ a) s H := h1.narrow (fun a h => hA a (Nat.le_trans hS.1 h))
  exact ⟨rfl, by rw [hU], by rw [hU]; exact h2.warm hW⟩
theorem jx_V {cc own : _} {nL : Nat} (hF : CallFix p m c cc nL s args am_tbl own) {y : MethodName} {bytes : ByteArray} {maxL n d k pc q qv : Nat} {ret : Option FieldType} {r : Option Value} {As rest : List Value} {ls : Array Slot} {A0 : Nat → Prop} {H0 : Heap} (hM : jx_Met l y bytes maxL ret d (.ref q :: As) q qv H.size r) (hy : jx_T y bytes maxL ret n) (hc : y.cls = "java/lang/String") (hin : Cond.instanceMethod y ∈ am_tbl) (hse : Cond.selects y.cls y y ∈ am_tbl) (hli : Cond.methodLink own k y ∈ am_tbl)
    (hT : am_Tx q qv A0 s H0) (hS : va_S A0 H0 H locs) (hA : ∀ a, H0.size ≤ a → A0 a) (hn : As.length = n) (hls : ls.size = nL) (hrest : (rest.map fun v => v.category).sum ≤ 8) (hd : decode cc pc = .ok (.invokevirtual k, 3)) (hR : d + 1 ≤ R.frames ∧ 8 + (maxL + 11) + 40 * d ≤ R.locals) (hr : cells ≤ R.cells ∧ slots ≤ R.slots)
    (kk : ∀ (H1 : Heap) (locs1 : List Loc), (∀ q, q < H.size → H1[q]? = H[q]?) → va_S A0 H0 H1 locs1 → W p l e R s m args below meth c H1 locs1 cells slots Q (F0 m (pc + 3) ls (r.toList ++ rest))) : W p l e R s m args below meth c H locs cells slots Q (F0 m pc ls (As.reverse ++ .ref q :: rest)) := by
  have hts := hF.2.2.2.2
  have hG := jx_good hy.1
  have hcw : CallW R s args own y.cls k y bytes maxL ret (jx_ws y bytes maxL ret) (jx_room d) 0 0 n := ⟨callB_of n hts hG rfl rfl rfl (hts _ hy.2.1) (hts _ hli) hy.2.2 hR, hts _ hin, hts _ hse⟩
  have hrec : ∃ cellB : Cell, H[q]? = some cellB ∧ cellB.vm.isStatics = false ∧ s.vm.findClass y.cls = some cellB.cls := by
    obtain ⟨cell, h1, h2, h3, -⟩ := hT.1.kept hS.2.1
    exact ⟨cell, h1, h2, by rw [hc]; exact h3⟩
  exact jx_callk (va_runV hF hM hcw ⟨jx_blind, hrec, jx_pc hT hS hA⟩ rfl hn hls rfl (lv_room hrest) hd hr) hS hA kk
theorem jx_S {cc own : _} {nL : Nat} (hF : CallFix p m c cc nL s args am_tbl own) {y : MethodName} {bytes : ByteArray} {maxL n d k pc q qv : Nat} {ret : Option FieldType} {r : Option Value} {As rest : List Value} {ls : Array Slot} {A0 : Nat → Prop} {H0 : Heap} (hM : jx_Met l y bytes maxL ret d As q qv H.size r) (hy : jx_T y bytes maxL ret n) (hst : Cond.static y ∈ am_tbl) (hli : Cond.methodLink own k y ∈ am_tbl)
    (hT : am_Tx q qv A0 s H0) (hS : va_S A0 H0 H locs) (hA : ∀ a, H0.size ≤ a → A0 a) (hn : As.length = n) (hls : ls.size = nL) (hrest : (rest.map fun v => v.category).sum ≤ 8) (hd : decode cc pc = .ok (.invokestatic k, 3)) (hR : d + 1 ≤ R.frames ∧ 8 + (maxL + 11) + 40 * d ≤ R.locals) (hr : cells ≤ R.cells ∧ slots ≤ R.slots)
    (kk : ∀ (H1 : Heap) (locs1 : List Loc), (∀ q, q < H.size → H1[q]? = H[q]?) → va_S A0 H0 H1 locs1 → W p l e R s m args below meth c H1 locs1 cells slots Q (F0 m (pc + 3) ls (r.toList ++ rest))) : W p l e R s m args below meth c H locs cells slots Q (F0 m pc ls (As.reverse ++ rest)) := by
  have hts := hF.2.2.2.2
  have hG := jx_good hy.1
  exact jx_callk (va_runS hF hM ⟨callB_of n hts hG rfl rfl rfl (hts _ hy.2.1) (hts _ hli) hy.2.2 hR, hts _ hst⟩ ⟨jx_blind, jx_pc hT hS hA⟩ rfl hn hls rfl (lv_room hrest) hd hr) hS hA kk
end
theorem jt_COD : jx_T jy_COD jc_COD 1 (some .byte) 0 := ⟨jw_COD, ji_S, by decide, by decide, by decide +kernel⟩
theorem jt_LAT : jx_T jy_LAT jc_LAT 1 (some .boolean) 0 := ⟨jw_LAT, ji_S, by decide, by decide, by decide +kernel⟩
theorem jt_LEN : jx_T jy_LEN jc_LEN 1 (some .int) 0 := ⟨jw_LEN, ji_S, by decide, by decide, by decide +kernel⟩
theorem jt_CHA : jx_T jy_CHA jc_CHA 2 (some .char) 1 := ⟨jw_CHA, ji_S, by decide, by decide, by decide +kernel⟩
theorem jt_LCH : jx_T jy_LCH jc_LCH 2 (some .char) 2 := ⟨jw_LCH, ji_L, by decide, by decide, by decide +kernel⟩
theorem jt_SCI : jx_T jy_SCI jc_SCI 2 none 2 := ⟨jw_SCI, ji_S, by decide, by decide, by decide +kernel⟩
theorem jt_PCI : jx_T jy_PCI jc_PCI 3 (some .int) 3 := ⟨jw_PCI, ji_P, by decide, by decide, by decide +kernel⟩
theorem jx_COD (l : Launch) (q qv sz : Nat) : jx_Met l jy_COD jc_COD 1 (some .byte) 0 [.ref q] q qv sz (some (.int 0)) := by
  refine jx_of (by decide +kernel) [.ref q] rfl (Nat.le_of_ble_eq_true rfl) l (fun p e R s m below meth c Q ls hF hT hl hR1 hR2 kk => ?_)
  obtain ⟨hx, hb, hml, hown, hts⟩ := id hF
  obtain ⟨t1, t2, t3, t4, t5, t6, t7⟩ := id hT
  refine va_gets hx hb t5 va_S.rf hown (hts _ jf_com) (fun _ h => h) (by decide +kernel) ?_
  refine lv_if_eq hx hb (tgt := 13) (off := 10) (by decide +kernel) (by decide) (fun h => absurd h (by decide)) (fun _ => ?_)
  refine lv_aload_n hx hb (show decode jc_COD 6 = .ok (.aload_n 0, 1) by decide +kernel) rfl (hl.get (i := 0) (v := .ref q) rfl) ?_
  refine vk_getf hx hb t2 va_S.rf hown (hts _ jf_cod) (fun _ h => h) (by decide +kernel) ?_
  refine lv_goto hx hb (tgt := 14) (off := 4) (by decide +kernel) (by decide) ?_
  exact kk _ _ _ 14 va_S.rf ⟨by decide +kernel, .byte, rfl, rfl⟩
theorem jx_LAT (l : Launch) (q qv sz : Nat) : jx_Met l jy_LAT jc_LAT 1 (some .boolean) 0 [.ref q] q qv sz (some (.int 1)) := by
  refine jx_of (by decide +kernel) [.ref q] rfl (Nat.le_of_ble_eq_true rfl) l (fun p e R s m below meth c Q ls hF hT hl hR1 hR2 kk => ?_)
  obtain ⟨hx, hb, hml, hown, hts⟩ := id hF
  obtain ⟨t1, t2, t3, t4, t5, t6, t7⟩ := id hT
  refine va_gets hx hb t5 va_S.rf hown (hts _ jf_com) (fun _ h => h) (by decide +kernel) ?_
  refine lv_if_eq hx hb (tgt := 17) (off := 14) (by decide +kernel) (by decide) (fun h => absurd h (by decide)) (fun _ => ?_)
  refine lv_aload_n hx hb (show decode jc_LAT 6 = .ok (.aload_n 0, 1) by decide +kernel) rfl (hl.get (i := 0) (v := .ref q) rfl) ?_
  refine vk_getf hx hb t2 va_S.rf hown (hts _ jf_cod) (fun _ h => h) (by decide +kernel) ?_
  refine lv_if_ne hx hb (tgt := 17) (off := 7) (by decide +kernel) (by decide) (fun h => absurd h (by decide)) (fun _ => ?_)
  refine lv_iconst (v := 1) hx hb (show decode jc_LAT 13 = .ok (.iconst 1, 1) by decide +kernel) rfl ?_
  refine lv_goto hx hb (tgt := 18) (off := 4) (by decide +kernel) (by decide) ?_
  exact kk _ _ _ 18 va_S.rf ⟨by decide +kernel, .boolean, rfl, rfl⟩
theorem jx_LEN (l : Launch) (q qv sz : Nat) : jx_Met l jy_LEN jc_LEN 1 (some .int) 1 [.ref q] q qv sz (some (.int 29)) := by
  refine jx_of (by decide +kernel) [.ref q] rfl (Nat.le_of_ble_eq_true rfl) l (fun p e R s m below meth c Q ls hF hT hl hR1 hR2 kk => ?_)
  obtain ⟨hx, hb, hml, hown, hts⟩ := id hF
  obtain ⟨t1, t2, t3, t4, t5, t6, t7⟩ := id hT
  refine lv_aload_n hx hb (show decode jc_LEN 0 = .ok (.aload_n 0, 1) by decide +kernel) rfl (hl.get (i := 0) (v := .ref q) rfl) ?_
  refine vk_getf hx hb t3 va_S.rf hown (hts _ jf_val) (fun _ h => h) (by decide +kernel) ?_
  refine va_tlen hx hb t4 va_S.rf (v := 29) rfl (by decide +kernel) ?_
  refine lv_aload_n hx hb (show decode jc_LEN 5 = .ok (.aload_n 0, 1) by decide +kernel) rfl (hl.get (i := 0) (v := .ref q) rfl) ?_
  refine jx_V hF (As := []) (jx_COD l q qv s.heap.size) jt_COD rfl jk_COD js_COD jl_COD hT va_S.rf (fun _ h => h) rfl hl.2.1 (by show 1 + 0 ≤ 8; omega) (by decide +kernel) ⟨hR1, by omega⟩ ⟨Nat.zero_le _, Nat.zero_le _⟩ (fun H1 locs1 hk hS1 => ?_)
  refine lv_ishr hx hb (by decide +kernel) ?_
  exact kk _ _ _ 10 hS1 ⟨by decide +kernel, .int, rfl, rfl⟩
theorem jx_PCI (l : Launch) (q qv sz : Nat) {f : Value} (hf : f.category = 1) {k n : Int32} (h0 : ¬ k < 0) (h1 : k < n) : jx_Met l jy_PCI jc_PCI 3 (some .int) 0 [.int k, .int n, f] q qv sz (some (.int k)) := by
  refine jx_of (by decide +kernel) [.int k, .int n, f] (by rw [List.all_cons, List.all_cons, List.all_cons, hf]; rfl) (Nat.le_of_ble_eq_true rfl) l (fun p e R s m below meth c Q ls hF hT hl hR1 hR2 kk => ?_)
  obtain ⟨hx, hb, hml, hown, hts⟩ := id hF
  refine lv_iload_n hx hb (show decode jc_PCI 0 = .ok (.iload_n 0, 1) by decide +kernel) rfl (hl.get (i := 0) (v := .int k) rfl) ?_
  refine lv_if_lt hx hb (tgt := 9) (off := 8) (by decide +kernel) (by decide) (fun h => absurd h h0) (fun _ => ?_)
  refine lv_iload_n hx hb (show decode jc_PCI 4 = .ok (.iload_n 0, 1) by decide +kernel) rfl (hl.get (i := 0) (v := .int k) rfl) ?_
  refine lv_iload_n hx hb (show decode jc_PCI 5 = .ok (.iload_n 1, 1) by decide +kernel) rfl (hl.get (i := 1) (v := .int n) rfl) ?_
  refine lv_icmp_lt hx hb (tgt := 16) (off := 10) (by decide +kernel) (by decide) (fun _ => ?_) (fun h => absurd h1 h)
  refine lv_iload_n hx hb (show decode jc_PCI 16 = .ok (.iload_n 0, 1) by decide +kernel) rfl (hl.get (i := 0) (v := .int k) rfl) ?_
  exact kk _ _ _ 17 va_S.rf ⟨by decide +kernel, .int, rfl, rfl⟩
theorem jx_SCI (l : Launch) (q qv sz : Nat) {k n : Int32} (h0 : ¬ k < 0) (h1 : k < n) : jx_Met l jy_SCI jc_SCI 2 none 1 [.int k, .int n] q qv sz none := by
  refine jx_of (by decide +kernel) [.int k, .int n] rfl (Nat.le_of_ble_eq_true rfl) l (fun p e R s m below meth c Q ls hF hT hl hR1 hR2 kk => ?_)
  obtain ⟨hx, hb, hml, hown, hts⟩ := id hF
  obtain ⟨t1, t2, t3, t4, t5, ⟨f, hf, t6⟩, t7⟩ := id hT
  refine lv_iload_n hx hb (show decode jc_SCI 0 = .ok (.iload_n 0, 1) by decide +kernel) rfl (hl.get (i := 0) (v := .int k) rfl) ?_
  refine lv_iload_n hx hb (show decode jc_SCI 1 = .ok (.iload_n 1, 1) by decide +kernel) rfl (hl.get (i := 1) (v := .int n) rfl) ?_
  refine va_gets hx hb t6 va_S.rf hown (hts _ jf_sio) (fun _ h => h) (by decide +kernel) ?_
  refine jx_S hF (As := [.int k, .int n, f]) (rest := []) (jx_PCI l q qv s.heap.size hf h0 h1) jt_PCI jk_PCI jl_PCI hT va_S.rf (fun _ h => h) rfl hl.2.1 (by decide) (by decide +kernel) ⟨hR1, by omega⟩ ⟨Nat.zero_le _, Nat.zero_le _⟩ (fun H1 locs1 hk hS1 => ?_)
  refine lv_pop hx hb (by decide +kernel) rfl ?_
  exact kk _ _ _ 9 hS1 ⟨by decide +kernel, rfl⟩
def jx_chOK : Bool := (List.range 29).all (fun k => decide ((((am_txt.getD k 0) &&& 255).toUInt32 % 65536).toInt32 = am_txt.getD k 0) && decide (narrow .char (.int (am_txt.getD k 0)) = .int (am_txt.getD k 0)))
theorem jx_ch {k : Nat} (hk : k < 29) : (((am_txt.getD k 0) &&& 255).toUInt32 % 65536).toInt32 = am_txt.getD k 0 ∧ narrow .char (.int (am_txt.getD k 0)) = .int (am_txt.getD k 0) := by
  have h : jx_chOK = true := by decide +kernel
  have h2 := List.all_eq_true.mp h k (List.mem_range.mpr hk)
  simpa only [Bool.and_eq_true, decide_eq_true_eq] using h2
theorem jx_kin {k : Int32} (hk : am_inb k 29 = true) : ¬ k < 0 ∧ k < 29 ∧ k.toNatClampNeg < 29 ∧ vp_in k 29 := by
  have h1 := am_inb_in hk
  have h0 : ¬ k < 0 := fun q => h1 (Or.inl q)
  have h2 : k.toNatClampNeg < 29 := Nat.not_le.mp (fun q => h1 (Or.inr q))
  refine ⟨h0, ?_, h2, h1⟩
  rw [Int32.lt_iff_toInt_lt]
  have h3 : (0 : Int) ≤ k.toInt := by
    have := Int32.not_lt.mp h0
    simpa using Int32.le_iff_toInt_le.mp this
  have h4 : k.toInt = ((k.toNatClampNeg : Nat) : Int) := by
    show k.toInt = ((k.toInt.toNat : Nat) : Int)
    omega
  rw [h4, show (29 : Int32).toInt = 29 from rfl]
  omega
theorem jx_LCH (l : Launch) (q qv sz : Nat) {k : Int32} (hk : am_inb k 29 = true) : jx_Met l jy_LCH jc_LCH 2 (some .char) 2 [.ref qv, .int k] q qv sz (some (.int (am_txt.getD k.toNatClampNeg 0))) := by
  obtain ⟨h0, h1, h2, h3⟩ := jx_kin hk
  obtain ⟨c1, c2⟩ := jx_ch h2
  refine jx_of (by decide +kernel) [.ref qv, .int k] rfl (Nat.le_of_ble_eq_true rfl) l (fun p e R s m below meth c Q ls hF hT hl hR1 hR2 kk => ?_)
  obtain ⟨hx, hb, hml, hown, hts⟩ := id hF
  obtain ⟨t1, t2, t3, t4, t5, t6, t7⟩ := id hT
  refine lv_iload_n hx hb (show decode jc_LCH 0 = .ok (.iload_n 1, 1) by decide +kernel) rfl (hl.get (i := 1) (v := .int k) rfl) ?_
  refine lv_aload_n hx hb (show decode jc_LCH 1 = .ok (.aload_n 0, 1) by decide +kernel) rfl (hl.get (i := 0) (v := .ref qv) rfl) ?_
  refine va_tlen hx hb t4 va_S.rf (v := 29) rfl (by decide +kernel) ?_
  refine jx_S hF (As := [.int k, .int 29]) (rest := []) (jx_SCI l q qv s.heap.size h0 h1) jt_SCI jk_SCI jl_SCI hT va_S.rf (fun _ h => h) rfl hl.2.1 (by decide) (by decide +kernel) ⟨hR1, by omega⟩ ⟨Nat.zero_le _, Nat.zero_le _⟩ (fun H1 locs1 hk9 hS1 => ?_)
  refine lv_aload_n hx hb (show decode jc_LCH 6 = .ok (.aload_n 0, 1) by decide +kernel) rfl (hl.get (i := 0) (v := .ref qv) rfl) ?_
  refine lv_iload_n hx hb (show decode jc_LCH 7 = .ok (.iload_n 1, 1) by decide +kernel) rfl (hl.get (i := 1) (v := .int k) rfl) ?_
  refine va_tb hx hb t4 hS1 h3 rfl (by decide +kernel) ?_
  refine lv_sipush hx hb (show decode jc_LCH 9 = .ok (.sipush 255, 3) by decide +kernel) rfl ?_
  refine lv_iand hx hb (by decide +kernel) ?_
  refine lv_i2c hx hb (by decide +kernel) c1 ?_
  exact kk _ _ _ 14 hS1 ⟨by decide +kernel, .char, rfl, c2⟩
theorem jx_CHA (l : Launch) (q qv sz : Nat) {k : Int32} (hk : am_inb k 29 = true) : jx_Met l jy_CHA jc_CHA 2 (some .char) 3 [.ref q, .int k] q qv sz (some (.int (am_txt.getD k.toNatClampNeg 0))) := by
  obtain ⟨h0, h1, h2, h3⟩ := jx_kin hk
  obtain ⟨c1, c2⟩ := jx_ch h2
  refine jx_of (by decide +kernel) [.ref q, .int k] rfl (Nat.le_of_ble_eq_true rfl) l (fun p e R s m below meth c Q ls hF hT hl hR1 hR2 kk => ?_)
  obtain ⟨hx, hb, hml, hown, hts⟩ := id hF
  obtain ⟨t1, t2, t3, t4, t5, t6, t7⟩ := id hT
  refine lv_aload_n hx hb (show decode jc_CHA 0 = .ok (.aload_n 0, 1) by decide +kernel) rfl (hl.get (i := 0) (v := .ref q) rfl) ?_
  refine jx_V hF (As := []) (rest := []) (jx_LAT l q qv s.heap.size) jt_LAT rfl jk_LAT js_LAT jl_LAT hT va_S.rf (fun _ h => h) rfl hl.2.1 (by decide) (by decide +kernel) ⟨by omega, by omega⟩ ⟨Nat.zero_le _, Nat.zero_le _⟩ (fun H1 locs1 hk1 hS1 => ?_)
  refine lv_if_eq hx hb (tgt := 16) (off := 12) (by decide +kernel) (by decide) (fun h => absurd h (by decide)) (fun _ => ?_)
  refine lv_aload_n hx hb (show decode jc_CHA 7 = .ok (.aload_n 0, 1) by decide +kernel) rfl (hl.get (i := 0) (v := .ref q) rfl) ?_
  refine vk_getf hx hb t3 hS1 hown (hts _ jf_val) (fun _ h => h) (by decide +kernel) ?_
  refine lv_iload_n hx hb (show decode jc_CHA 11 = .ok (.iload_n 1, 1) by decide +kernel) rfl (hl.get (i := 1) (v := .int k) rfl) ?_
  refine jx_S hF (As := [.ref qv, .int k]) (rest := []) (jx_LCH l q qv H1.size hk) jt_LCH jk_LCH jl_LCH hT hS1 (fun _ h => h) rfl hl.2.1 (by decide) (by decide +kernel) ⟨hR1, by omega⟩ ⟨Nat.zero_le _, Nat.zero_le _⟩ (fun H2 locs2 hk2 hS2 => ?_)
  exact kk _ _ _ 15 hS2 ⟨by decide +kernel, .char, rfl, c2⟩
section
variable {scr : am_Scr} {d mm pc : Nat} {L S : List Value} {sh : am_Sh} {μ : am_Mu} {out : am_Out} {j : Nat}
theorem jx_Wd {dC : Nat → ClassId} {dI : Nat → Nat → Nat} {ad : Nat → Nat} {cA : Nat → ClassId} {A : Nat → Prop} {s : State} {H H1 : Heap} (h : am_Wd dC dI ad cA A sh μ s H) (hq : ∀ q, q < H.size → H1[q]? = H[q]?) : am_Wd dC dI ad cA A sh μ s H1 := by
  refine ⟨h.1.kept (fun k q hk => ?_), h.2⟩
  obtain ⟨h1, h2⟩ := am_ws_of hk
  rw [h2]
  exact hq _ (h.lt h1).1
theorem am_s_len {v : Nat} {z : Option (Nat × (Nat → Int32))} (hf : am_fet mm pc = some (.invokevirtual v, 1005)) (hs : scr = some z) (hir : S.all am_ir = true) (hlen : S.length ≤ 8) (h : am_Sd scr (d + 5) mm (pc + 3) L (.int 29 :: S) sh μ out) : am_Sd scr (d + 5) mm pc L (.ref am_STR :: S) sh μ out := by
  obtain ⟨hd, hax⟩ := am_dec1 hf 3 (fun k h => Nat.eq_of_beq_eq_true h)
  simp only [am_aux, Bool.and_eq_true, Bool.or_eq_true] at hax
  refine ⟨h.1, h.2.1, ?_⟩
  intro p l e R s m args below meth c H locs cells slots Q ls dC dI ad cA A H0 hC hW hS hA hsc hl hc1 hc2 kr
  obtain ⟨hx, hb, hml, hown, hts, hns, hfr, hlo, hin⟩ := id hC
  have a1 := h.1
  have a2 := h.2.1
  subst hs
  have hT := hsc.tx
  refine jx_V (⟨hx, hb, hml, hown, hts⟩ : CallFix p m c (am_cod mm) (am_nl mm) s args am_tbl (am_RC (am_ow mm))) (As := []) (jx_LEN l (ad am_STR) (ad am_STV) H.size) jt_LEN rfl jk_LEN js_LEN (am_callLib (by decide) hax.1) hT hS hA rfl hl.2.1 (by rw [am_catS ad hir]; exact hlen) hd ⟨by omega, by omega⟩ ⟨by omega, by omega⟩ (fun H1 locs1 hk hS1 => ?_)
  exact h.2.2 p l e R s m args below meth c H1 locs1 cells slots Q ls dC dI ad cA A H0 hC (jx_Wd hW hk) hS1 hA hsc hl hc1 hc2 kr
theorem am_s_cha {v : Nat} {k : Int32} {z : Option (Nat × (Nat → Int32))} (hf : am_fet mm pc = some (.invokevirtual v, 1006)) (hs : scr = some z) (hk9 : am_inb k 29 = true) (hir : S.all am_ir = true) (hlen : S.length ≤ 8) (h : am_Sd scr (d + 5) mm (pc + 3) L (.int (am_txt.getD k.toNatClampNeg 0) :: S) sh μ out) : am_Sd scr (d + 5) mm pc L (.int k :: .ref am_STR :: S) sh μ out := by
  obtain ⟨hd, hax⟩ := am_dec1 hf 3 (fun k h => Nat.eq_of_beq_eq_true h)
  simp only [am_aux, Bool.and_eq_true, Bool.or_eq_true] at hax
  refine ⟨h.1, h.2.1, ?_⟩
  intro p l e R s m args below meth c H locs cells slots Q ls dC dI ad cA A H0 hC hW hS hA hsc hl hc1 hc2 kr
  obtain ⟨hx, hb, hml, hown, hts, hns, hfr, hlo, hin⟩ := id hC
  have a1 := h.1
  have a2 := h.2.1
  subst hs
  have hT := hsc.tx
  refine jx_V (⟨hx, hb, hml, hown, hts⟩ : CallFix p m c (am_cod mm) (am_nl mm) s args am_tbl (am_RC (am_ow mm))) (As := [.int k]) (jx_CHA l (ad am_STR) (ad am_STV) H.size hk9) jt_CHA rfl jk_CHA js_CHA (am_callLib (by decide) hax.1) hT hS hA rfl hl.2.1 (by rw [am_catS ad hir]; exact hlen) hd ⟨by omega, by omega⟩ ⟨by omega, by omega⟩ (fun H1 locs1 hk hS1 => ?_)
  exact h.2.2 p l e R s m args below meth c H1 locs1 cells slots Q ls dC dI ad cA A H0 hC (jx_Wd hW hk) hS1 hA hsc hl hc1 hc2 kr
end
end
section
/-! THE ABSTRACT MACHINE IS SOUND -/
theorem am_bif {α : Type} {b : Bool} {x : Option α} {y : α} (h : (bif b then x else none) = some y) : b = true ∧ x = some y := by
  cases b
  · cases h
  · exact ⟨rfl, h⟩
theorem am_s_ret {scr : am_Scr} {d mm pc : Nat} {L : List Value} {sh : am_Sh} {μ : am_Mu} {r : Option Value} (hR : am_Rt mm pc r) : am_Sd scr d mm pc L r.toList sh μ (r, sh, μ) := by
  refine ⟨Nat.le_refl _, Nat.le_refl _, ?_⟩
  intro p l e R s m args below meth c H locs cells slots Q ls dC dI ad cA A H0 hC hW hS hA hsc hl hc1 hc2 kr
  have := kr pc ad cA H locs ls ⟨fun _ _ => rfl, ⟨rfl, rfl, rfl⟩, fun _ => rfl⟩ hW hS hR
  dsimp only at this
  rw [Nat.sub_self, Nat.add_zero, Nat.sub_self, Nat.add_zero] at this
  have e1 : r.toList.map (am_cv ad) = (r.map (am_cv ad)).toList := by cases r <;> rfl
  rw [e1]
  exact this
section
variable {scr : am_Scr} {K0 K : am_K} {d m pc : Nat} {i : Instr} {j : Nat} {L S : List Value} {sh : am_Sh} {μ : am_Mu} {out : am_Out}
theorem am_callS {scr0 : am_Scr} (hs0 : scr0 = none ∨ scr0 = am_sub scr ∨ scr0 = scr) (h0 : ∀ d m pc L S sh μ out, K0 d m pc L S sh μ = some out → am_Sd scr0 d m pc L S sh μ out) (hK : ∀ d m pc L S sh μ out, K d m pc L S sh μ = some out → am_Sd scr d m pc L S sh μ out) {k : Nat} (hf : am_fet m pc = some (i, j)) (hj : j < am_law)
    (hi : (i = .invokevirtual k ∧ am_st j = false ∧ (am_yq j).name ≠ "<init>") ∨ (i = .invokestatic k ∧ am_st j = true) ∨ (i = .invokespecial k ∧ am_st j = false ∧ (am_yq j).name = "<init>"))
    (h : am_call K0 K d m pc j L S sh μ = some out) : am_Sd scr d m pc L S sh μ out := by
  unfold am_call at h
  dsimp only at h
  obtain ⟨hb, h⟩ := am_bif h
  simp only [Bool.and_eq_true, Nat.ble_eq] at hb
  obtain ⟨⟨⟨⟨b1, b2⟩, b3⟩, b4⟩, b5⟩ := hb
  generalize hna : (bif am_st j then am_na j else am_na j + 1) = na at h b1 b2 b3 b4 b5
  generalize hAs : (S.take na).reverse = As at h b2
  generalize hre : S.drop na = rest at h b3 b4
  have hS : S = As.reverse ++ rest := by rw [← hAs, ← hre, List.reverse_reverse, List.take_append_drop]
  have hlen : As.length = na := by rw [← hAs, List.length_reverse, List.length_take]; omega
  generalize hX : (bif am_st j then some 0 else match As with
      | .ref b :: _ => (match sh[b]? with
        | some e => bif Nat.beq e.1 (am_ow j + 3) then some 0 else none
        | none => none)
      | _ => none) = X at h
  cases X with
  | none => cases h
  | some z =>
  cases d with
  | zero => cases h
  | succ d' =>
  dsimp only at h
  cases hr : K0 d' j 0 (As ++ List.replicate (am_nl j - na) .null) [] sh μ with
  | none => rw [hr] at h; cases h
  | some o9 =>
  obtain ⟨r, sh', μ'⟩ := o9
  rw [hr] at h
  dsimp only at h
  obtain ⟨hg, h2⟩ := am_bif h
  have hc := h0 _ _ _ _ _ _ _ _ hr
  rw [Bool.or_eq_true] at hg
  rw [← hlen] at hc
  rw [hS]
  refine am_s_call hs0 (k := k) (out1 := (r, sh', μ')) hf hj b2 b3 b4 (by rw [hlen]; exact b5) hc (hg.imp Nat.eq_of_beq_eq_true id) ?_ (hK _ _ _ _ _ _ _ _ h2)
  rcases hi with ⟨e1, e2, e3⟩ | ⟨e1, e2⟩ | ⟨e1, e2, e3⟩
  · rw [e2, cond_false] at hna
    rw [e2, cond_false] at hX
    refine Or.inl ⟨e1, e2, e3, ?_⟩
    match As, hX with
    | .ref b :: As', hX =>
      dsimp only at hX
      cases hq : sh[b]? with
      | none => rw [hq] at hX; cases hX
      | some e9 =>
        rw [hq] at hX
        dsimp only at hX
        obtain ⟨q1, -⟩ := am_bif hX
        obtain ⟨kd, n, fs⟩ := e9
        have q2 := Nat.eq_of_beq_eq_true q1
        dsimp only at q2
        subst q2
        refine ⟨b, As', n, fs, rfl, ?_, hq⟩
        simp only [List.length_cons] at hlen
        omega
  · rw [e2, cond_true] at hna
    exact Or.inr (Or.inl ⟨e1, e2, by omega⟩)
  · rw [e2, cond_false] at hna
    rw [e2, cond_false] at hX
    refine Or.inr (Or.inr ⟨e1, e2, e3, ?_⟩)
    match As, hX with
    | .ref b :: As', hX =>
      refine ⟨b, As', rfl, ?_⟩
      simp only [List.length_cons] at hlen
      omega
set_option maxHeartbeats 4000000 in
theorem am_opS (h0 : ∀ d m pc L S sh μ out, K0 d m pc L S sh μ = some out → am_Sd (am_sub scr) d m pc L S sh μ out) (hK : ∀ d m pc L S sh μ out, K d m pc L S sh μ = some out → am_Sd scr d m pc L S sh μ out) (hf : am_fet m pc = some (i, j)) (h : am_op scr K0 K d m pc i j L S sh μ = some out) : am_Sd scr d m pc L S sh μ out := by
  cases i with
  | iconst v => exact am_s_iconst hf (hK _ _ _ _ _ _ _ _ h)
  | bipush v => exact am_s_bipush hf (hK _ _ _ _ _ _ _ _ h)
  | sipush v => exact am_s_sipush hf (hK _ _ _ _ _ _ _ _ h)
  | ldc v =>
    simp only [am_op] at h
    cases hq : Nat.beq j am_STR with
    | true =>
      rw [hq, cond_true] at h
      split at h
      · exact am_s_ldcs hf hq rfl (hK _ _ _ _ _ _ _ _ h)
      · cases h
    | false =>
      rw [hq, cond_false] at h
      exact am_s_ldc hf hq (hK _ _ _ _ _ _ _ _ h)
  | ldc_w v => exact am_s_ldc_w hf (hK _ _ _ _ _ _ _ _ h)
  | ldc2_w v => exact am_s_ldc2_w hf (hK _ _ _ _ _ _ _ _ h)
  | iload_n k =>
    simp only [am_op] at h
    split at h
    · next e => exact am_s_iload_n hf e (hK _ _ _ _ _ _ _ _ h)
    · cases h
  | iload k =>
    simp only [am_op] at h
    split at h
    · next e => exact am_s_iload hf e (hK _ _ _ _ _ _ _ _ h)
    · cases h
  | aload_n k =>
    simp only [am_op] at h
    split at h
    · next e => exact am_s_aload_n hf e (hK _ _ _ _ _ _ _ _ h)
    · cases h
  | aload k =>
    simp only [am_op] at h
    split at h
    · next e => exact am_s_aload hf e (hK _ _ _ _ _ _ _ _ h)
    · cases h
  | iinc k v =>
    simp only [am_op] at h
    split at h
    · next e => exact am_s_iinc hf e (hK _ _ _ _ _ _ _ _ h)
    · cases h
  | istore_n k =>
    simp only [am_op] at h
    split at h
    · obtain ⟨hb, h⟩ := am_bif h
      exact am_s_istore_n hf (by simpa using hb) (hK _ _ _ _ _ _ _ _ h)
    · cases h
  | istore k =>
    simp only [am_op] at h
    split at h
    · obtain ⟨hb, h⟩ := am_bif h
      exact am_s_istore hf (by simpa using hb) (hK _ _ _ _ _ _ _ _ h)
    · cases h
  | astore_n k =>
    simp only [am_op] at h
    split at h
    · obtain ⟨hb, h⟩ := am_bif h
      exact am_s_astore_n hf (by simpa using hb) (hK _ _ _ _ _ _ _ _ h)
    · cases h
  | astore k =>
    simp only [am_op] at h
    split at h
    · obtain ⟨hb, h⟩ := am_bif h
      exact am_s_astore hf (by simpa using hb) (hK _ _ _ _ _ _ _ _ h)
    · cases h
  | iadd =>
    simp only [am_op] at h
    split at h
    · exact am_s_iadd hf (hK _ _ _ _ _ _ _ _ h)
    · cases h
  | isub =>
    simp only [am_op] at h
    split at h
    · exact am_s_isub hf (hK _ _ _ _ _ _ _ _ h)
    · cases h
  | imul =>
    simp only [am_op] at h
    split at h
    · exact am_s_imul hf (hK _ _ _ _ _ _ _ _ h)
    · cases h
  | iand =>
    simp only [am_op] at h
    split at h
    · exact am_s_iand hf (hK _ _ _ _ _ _ _ _ h)
    · cases h
  | ior =>
    simp only [am_op] at h
    split at h
    · exact am_s_ior hf (hK _ _ _ _ _ _ _ _ h)
    · cases h
  | ixor =>
    simp only [am_op] at h
    split at h
    · exact am_s_ixor hf (hK _ _ _ _ _ _ _ _ h)
    · cases h
  | ishl =>
    simp only [am_op] at h
    split at h
    · exact am_s_ishl hf (hK _ _ _ _ _ _ _ _ h)
    · cases h
  | ishr =>
    simp only [am_op] at h
    split at h
    · exact am_s_ishr hf (hK _ _ _ _ _ _ _ _ h)
    · cases h
  | iushr =>
    simp only [am_op] at h
    split at h
    · exact am_s_iushr hf (hK _ _ _ _ _ _ _ _ h)
    · cases h
  | ineg =>
    simp only [am_op] at h
    split at h
    · exact am_s_ineg hf (hK _ _ _ _ _ _ _ _ h)
    · cases h
  | i2b =>
    simp only [am_op] at h
    split at h
    · exact am_s_i2b hf (hK _ _ _ _ _ _ _ _ h)
    · cases h
  | i2l =>
    simp only [am_op] at h
    split at h
    · exact am_s_i2l hf (hK _ _ _ _ _ _ _ _ h)
    · cases h
  | l2i =>
    simp only [am_op] at h
    split at h
    · exact am_s_l2i hf (hK _ _ _ _ _ _ _ _ h)
    · cases h
  | ladd =>
    simp only [am_op] at h
    split at h
    · exact am_s_ladd hf (hK _ _ _ _ _ _ _ _ h)
    · cases h
  | lmul =>
    simp only [am_op] at h
    split at h
    · exact am_s_lmul hf (hK _ _ _ _ _ _ _ _ h)
    · cases h
  | idiv =>
    simp only [am_op] at h
    split at h
    · split at h
      · cases h
      · next hne => exact am_s_idiv hf hne (hK _ _ _ _ _ _ _ _ h)
    · cases h
  | irem =>
    simp only [am_op] at h
    split at h
    · split at h
      · cases h
      · next hne => exact am_s_irem hf hne (hK _ _ _ _ _ _ _ _ h)
    · cases h
  | lrem =>
    simp only [am_op] at h
    split at h
    · split at h
      · cases h
      · next hne => exact am_s_lrem hf hne (hK _ _ _ _ _ _ _ _ h)
    · cases h
  | dup =>
    simp only [am_op] at h
    split at h
    · obtain ⟨hb, h⟩ := am_bif h
      exact am_s_dup hf hb (hK _ _ _ _ _ _ _ _ h)
    · cases h
  | pop =>
    simp only [am_op] at h
    split at h
    · obtain ⟨hb, h⟩ := am_bif h
      exact am_s_pop hf hb (hK _ _ _ _ _ _ _ _ h)
    · cases h
  | dup2 =>
    simp only [am_op] at h
    split at h
    · obtain ⟨hb, h⟩ := am_bif h
      rw [Bool.and_eq_true] at hb
      exact am_s_dup2 hf hb.1 hb.2 (hK _ _ _ _ _ _ _ _ h)
    · cases h
  | goto off => exact am_s_goto hf (hK _ _ _ _ _ _ _ _ h)
  | ifCond c off =>
    cases c with
    | eq =>
      simp only [am_op] at h
      split at h
      · split at h
        · next hc => exact am_s_if_eq_t hf hc (hK _ _ _ _ _ _ _ _ h)
        · next hc => exact am_s_if_eq_f hf hc (hK _ _ _ _ _ _ _ _ h)
      · cases h
    | ne =>
      simp only [am_op] at h
      split at h
      · split at h
        · next hc => exact am_s_if_ne_t hf hc (hK _ _ _ _ _ _ _ _ h)
        · next hc => exact am_s_if_ne_f hf (Decidable.not_not.mp hc) (hK _ _ _ _ _ _ _ _ h)
      · cases h
    | lt =>
      simp only [am_op] at h
      split at h
      · split at h
        · next hc => exact am_s_if_lt_t hf hc (hK _ _ _ _ _ _ _ _ h)
        · next hc => exact am_s_if_lt_f hf hc (hK _ _ _ _ _ _ _ _ h)
      · cases h
    | ge =>
      simp only [am_op] at h
      split at h
      · split at h
        · next hc => exact am_s_if_ge_t hf hc (hK _ _ _ _ _ _ _ _ h)
        · next hc => exact am_s_if_ge_f hf hc (hK _ _ _ _ _ _ _ _ h)
      · cases h
    | gt =>
      simp only [am_op] at h
      split at h
      · split at h
        · next hc => exact am_s_if_gt_t hf hc (hK _ _ _ _ _ _ _ _ h)
        · next hc => exact am_s_if_gt_f hf hc (hK _ _ _ _ _ _ _ _ h)
      · cases h
    | le =>
      simp only [am_op] at h
      split at h
      · split at h
        · next hc => exact am_s_if_le_t hf hc (hK _ _ _ _ _ _ _ _ h)
        · next hc => exact am_s_if_le_f hf hc (hK _ _ _ _ _ _ _ _ h)
      · cases h
  | if_icmp c off =>
    cases c with
    | eq =>
      simp only [am_op] at h
      split at h
      · split at h
        · next hc => exact am_s_icmp_eq_t hf hc (hK _ _ _ _ _ _ _ _ h)
        · next hc => exact am_s_icmp_eq_f hf hc (hK _ _ _ _ _ _ _ _ h)
      · cases h
    | ne =>
      simp only [am_op] at h
      split at h
      · split at h
        · next hc => exact am_s_icmp_ne_t hf hc (hK _ _ _ _ _ _ _ _ h)
        · next hc => exact am_s_icmp_ne_f hf (Decidable.not_not.mp hc) (hK _ _ _ _ _ _ _ _ h)
      · cases h
    | lt =>
      simp only [am_op] at h
      split at h
      · split at h
        · next hc => exact am_s_icmp_lt_t hf hc (hK _ _ _ _ _ _ _ _ h)
        · next hc => exact am_s_icmp_lt_f hf hc (hK _ _ _ _ _ _ _ _ h)
      · cases h
    | ge =>
      simp only [am_op] at h
      split at h
      · split at h
        · next hc => exact am_s_icmp_ge_t hf hc (hK _ _ _ _ _ _ _ _ h)
        · next hc => exact am_s_icmp_ge_f hf hc (hK _ _ _ _ _ _ _ _ h)
      · cases h
    | gt =>
      simp only [am_op] at h
      split at h
      · split at h
        · next hc => exact am_s_icmp_gt_t hf hc (hK _ _ _ _ _ _ _ _ h)
        · next hc => exact am_s_icmp_gt_f hf hc (hK _ _ _ _ _ _ _ _ h)
      · cases h
    | le =>
      simp only [am_op] at h
      split at h
      · split at h
        · next hc => exact am_s_icmp_le_t hf hc (hK _ _ _ _ _ _ _ _ h)
        · next hc => exact am_s_icmp_le_f hf hc (hK _ _ _ _ _ _ _ _ h)
      · cases h
  | tableswitch dflt lo hi offs =>
    simp only [am_op] at h
    split at h
    · split at h
      · next hc => exact am_s_tblOut hf hc (hK _ _ _ _ _ _ _ _ h)
      · next hc =>
        split at h
        · next off ho => exact am_s_tblIn hf hc ho (hK _ _ _ _ _ _ _ _ h)
        · cases h
    · cases h
  | lookupswitch dflt ps =>
    simp only [am_op] at h
    split at h
    · obtain ⟨hb, h⟩ := am_bif h
      exact am_s_lookup hf hb (hK _ _ _ _ _ _ _ _ h)
    · cases h
  | getfield v =>
    simp only [am_op] at h
    split at h
    · split at h
      · next kd n fs ha =>
        obtain ⟨hb, h2⟩ := am_bif h
        clear h
        have h := h2
        clear h2
        have hkd := Nat.eq_of_beq_eq_true hb
        subst hkd
        split at h
        · next hc => exact am_s_getfield hf ha hc (fun w hw => by
            have e := hw id
            cases w <;> simp only [am_cv, am_fv, id, Value.int.injEq, reduceCtorEq] at e
            subst e
            exact (hK _ _ _ _ _ _ _ _ h))
        · next hc => exact am_s_getfield hf ha hc (fun w hw => by
            have e := hw id
            cases w <;> simp only [am_cv, am_fv, id, reduceCtorEq] at e
            exact (hK _ _ _ _ _ _ _ _ h))
        · next b hc => exact am_s_getfield hf ha hc (fun w hw => by
            have e := hw id
            cases w <;> simp only [am_cv, am_fv, id, Value.ref.injEq, reduceCtorEq] at e
            subst e
            exact (hK _ _ _ _ _ _ _ _ h))
        · cases h
      · cases h
    · cases h
  | putfield v =>
    simp only [am_op] at h
    split at h
    · next x a S2 =>
      split at h
      · next kd n fs ha =>
        obtain ⟨hb, h2⟩ := am_bif h
        clear h
        have h := h2
        clear h2
        have hkd := Nat.eq_of_beq_eq_true hb
        subst hkd
        split at h
        · next hc =>
          refine am_s_put (μ' := am_up μ a (j % 100) x) (fs' := fs) hf ha hc (Or.inl ⟨x, rfl, rfl, rfl, rfl⟩) ?_
          have hset : sh.set a (j / 100 + 3, n, fs) = sh := by
            apply List.ext_getElem?
            intro q
            rw [List.getElem?_set]
            split
            · next e => subst e; rw [if_pos (List.getElem?_eq_some_iff.mp ha).1, ha]
            · rfl
          rw [hset]
          exact (hK _ _ _ _ _ _ _ _ h)
        · cases h
      · cases h
    · next b a S2 =>
      split at h
      · next kd n fs ha =>
        obtain ⟨hb, h2⟩ := am_bif h
        clear h
        have h := h2
        clear h2
        have hkd := Nat.eq_of_beq_eq_true hb
        subst hkd
        split at h
        · next c9 hc => exact am_s_put (μ' := μ) (fs' := fs.set (j % 100) (b + 2)) hf ha hc (Or.inr ⟨b, rfl, by omega, rfl, rfl⟩) (hK _ _ _ _ _ _ _ _ h)
        · cases h
      · cases h
    · cases h
  | iaload =>
    simp only [am_op] at h
    split at h
    · next x a S2 =>
      cases hq : Nat.beq a am_SCR with
      | true =>
        rw [hq, cond_true] at h
        have := Nat.eq_of_beq_eq_true hq
        subst this
        split at h
        · obtain ⟨hb, h⟩ := am_bif h
          exact am_s_sld hf hb rfl (hK _ _ _ _ _ _ _ _ h)
        · cases h
      | false =>
        rw [hq, cond_false] at h
        split at h
        · next ha =>
          obtain ⟨hb, h⟩ := am_bif h
          exact am_s_iald hf ha hb (hK _ _ _ _ _ _ _ _ h)
        · cases h
    · cases h
  | baload =>
    simp only [am_op] at h
    split at h
    · split at h
      · next ha =>
        obtain ⟨hb, h⟩ := am_bif h
        exact am_s_zald hf ha hb (hK _ _ _ _ _ _ _ _ h)
      · next ha =>
        obtain ⟨hb, h⟩ := am_bif h
        exact am_s_bald hf ha hb (hK _ _ _ _ _ _ _ _ h)
      · cases h
    · cases h
  | bastore =>
    simp only [am_op] at h
    split at h
    · split at h
      · next ha =>
        obtain ⟨hb, h⟩ := am_bif h
        exact am_s_zast hf ha hb (hK _ _ _ _ _ _ _ _ h)
      · next ha =>
        obtain ⟨hb, h⟩ := am_bif h
        exact am_s_bast hf ha hb (hK _ _ _ _ _ _ _ _ h)
      · cases h
    · cases h
  | iastore =>
    simp only [am_op] at h
    split at h
    · split at h
      · next ha =>
        obtain ⟨hb, h⟩ := am_bif h
        exact am_s_iast hf ha hb (hK _ _ _ _ _ _ _ _ h)
      · cases h
    · cases h
  | arraylength =>
    simp only [am_op] at h
    split at h
    · next a S2 =>
      cases hq : Nat.beq a am_SCR with
      | true =>
        rw [hq, cond_true] at h
        have := Nat.eq_of_beq_eq_true hq
        subst this
        split at h
        · exact am_s_slen hf rfl (hK _ _ _ _ _ _ _ _ h)
        · cases h
      | false =>
        rw [hq, cond_false] at h
        split at h
        · next ha => exact am_s_alen hf ha (hK _ _ _ _ _ _ _ _ h)
        · cases h
    · cases h
  | newarray t =>
    simp only [am_op] at h
    split at h
    · next n S2 kd hk =>
      obtain ⟨hb, h⟩ := am_bif h
      simp only [Bool.and_eq_true, Bool.not_eq_true', decide_eq_false_iff_not, Nat.ble_eq] at hb
      exact am_s_newa hf hk hb.1 hb.2.1 hb.2.2 (hK _ _ _ _ _ _ _ _ h)
    · cases h
  | new v =>
    simp only [am_op] at h
    split at h
    · next fs hfs =>
      obtain ⟨hb, h⟩ := am_bif h
      exact am_s_new hf hfs hb (hK _ _ _ _ _ _ _ _ h)
    · cases h
  | invokevirtual v =>
    simp only [am_op] at h
    obtain ⟨n, -, -, hax⟩ := am_dec hf
    simp only [am_aux, Bool.and_eq_true, Bool.or_eq_true, Nat.blt_eq, Nat.beq_eq, Bool.not_eq_true', beq_eq_false_iff_ne] at hax
    unfold am_virt at h
    split at h
    · split at h
      · next a S2 d2 z =>
        obtain ⟨hb, h9⟩ := am_bif h
        simp only [Bool.and_eq_true, Nat.beq_eq, Nat.ble_eq] at hb
        obtain ⟨rfl, hb1, hb2⟩ := hb
        exact am_s_len hf rfl hb1 hb2 (hK _ _ _ _ _ _ _ _ h9)
      · cases h
    · split at h
      · next k9 a S2 d2 z =>
        obtain ⟨hb, h9⟩ := am_bif h
        simp only [Bool.and_eq_true, Nat.beq_eq, Nat.ble_eq] at hb
        obtain ⟨rfl, hb0, hb1, hb2⟩ := hb
        exact am_s_cha hf rfl hb0 hb1 hb2 (hK _ _ _ _ _ _ _ _ h9)
      · cases h
    · next n1 n2 =>
      have hj : j < am_law ∧ am_st j = false ∧ ¬ (am_yq j).name = "<init>" := by
        rcases hax.2 with q | q
        · exact q
        · exfalso
          rcases q.1 with z | z
          · exact n1 z
          · exact n2 z
      exact am_callS (Or.inr (Or.inl rfl)) h0 hK hf hj.1 (Or.inl ⟨rfl, hj.2.1, hj.2.2⟩) h
  | invokestatic v =>
    simp only [am_op] at h
    obtain ⟨n, -, -, hax⟩ := am_dec hf
    simp only [am_aux, Bool.and_eq_true, Bool.or_eq_true, Nat.blt_eq, Nat.ble_eq] at hax
    cases hq : Nat.beq j am_jc with
    | true =>
      rw [hq, cond_true] at h
      have hj : j < am_law ∧ am_st j = true := by
        have e := Nat.eq_of_beq_eq_true hq
        subst e
        exact ⟨by decide, rfl⟩
      exact am_callS (Or.inr (Or.inr rfl)) hK hK hf hj.1 (Or.inr (Or.inl ⟨rfl, hj.2⟩)) h
    | false =>
    rw [hq, cond_false] at h
    unfold am_static at h
    split at h
    · split at h
      · obtain ⟨hb, h⟩ := am_bif h
        rw [Bool.and_eq_true] at hb
        exact am_s_max hf hb.1 (Nat.le_of_ble_eq_true hb.2) (hK _ _ _ _ _ _ _ _ h)
      · cases h
    · split at h
      · obtain ⟨hb, h⟩ := am_bif h
        rw [Bool.and_eq_true] at hb
        exact am_s_min hf hb.1 (Nat.le_of_ble_eq_true hb.2) (hK _ _ _ _ _ _ _ _ h)
      · cases h
    · split at h
      · obtain ⟨hb, h⟩ := am_bif h
        rw [Bool.and_eq_true] at hb
        exact am_s_abs hf hb.1 (Nat.le_of_ble_eq_true hb.2) (hK _ _ _ _ _ _ _ _ h)
      · cases h
    · split at h
      · split at h
        · next ha hb1 =>
          obtain ⟨hb, h⟩ := am_bif h
          simp only [Bool.and_eq_true, Bool.not_eq_true', decide_eq_false_iff_not, Nat.ble_eq] at hb
          exact am_s_copy hf ha hb1 hb.1 hb.2.1 hb.2.2.1 hb.2.2.2.1 hb.2.2.2.2 (hK _ _ _ _ _ _ _ _ h)
        · cases h
      · cases h
    · next n1 n2 n3 n4 =>
      have hj : j < am_law ∧ am_st j = true := by
        rcases hax.2 with q | q
        · exact q
        · exfalso
          have hz : j = 1001 ∨ j = 1002 ∨ j = 1003 ∨ j = 1004 := by omega
          rcases hz with z | z | z | z
          · exact n1 z
          · exact n2 z
          · exact n3 z
          · exact n4 z
      exact am_callS (Or.inr (Or.inl rfl)) h0 hK hf hj.1 (Or.inr (Or.inl ⟨rfl, hj.2⟩)) h
  | invokespecial v =>
    simp only [am_op] at h
    obtain ⟨n, -, -, hax⟩ := am_dec hf
    simp only [am_aux, Bool.and_eq_true, Bool.or_eq_true, Nat.blt_eq, Nat.beq_eq, Bool.not_eq_true', beq_iff_eq] at hax
    unfold am_spec at h
    split at h
    · split at h
      · obtain ⟨hb, h⟩ := am_bif h
        rw [Bool.and_eq_true] at hb
        exact am_s_obj hf hb.1 (Nat.le_of_ble_eq_true hb.2) (hK _ _ _ _ _ _ _ _ h)
      · cases h
    · next n1 =>
      have hj : j < am_law ∧ am_st j = false ∧ (am_yq j).name = "<init>" := by
        rcases hax.2 with q | q
        · exact q
        · exact absurd q n1
      exact am_callS (Or.inr (Or.inl rfl)) h0 hK hf hj.1 (Or.inr (Or.inr ⟨rfl, hj.2⟩)) h
  | ireturn =>
    simp only [am_op] at h
    obtain ⟨hd, -⟩ := am_dec1 hf 1 (fun k h => Nat.eq_of_beq_eq_true h)
    split at h
    · next x =>
      split at h
      · next e => cases h; exact am_s_ret (r := some (.int x)) ⟨hd, Or.inl e⟩
      · next e =>
        split at h
        · next hx => cases h; exact am_s_ret (r := some (.int x)) ⟨hd, Or.inr ⟨e, hx⟩⟩
        · cases h
      · cases h
    · cases h
  | areturn =>
    simp only [am_op] at h
    obtain ⟨hd, -⟩ := am_dec1 hf 1 (fun k h => Nat.eq_of_beq_eq_true h)
    split at h
    · next a =>
      split at h
      · next C e => cases h; exact am_s_ret (r := some (.ref a)) ⟨hd, C, e⟩
      · cases h
    · cases h
  | return_ =>
    simp only [am_op] at h
    obtain ⟨hd, -⟩ := am_dec1 hf 1 (fun k h => Nat.eq_of_beq_eq_true h)
    split at h
    · split at h
      · next e => cases h; exact am_s_ret (r := none) ⟨hd, e⟩
      · cases h
    · cases h
  | _ => simp [am_op] at h
end
theorem am_snd : ∀ (n : Nat) (scr : am_Scr) (d m pc : Nat) (L S : List Value) (sh : am_Sh) (μ : am_Mu) (out : am_Out), am_exec n scr d m pc L S sh μ = some out → am_Sd scr d m pc L S sh μ out := by
  intro n
  induction n with
  | zero => intro scr d m pc L S sh μ out h; cases h
  | succ n ih =>
    intro scr d m pc L S sh μ out h
    have h : am_step scr (am_exec n (am_sub scr)) (am_exec n scr) d m pc L S sh μ = some out := h
    unfold am_step at h
    split at h
    · next i j hf => exact am_opS (ih (am_sub scr)) (ih scr) hf h
    · cases h
end
section
/-! FROM THE ABSTRACT MACHINE TO THE CLAIM -/
def R_law : String := "SealBookLaw"
def lw_Q (_ : Array Value) (s : State) (o : Outcome) (t : State) : Prop := o = .returned (some (.int 1)) ∧ Framed s o t [] 600000 7302249
def lw_Z (below : List Frame) (a : Array Value) (s : State) : State → Prop := fun t => ∃ o, t.status = .running ∧ Ended t below o ∧ lw_Q a s o t
/-- the law's own end, with 1 on the stack, nothing written that was there before, its room as the claim has it -/
theorem lw_ret {p : Program} {l : Launch} {e : Env} {s : State} {m : MethodId} {below : List Frame} {meth : Method} {c : Code} {b : Nat} (hx : p.tables.exec = Jvm.exec) (hb : c.code = code) (hr : meth.sig.returnType = ret) (hlocks : meth.locks = false) {pc : Nat} {H : Heap} {ls : Array Slot} (hdg : decode code pc = .ok (.ireturn, 1)) : W p l e room_1 s m #[Value.ref b] below meth c H [] 600000 7302249 (lw_Z below #[Value.ref b] s) (F0 m pc ls [.int 1]) := by
  intro T hT X
  obtain ⟨fs, hret, hrun, hended, hW, hframe⟩ := X.leave (v := some (.int 1)) (hlocks := hlocks) (fun h => by rw [hr] at h; cases h)
  have hmeth' : T.vm.method? m = some meth := X.method'
  refine ⟨T.setFrames fs, ?_, .returned (some (.int 1)), hrun, hended, rfl, ⟨_, rfl⟩, hW, hframe⟩
  jvm_step X.here [X.here.top, hx, hb, hdg, hmeth', hr, ret, narrow_b1]
  (try refine ⟨rfl, ?_⟩); (try refine ⟨rfl, ?_⟩)
  first | (intro acts; rw [hret _ acts rfl rfl rfl]) | rw [hret _ _ rfl rfl rfl]
  exact Steps.refl _
/-- what holds at the law's entry: the machine, the code, the tables' words (any of lw_tbl by 'hts w (by decide +kernel)'), the script of L ints xs at the cell b, what the Statement gives of the start (any of its parts by flat_of_before) -/
def lw_At (p : Program) (s : State) (m : MethodId) (meth : Method) (c : Code) (b L : Nat) (xs : Nat → Int32) : Prop :=
  p.tables.exec = Jvm.exec ∧ c.code = code ∧ meth.sig.returnType = ret ∧ c.maxLocals = 22 ∧ s.vm.findClass R_law = some m.cls ∧ (∀ w ∈ lw_tbl, w.before #[Value.ref b] s = true) ∧ va_X b L xs s s.heap ∧ b < s.heap.size ∧ meth.locks = false ∧ (Jvm.Cond.and given_1 narrow_1).before #[Value.ref b] s = true
/-- the run of the law in the abstract machine, over a script -/
def am_Run (L : Nat) (xs : Nat → Int32) : Prop := ∃ (n d : Nat) (sh : am_Sh) (μ : am_Mu), d ≤ 2000 ∧ am_exec n (some (some (L, xs))) d am_law 0 (.ref am_SCR :: List.replicate 21 .null) [] [] (fun _ _ => 0) = some (some (.int 1), sh, μ) ∧ sh.length ≤ 600000 ∧ am_sl sh ≤ 7302249
theorem jx_isRef {args : Array Value} {s : State} {t : Term} (h : (Cond.isRef t).before args s = true) : ∃ f : Value, f.category = 1 ∧ t.eval args s none [] s = some f := by
  simp only [Cond.before, Cond.holds, Cond.value] at h
  cases hv : t.eval args s none [] s with
  | none => rw [hv] at h; simp at h
  | some w =>
    rw [hv] at h
    refine ⟨w, ?_, rfl⟩
    cases w <;> first | rfl | simp at h
theorem am_codL : am_cod am_law = code := by
  have h : am_at (am_MP.getD am_law (0, 0, 0)).1 = (k2_sels lw_privs)[0]? := rfl
  unfold am_cod
  rw [h]
  rfl
theorem am_start {p : Program} {e : Env} {s : State} {m : MethodId} {below : List Frame} {meth : Method} {c : Code} (l : Launch) {b L : Nat} {xs : Nat → Int32} (hex : am_Run L xs) (C0 : lw_At p s m meth c b L xs) : W p l e room_1 s m #[Value.ref b] below meth c s.heap [] 0 0 (lw_Z below #[Value.ref b] s) (entryFrame m ([Value.ref b] : List Value).toArray 22) := by
  obtain ⟨hx, hb, hr, hml, hown, hts, hX, hbl, hlocks, hgv⟩ := C0
  obtain ⟨n, d, sh, μ, hd, hrun, hc1, hc2⟩ := hex
  have hA : ∀ q : Nat, s.heap.size ≤ q → (fun q : Nat => s.heap.size ≤ q) q := fun _ h => h
  have hbA : ¬ (fun q : Nat => s.heap.size ≤ q) b := Nat.not_le.mpr hbl
  have htb : ∀ w ∈ am_tbl, w.before #[Value.ref b] s = true := fun w hw => hts w (List.mem_filter.mp hw).1
  have hns : am_Nst s := by
    refine ⟨fun t ht => ?_, fun t ht => ?_⟩
    · have h1 := List.all_eq_true.mp am_lN_ok t ht
      simp only [am_inN, decide_eq_true_eq] at h1
      have h2 := List.all_eq_true.mp am_lN_cl t ht
      refine va_Nw.of ?_ (hts _ (am_at_mem h1))
      unfold am_fldC
      cases hc : am_cl[t.2.2.1 / 100]? with
      | none => rw [hc] at h2; cases h2
      | some c => rfl
    · have h1 := List.all_eq_true.mp am_lMN_ok t ht
      simp only [am_inN, decide_eq_true_eq] at h1
      exact va_Nw.of rfl (hts _ (am_at_mem h1))
  have hKn : ∀ k : Nat, ∃ ci : ClassId × (Nat → Nat), ∀ q, am_cl[k]? = some q → u_Kn s q.1 q.2.1 q.2.2 ci.1 ci.2 := by
    intro k
    cases hk : am_cl[k]? with
    | none => exact ⟨(0, fun _ => 0), fun q h => by cases h⟩
    | some q =>
      obtain ⟨f1, f2, f3, f4, f5, f6, f7, f8⟩ := am_clsF hk
      obtain ⟨c0, iS0, hKn0⟩ := u_known (n := q.2.2) htb f1 (htb _ f5)
      exact ⟨(c0, iS0), fun q' h => by cases h; exact hKn0⟩
  obtain ⟨fd, hfd⟩ := Classical.axiomOfChoice hKn
  have hs := am_snd n _ _ _ _ _ _ _ _ _ hrun
  rw [lg_entry_eq]
  have gv := flat_of_before _ hgv
  have hA0 : ∀ a : Nat, a < s.heap.size → ¬ (fun q : Nat => s.heap.size ≤ q) a := fun a h => Nat.not_le.mpr h
  obtain ⟨adK, adV, hVS, hTM⟩ := vk_Sof (args := #[Value.ref b]) (s := s) (N := 1) (tm := fun _ => Jvm.Term.string "SealBookLaw" (39 : Nat)) (len := [29]) (byt := [am_txt]) (A := fun q => s.heap.size ≤ q)
    (fun i hi => by have : i = 0 := by omega
                    subst this; decide) (fun i hi => gv _ (by decide +kernel)) (fun i hi => gv _ (by decide +kernel)) (fun i hi => gv _ (by decide +kernel))
    (fun i hi => by have : i = 0 := by omega
                    subst this; exact gv _ (by decide +kernel))
    (fun i hi j hj => by
      have : i = 0 := by omega
      subst this
      have hj : j < 29 := hj
      have hal : ∀ j, j < 29 → (Jvm.Cond.eq (.elem (.field (Jvm.Term.string "SealBookLaw" (39 : Nat)) "java/lang/String" "value" "[B") (.int (Int32.ofNat j))) (.int (am_txt.getD j 0))) ∈ flatC (Jvm.Cond.and given_1 narrow_1) := by decide +kernel
      exact gv _ (hal j hj))
    (fun i j hi hj hne => absurd (show i = j by omega) hne) hA0
  have hVT := hVS.1 0 (by decide)
  have hcom : va_Z "java/lang/String" "COMPACT_STRINGS" "Z" (.int 1) (fun q => s.heap.size ≤ q) s s.heap := va_Zof (hts _ jz_com) (htb _ ji_S) (va_eqi (gv _ (by decide +kernel))) hA0
  have hsio : ∃ f : Value, f.category = 1 ∧ va_Z "jdk/internal/util/Preconditions" "SIOOBE_FORMATTER" "Ljava/util/function/BiFunction;" f (fun q => s.heap.size ≤ q) s s.heap := by
    have h9 : (Jvm.Cond.isRef (Jvm.Term.static "jdk/internal/util/Preconditions" "SIOOBE_FORMATTER" "Ljava/util/function/BiFunction;")).before #[Value.ref b] s = true := gv _ (by decide +kernel)
    obtain ⟨f, hc, hf⟩ := jx_isRef h9
    exact ⟨f, hc, va_Zof (hts _ jz_sio) (htb _ ji_P) hf hA0⟩
  have hTx : am_Tx (adK 0) (adV 0) (fun q => s.heap.size ≤ q) s s.heap := ⟨hVT.1, hVT.2.1, hVT.2.2.1, hVT.2.2.2, hcom, hsio, vk_R.of (hts _ jr_txt) (hTM 0 (by decide))⟩
  have hl := am_entry (ad := fun k => if k = am_STR then adK 0 else if k = am_STV then adV 0 else b) (As := [.ref am_SCR]) (nL := 22) rfl (by decide)
  refine hs.2.2 p l e room_1 s m #[Value.ref b] below meth c s.heap [] 0 0 _ _ (fun k => (fd k).1) (fun k => (fd k).2) (fun k => if k = am_STR then adK 0 else if k = am_STV then adV 0 else b) (fun _ => 0) (fun q => s.heap.size ≤ q) s.heap ⟨hx, by rw [am_codL]; exact hb, hml, hown, htb, hns, Nat.le_trans hd (by decide), Nat.le_trans (Nat.mul_le_mul_left 40 hd) (by decide), fun h => absurd h (by decide)⟩ ⟨fun k q h => by simp [am_ws] at h, ⟨fun i j p q h => by simp [am_ws] at h, fun k q h => by simp [am_ws] at h⟩, ⟨fun k q h => hfd k q h, fun k q h => by simp at h⟩, fun k e h => by simp at h, fun a ci n fs h => by simp at h⟩ va_S.rf hA ⟨hTx, hX, hbl, hbA⟩ hl (by show 0 + sh.length ≤ 600000 + 0; omega) (by show 0 + am_sl sh ≤ 7302249 + 0; omega) ?_
  intro pc' ad' cA' H' locs' ls' hE hW hS hR
  refine va_forget (fun q hq => hS.2.2 q hq) ?_
  refine W.widen (k := 600000) (n := 7302249) (by show 0 + (sh.length - 0) ≤ _; omega) (by show 0 + (am_sl sh - 0) ≤ _; omega) ?_
  have hd9 := hR.1
  rw [am_codL] at hd9
  exact lw_ret hx hb hr hlocks hd9
end
