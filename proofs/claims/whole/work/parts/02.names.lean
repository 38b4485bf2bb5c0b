-- ===== PART A: goes FIRST, ahead of the names: the tables' words, and 'selects' of the private methods out of them =====
/-- a private method of a class that the tables say can be made, by its rows of tables_1 -/
def lw_okq (q : MethodName × Nat) : Prop := (q.1.cls ≠ "java/lang/invoke/MethodHandle" ∧ q.1.cls ≠ "java/lang/invoke/VarHandle") ∧ Cond.instantiable q.1.cls q.2 ∈ tables_1 ∧ Cond.privateMethod q.1 ∈ tables_1 ∧ Cond.instanceMethod q.1 ∈ tables_1
theorem lw_p0 : lw_okq (⟨"ExplainDifference$Ledger", "differs", "(I)I"⟩, 7) := ⟨⟨by decide +kernel, by decide +kernel⟩, List.mem_of_getElem? (i := 25) (by decide +kernel), List.mem_of_getElem? (i := 148) (by decide +kernel), List.mem_of_getElem? (i := 149) (by decide +kernel)⟩
theorem lw_p1 : lw_okq (⟨"ExplainDifference$Ledger", "isAtCountedCell", "([I)Z"⟩, 7) := ⟨⟨by decide +kernel, by decide +kernel⟩, List.mem_of_getElem? (i := 25) (by decide +kernel), List.mem_of_getElem? (i := 170) (by decide +kernel), List.mem_of_getElem? (i := 171) (by decide +kernel)⟩
theorem lw_p2 : lw_okq (⟨"ExplainDifference$Ledger", "isCounted", "(I)Z"⟩, 7) := ⟨⟨by decide +kernel, by decide +kernel⟩, List.mem_of_getElem? (i := 25) (by decide +kernel), List.mem_of_getElem? (i := 177) (by decide +kernel), List.mem_of_getElem? (i := 178) (by decide +kernel)⟩
theorem lw_p3 : lw_okq (⟨"ExplainDifference", "needAct", "(IIII)V"⟩, 2) := ⟨⟨by decide +kernel, by decide +kernel⟩, List.mem_of_getElem? (i := 17) (by decide +kernel), List.mem_of_getElem? (i := 198) (by decide +kernel), List.mem_of_getElem? (i := 199) (by decide +kernel)⟩
theorem lw_p4 : lw_okq (⟨"java/lang/Throwable", "fillInStackTrace", "(I)Ljava/lang/Throwable;"⟩, 6) := ⟨⟨by decide +kernel, by decide +kernel⟩, List.mem_of_getElem? (i := 249) (by decide +kernel), List.mem_of_getElem? (i := 247) (by decide +kernel), List.mem_of_getElem? (i := 248) (by decide +kernel)⟩
theorem lw_p5 : lw_okq (⟨"ExplainDifference", "needRoom", "()V"⟩, 2) := ⟨⟨by decide +kernel, by decide +kernel⟩, List.mem_of_getElem? (i := 17) (by decide +kernel), List.mem_of_getElem? (i := 283) (by decide +kernel), List.mem_of_getElem? (i := 284) (by decide +kernel)⟩
theorem lw_p6 : lw_okq (⟨"ExplainDifference$Ledger", "shift", "(II)V"⟩, 7) := ⟨⟨by decide +kernel, by decide +kernel⟩, List.mem_of_getElem? (i := 25) (by decide +kernel), List.mem_of_getElem? (i := 311) (by decide +kernel), List.mem_of_getElem? (i := 312) (by decide +kernel)⟩
theorem lw_p7 : lw_okq (⟨"ExplainDifference$Seeker", "begin", "(I)V"⟩, 13) := ⟨⟨by decide +kernel, by decide +kernel⟩, List.mem_of_getElem? (i := 68) (by decide +kernel), List.mem_of_getElem? (i := 406) (by decide +kernel), List.mem_of_getElem? (i := 407) (by decide +kernel)⟩
theorem lw_p8 : lw_okq (⟨"ExplainDifference$Seeker", "gatherChoices", "(LExplainDifference$Ledger;)V"⟩, 13) := ⟨⟨by decide +kernel, by decide +kernel⟩, List.mem_of_getElem? (i := 68) (by decide +kernel), List.mem_of_getElem? (i := 411) (by decide +kernel), List.mem_of_getElem? (i := 412) (by decide +kernel)⟩
theorem lw_p9 : lw_okq (⟨"ExplainDifference$Seeker", "extend", "(LExplainDifference$Ledger;II)Z"⟩, 13) := ⟨⟨by decide +kernel, by decide +kernel⟩, List.mem_of_getElem? (i := 68) (by decide +kernel), List.mem_of_getElem? (i := 416) (by decide +kernel), List.mem_of_getElem? (i := 417) (by decide +kernel)⟩
theorem lw_p10 : lw_okq (⟨"ExplainDifference$Seeker", "note", "()V"⟩, 13) := ⟨⟨by decide +kernel, by decide +kernel⟩, List.mem_of_getElem? (i := 68) (by decide +kernel), List.mem_of_getElem? (i := 420) (by decide +kernel), List.mem_of_getElem? (i := 421) (by decide +kernel)⟩
theorem lw_p11 : lw_okq (⟨"ExplainDifference$Seeker", "attempt", "(LExplainDifference$Ledger;III)Z"⟩, 13) := ⟨⟨by decide +kernel, by decide +kernel⟩, List.mem_of_getElem? (i := 68) (by decide +kernel), List.mem_of_getElem? (i := 427) (by decide +kernel), List.mem_of_getElem? (i := 428) (by decide +kernel)⟩
theorem lw_p12 : lw_okq (⟨"ExplainDifferenceModel", "newAct", "(IIIIII)I"⟩, 25) := ⟨⟨by decide +kernel, by decide +kernel⟩, List.mem_of_getElem? (i := 541) (by decide +kernel), List.mem_of_getElem? (i := 632) (by decide +kernel), List.mem_of_getElem? (i := 633) (by decide +kernel)⟩
theorem lw_p13 : lw_okq (⟨"ExplainDifferenceModel", "noAct", "(I)Z"⟩, 25) := ⟨⟨by decide +kernel, by decide +kernel⟩, List.mem_of_getElem? (i := 541) (by decide +kernel), List.mem_of_getElem? (i := 651) (by decide +kernel), List.mem_of_getElem? (i := 652) (by decide +kernel)⟩
theorem lw_p14 : lw_okq (⟨"ExplainDifferenceModel", "howMany", "()I"⟩, 25) := ⟨⟨by decide +kernel, by decide +kernel⟩, List.mem_of_getElem? (i := 541) (by decide +kernel), List.mem_of_getElem? (i := 659) (by decide +kernel), List.mem_of_getElem? (i := 660) (by decide +kernel)⟩
theorem lw_p15 : lw_okq (⟨"ExplainDifferenceModel", "isCandidate", "(I)Z"⟩, 25) := ⟨⟨by decide +kernel, by decide +kernel⟩, List.mem_of_getElem? (i := 541) (by decide +kernel), List.mem_of_getElem? (i := 663) (by decide +kernel), List.mem_of_getElem? (i := 664) (by decide +kernel)⟩
def lw_privs_1 : List (MethodName × Nat) := [(⟨"ExplainDifference$Ledger", "differs", "(I)I"⟩, 7), (⟨"ExplainDifference$Ledger", "isAtCountedCell", "([I)Z"⟩, 7), (⟨"ExplainDifference$Ledger", "isCounted", "(I)Z"⟩, 7), (⟨"ExplainDifference", "needAct", "(IIII)V"⟩, 2), (⟨"java/lang/Throwable", "fillInStackTrace", "(I)Ljava/lang/Throwable;"⟩, 6), (⟨"ExplainDifference", "needRoom", "()V"⟩, 2), (⟨"ExplainDifference$Ledger", "shift", "(II)V"⟩, 7), (⟨"ExplainDifference$Seeker", "begin", "(I)V"⟩, 13), (⟨"ExplainDifference$Seeker", "gatherChoices", "(LExplainDifference$Ledger;)V"⟩, 13), (⟨"ExplainDifference$Seeker", "extend", "(LExplainDifference$Ledger;II)Z"⟩, 13), (⟨"ExplainDifference$Seeker", "note", "()V"⟩, 13), (⟨"ExplainDifference$Seeker", "attempt", "(LExplainDifference$Ledger;III)Z"⟩, 13), (⟨"ExplainDifferenceModel", "newAct", "(IIIIII)I"⟩, 25), (⟨"ExplainDifferenceModel", "noAct", "(I)Z"⟩, 25), (⟨"ExplainDifferenceModel", "howMany", "()I"⟩, 25), (⟨"ExplainDifferenceModel", "isCandidate", "(I)Z"⟩, 25)]
theorem lw_r1 : ∀ q ∈ lw_privs_1, lw_okq q := List.forall_mem_cons.mpr ⟨lw_p0, List.forall_mem_cons.mpr ⟨lw_p1, List.forall_mem_cons.mpr ⟨lw_p2, List.forall_mem_cons.mpr ⟨lw_p3, List.forall_mem_cons.mpr ⟨lw_p4, List.forall_mem_cons.mpr ⟨lw_p5, List.forall_mem_cons.mpr ⟨lw_p6, List.forall_mem_cons.mpr ⟨lw_p7, List.forall_mem_cons.mpr ⟨lw_p8, List.forall_mem_cons.mpr ⟨lw_p9, List.forall_mem_cons.mpr ⟨lw_p10, List.forall_mem_cons.mpr ⟨lw_p11, List.forall_mem_cons.mpr ⟨lw_p12, List.forall_mem_cons.mpr ⟨lw_p13, List.forall_mem_cons.mpr ⟨lw_p14, List.forall_mem_cons.mpr ⟨lw_p15, fun _ h => absurd h List.not_mem_nil⟩⟩⟩⟩⟩⟩⟩⟩⟩⟩⟩⟩⟩⟩⟩⟩
theorem lw_p16 : lw_okq (⟨"ExplainDifferenceModel", "differences", "()I"⟩, 25) := ⟨⟨by decide +kernel, by decide +kernel⟩, List.mem_of_getElem? (i := 541) (by decide +kernel), List.mem_of_getElem? (i := 672) (by decide +kernel), List.mem_of_getElem? (i := 673) (by decide +kernel)⟩
theorem lw_p17 : lw_okq (⟨"ExplainDifferenceModel", "differenceOf", "(I)I"⟩, 25) := ⟨⟨by decide +kernel, by decide +kernel⟩, List.mem_of_getElem? (i := 541) (by decide +kernel), List.mem_of_getElem? (i := 676) (by decide +kernel), List.mem_of_getElem? (i := 677) (by decide +kernel)⟩
theorem lw_p18 : lw_okq (⟨"ExplainDifferenceModel", "expectedOf", "(I)I"⟩, 25) := ⟨⟨by decide +kernel, by decide +kernel⟩, List.mem_of_getElem? (i := 541) (by decide +kernel), List.mem_of_getElem? (i := 680) (by decide +kernel), List.mem_of_getElem? (i := 681) (by decide +kernel)⟩
theorem lw_p19 : lw_okq (⟨"ExplainDifferenceModel", "times", "(I)I"⟩, 25) := ⟨⟨by decide +kernel, by decide +kernel⟩, List.mem_of_getElem? (i := 541) (by decide +kernel), List.mem_of_getElem? (i := 684) (by decide +kernel), List.mem_of_getElem? (i := 685) (by decide +kernel)⟩
theorem lw_p20 : lw_okq (⟨"ExplainDifferenceModel", "adds", "(II)I"⟩, 25) := ⟨⟨by decide +kernel, by decide +kernel⟩, List.mem_of_getElem? (i := 541) (by decide +kernel), List.mem_of_getElem? (i := 688) (by decide +kernel), List.mem_of_getElem? (i := 689) (by decide +kernel)⟩
theorem lw_p21 : lw_okq (⟨"ExplainDifferenceModel", "goThrough", "(II)Z"⟩, 25) := ⟨⟨by decide +kernel, by decide +kernel⟩, List.mem_of_getElem? (i := 541) (by decide +kernel), List.mem_of_getElem? (i := 704) (by decide +kernel), List.mem_of_getElem? (i := 705) (by decide +kernel)⟩
theorem lw_p22 : lw_okq (⟨"ExplainDifferenceModel", "apply", "(II)V"⟩, 25) := ⟨⟨by decide +kernel, by decide +kernel⟩, List.mem_of_getElem? (i := 541) (by decide +kernel), List.mem_of_getElem? (i := 708) (by decide +kernel), List.mem_of_getElem? (i := 709) (by decide +kernel)⟩
theorem lw_p23 : lw_okq (⟨"ExplainDifferenceModel", "add", "(II)V"⟩, 25) := ⟨⟨by decide +kernel, by decide +kernel⟩, List.mem_of_getElem? (i := 541) (by decide +kernel), List.mem_of_getElem? (i := 712) (by decide +kernel), List.mem_of_getElem? (i := 713) (by decide +kernel)⟩
theorem lw_p24 : lw_okq (⟨"ExplainDifferenceModel", "foundOne", "(I)V"⟩, 25) := ⟨⟨by decide +kernel, by decide +kernel⟩, List.mem_of_getElem? (i := 541) (by decide +kernel), List.mem_of_getElem? (i := 716) (by decide +kernel), List.mem_of_getElem? (i := 717) (by decide +kernel)⟩
theorem lw_p25 : lw_okq (⟨"ExplainDifferenceModel", "touches", "(II)Z"⟩, 25) := ⟨⟨by decide +kernel, by decide +kernel⟩, List.mem_of_getElem? (i := 541) (by decide +kernel), List.mem_of_getElem? (i := 761) (by decide +kernel), List.mem_of_getElem? (i := 762) (by decide +kernel)⟩
def lw_privs_2 : List (MethodName × Nat) := [(⟨"ExplainDifferenceModel", "differences", "()I"⟩, 25), (⟨"ExplainDifferenceModel", "differenceOf", "(I)I"⟩, 25), (⟨"ExplainDifferenceModel", "expectedOf", "(I)I"⟩, 25), (⟨"ExplainDifferenceModel", "times", "(I)I"⟩, 25), (⟨"ExplainDifferenceModel", "adds", "(II)I"⟩, 25), (⟨"ExplainDifferenceModel", "goThrough", "(II)Z"⟩, 25), (⟨"ExplainDifferenceModel", "apply", "(II)V"⟩, 25), (⟨"ExplainDifferenceModel", "add", "(II)V"⟩, 25), (⟨"ExplainDifferenceModel", "foundOne", "(I)V"⟩, 25), (⟨"ExplainDifferenceModel", "touches", "(II)Z"⟩, 25)]
theorem lw_r2 : ∀ q ∈ lw_privs_2, lw_okq q := List.forall_mem_cons.mpr ⟨lw_p16, List.forall_mem_cons.mpr ⟨lw_p17, List.forall_mem_cons.mpr ⟨lw_p18, List.forall_mem_cons.mpr ⟨lw_p19, List.forall_mem_cons.mpr ⟨lw_p20, List.forall_mem_cons.mpr ⟨lw_p21, List.forall_mem_cons.mpr ⟨lw_p22, List.forall_mem_cons.mpr ⟨lw_p23, List.forall_mem_cons.mpr ⟨lw_p24, List.forall_mem_cons.mpr ⟨lw_p25, fun _ h => absurd h List.not_mem_nil⟩⟩⟩⟩⟩⟩⟩⟩⟩⟩
def lw_privs : List (MethodName × Nat) := lw_privs_1 ++ (lw_privs_2)
def lw_tbl : List Cond := k2_sels lw_privs ++ tables_1
theorem lw_privs_ok : ∀ q ∈ lw_privs, lw_okq q := by
  show ∀ q ∈ lw_privs_1 ++ (lw_privs_2), lw_okq q
  exact List.forall_mem_append.mpr ⟨lw_r1, lw_r2⟩
-- the classes whose objects the world holds; the tables' good words; exceptions; texts; nest mates
def mj_F0 : u_T := fun k => match k with
  | 0 => ("ExplainDifference$Ledger", "rows", "[[I", true)
  | 1 => ("ExplainDifference$Ledger", "awaited", "[I", true)
  | 2 => ("ExplainDifference$Ledger", "tally", "[I", true)
  | 3 => ("ExplainDifference$Ledger", "acts", "I", false)
  | 4 => ("ExplainDifference$Ledger", "differences", "I", false)
  | 5 => ("ExplainDifference$Ledger", "windowFrom", "I", false)
  | _ => ("ExplainDifference$Ledger", "windowTo", "I", false)
def mj_F1 : u_T := fun k => match k with
  | 0 => ("ExplainDifference$Seeker", "choices", "[I", true)
  | 1 => ("ExplainDifference$Seeker", "workActs", "[I", true)
  | 2 => ("ExplainDifference$Seeker", "workChanges", "[I", true)
  | 3 => ("ExplainDifference$Seeker", "firstActs", "[I", true)
  | 4 => ("ExplainDifference$Seeker", "firstChanges", "[I", true)
  | 5 => ("ExplainDifference$Seeker", "uses", "[I", true)
  | 6 => ("ExplainDifference$Seeker", "choiceNumber", "I", false)
  | 7 => ("ExplainDifference$Seeker", "size", "I", false)
  | 8 => ("ExplainDifference$Seeker", "stepLimit", "I", false)
  | 9 => ("ExplainDifference$Seeker", "stepsDone", "I", false)
  | 10 => ("ExplainDifference$Seeker", "explanations", "I", false)
  | 11 => ("ExplainDifference$Seeker", "changes", "I", false)
  | _ => ("ExplainDifference$Seeker", "complete", "Z", false)
def mj_F2 : u_T := fun k => match k with
  | 0 => ("ExplainDifference", "ledger", "LExplainDifference$Ledger;", true)
  | _ => ("ExplainDifference", "seeker", "LExplainDifference$Seeker;", true)
def mj_F3 : u_T := fun k => match k with
  | 0 => ("ExplainDifferenceModel", "thrownCode", "I", false)
  | 1 => ("ExplainDifferenceModel", "acts", "I", false)
  | 2 => ("ExplainDifferenceModel", "kind", "[I", true)
  | 3 => ("ExplainDifferenceModel", "place", "[I", true)
  | 4 => ("ExplainDifferenceModel", "to", "[I", true)
  | 5 => ("ExplainDifferenceModel", "good", "[I", true)
  | 6 => ("ExplainDifferenceModel", "pieces", "[I", true)
  | 7 => ("ExplainDifferenceModel", "time", "[I", true)
  | 8 => ("ExplainDifferenceModel", "state", "[I", true)
  | 9 => ("ExplainDifferenceModel", "shut", "[Z", true)
  | 10 => ("ExplainDifferenceModel", "from", "I", false)
  | 11 => ("ExplainDifferenceModel", "until", "I", false)
  | 12 => ("ExplainDifferenceModel", "counts", "[I", true)
  | 13 => ("ExplainDifferenceModel", "wasExact", "Z", false)
  | 14 => ("ExplainDifferenceModel", "stepsNow", "I", false)
  | 15 => ("ExplainDifferenceModel", "tiesNow", "I", false)
  | 16 => ("ExplainDifferenceModel", "oftenNow", "[I", true)
  | 17 => ("ExplainDifferenceModel", "changes", "I", false)
  | 18 => ("ExplainDifferenceModel", "change", "[I", true)
  | 19 => ("ExplainDifferenceModel", "left", "[I", true)
  | 20 => ("ExplainDifferenceModel", "wrong", "I", false)
  | 21 => ("ExplainDifferenceModel", "candidates", "I", false)
  | 22 => ("ExplainDifferenceModel", "candidate", "[I", true)
  | 23 => ("ExplainDifferenceModel", "set", "[I", true)
  | _ => ("ExplainDifferenceModel", "placed", "[Z", true)
def vwCl : List vw_C := [("ExplainDifference$Ledger", mj_F0, 7), ("ExplainDifference$Seeker", mj_F1, 13), ("ExplainDifference", mj_F2, 2), ("ExplainDifferenceModel", mj_F3, 25)]
def mj_tbl : List Cond := lw_tbl.filter goodWord
def mj_xs : List (String × List String) := [("java/lang/IllegalArgumentException", ["java/lang/RuntimeException", "java/lang/Exception"]), ("java/lang/UnsupportedOperationException", ["java/lang/RuntimeException", "java/lang/Exception"]), ("java/util/NoSuchElementException", ["java/lang/RuntimeException", "java/lang/Exception"]), ("java/lang/IllegalStateException", ["java/lang/RuntimeException", "java/lang/Exception"]), ("java/lang/ArithmeticException", ["java/lang/RuntimeException", "java/lang/Exception"])]
def mj_xn (E : Nat) : String := (mj_xs.getD E ("", [])).1
def mj_strs : List (String × Nat × String) := [("ExplainDifference", 172, "a number is outside its range"), ("ExplainDifference", 162, "no room for another act"), ("ExplainDifference", 167, "there is no such act, difference or change"), ("ExplainDifference", 124, "no explanation that can be accepted"), ("ExplainDifference", 133, "the act is plain"), ("ExplainDifference", 141, "/ by zero")]
def mj_ncs : List (String × String) := [("java/lang/IllegalArgumentException", "java/lang/UnsupportedOperationException"), ("java/lang/IllegalArgumentException", "java/util/NoSuchElementException"), ("java/lang/IllegalArgumentException", "java/lang/IllegalStateException"), ("java/lang/IllegalArgumentException", "java/lang/ArithmeticException"), ("java/lang/UnsupportedOperationException", "java/lang/IllegalArgumentException"), ("java/lang/UnsupportedOperationException", "java/util/NoSuchElementException"), ("java/lang/UnsupportedOperationException", "java/lang/IllegalStateException"), ("java/lang/UnsupportedOperationException", "java/lang/ArithmeticException"), ("java/util/NoSuchElementException", "java/lang/IllegalArgumentException"), ("java/util/NoSuchElementException", "java/lang/UnsupportedOperationException"), ("java/util/NoSuchElementException", "java/lang/IllegalStateException"), ("java/util/NoSuchElementException", "java/lang/ArithmeticException"), ("java/lang/IllegalStateException", "java/lang/IllegalArgumentException"), ("java/lang/IllegalStateException", "java/lang/UnsupportedOperationException"), ("java/lang/IllegalStateException", "java/util/NoSuchElementException"), ("java/lang/IllegalStateException", "java/lang/ArithmeticException"), ("java/lang/ArithmeticException", "java/lang/IllegalArgumentException"), ("java/lang/ArithmeticException", "java/lang/UnsupportedOperationException"), ("java/lang/ArithmeticException", "java/util/NoSuchElementException"), ("java/lang/ArithmeticException", "java/lang/IllegalStateException")]
def mj_nest : List (String × Nat × MethodName × String) := [("ExplainDifference$Ledger", 72, ⟨"ExplainDifference", "isWithin", "(III)Z"⟩, "ExplainDifference"), ("ExplainDifference$Ledger", 44, ⟨"ExplainDifference", "cellOf", "(II)I"⟩, "ExplainDifference"), ("ExplainDifference$Ledger", 40, ⟨"ExplainDifference", "timesDone", "(I)I"⟩, "ExplainDifference")]
