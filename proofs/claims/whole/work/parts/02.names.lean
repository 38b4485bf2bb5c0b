-- ===== PART A: goes FIRST, ahead of the names: the tables' words, and 'selects' of the private methods out of them =====
/-- a private method of a class that the tables say can be made, by its rows of tables_1 -/
def lw_okq (q : MethodName × Nat) : Prop := (q.1.cls ≠ "java/lang/invoke/MethodHandle" ∧ q.1.cls ≠ "java/lang/invoke/VarHandle") ∧ Cond.instantiable q.1.cls q.2 ∈ tables_1 ∧ Cond.privateMethod q.1 ∈ tables_1 ∧ Cond.instanceMethod q.1 ∈ tables_1
theorem lw_p0 : lw_okq (⟨"ExplainDifference$Ledger", "differs", "(I)I"⟩, 7) := ⟨⟨by decide +kernel, by decide +kernel⟩, List.mem_of_getElem? (i := 25) (by decide +kernel), List.mem_of_getElem? (i := 148) (by decide +kernel), List.mem_of_getElem? (i := 149) (by decide +kernel)⟩
theorem lw_p1 : lw_okq (⟨"ExplainDifference$Ledger", "isAtCountedCell", "([I)Z"⟩, 7) := ⟨⟨by decide +kernel, by decide +kernel⟩, List.mem_of_getElem? (i := 25) (by decide +kernel), List.mem_of_getElem? (i := 170) (by decide +kernel), List.mem_of_getElem? (i := 171) (by decide +kernel)⟩
theorem lw_p2 : lw_okq (⟨"ExplainDifference$Ledger", "isCounted", "(I)Z"⟩, 7) := ⟨⟨by decide +kernel, by decide +kernel⟩, List.mem_of_getElem? (i := 25) (by decide +kernel), List.mem_of_getElem? (i := 177) (by decide +kernel), List.mem_of_getElem? (i := 178) (by decide +kernel)⟩
theorem lw_p3 : lw_okq (⟨"ExplainDifference", "needAct", "(IIII)V"⟩, 2) := ⟨⟨by decide +kernel, by decide +kernel⟩, List.mem_of_getElem? (i := 17) (by decide +kernel), List.mem_of_getElem? (i := 198) (by decide +kernel), List.mem_of_getElem? (i := 199) (by decide +kernel)⟩
theorem lw_p4 : lw_okq (⟨"java/lang/Throwable", "fillInStackTrace", "(I)Ljava/lang/Throwable;"⟩, 6) := ⟨⟨by decide +kernel, by decide +kernel⟩, List.mem_of_getElem? (i := 249) (by decide +kernel), List.mem_of_getElem? (i := 247) (by decide +kernel), List.mem_of_getElem? (i := 248) (by decide +kernel)⟩
theorem lw_p5 : lw_okq (⟨"ExplainDifference", "needRoom", "()V"⟩, 2) := ⟨⟨by decide +kernel, by decide +kernel⟩, List.mem_of_getElem? (i := 17) (by decide +kernel), List.mem_of_getElem? (i := 283) (by decide +kernel), List.mem_of_getElem? (i := 284) (by decide +kernel)⟩
theorem lw_p6 : lw_okq (⟨"ExplainDifference$Ledger", "shift", "(II)V"⟩, 7) := ⟨⟨by decide +kernel, by decide +kernel⟩, List.mem_of_getElem? (i := 25) (by decide +kernel), List.mem_of_getElem? (i := 311) (by decide +kernel), List.mem_of_getElem? (i := 312) (by decide +kernel)⟩
theorem lw_p7 : lw_okq (⟨"ExplainDifference$Seeker", "begin", "(I)V"⟩, 13) := ⟨⟨by decide +kernel, by decide +kernel⟩, List.mem_of_getElem? (i := 68) (by decide +kernel), List.mem_of_getElem? (i := 406) (by decide +kernel), List.mem_of_getElem? (i := 407) (by decide +kernel)⟩
theorem lw_p8 : lw_okq (⟨"ExplainDifference$Seeker", "gatherChoices", "(LExplainDifference$Ledger;)V"⟩, 13) := ⟨⟨by decide +kernel, by decide +kernel⟩, List.mem_of_getElem? (i := 68) (by decide +kernel), List.mem_of_getElem? (i := 411) (by decide +kernel), List.mem_of_getElem? (i := 412) (by decide +kernel)⟩
theorem lw_p9 : lw_okq (⟨"ExplainDifference$Seeker", "extend", "(LExplainDifference$Ledger;II)Z"⟩, 13) := ⟨⟨by decide +kernel, by decide +kernel⟩, List.mem_of_getElem? (i := 68) (by decide +kernel), List.mem_of_getElem? (i := 416) (by decide +kernel), List.mem_of_getElem? (i := 417) (by decide +kernel)⟩
theorem lw_p10 : lw_okq (⟨"ExplainDifference$Seeker", "note", "()V"⟩, 13) := ⟨⟨by decide +kernel, by decide +kernel⟩, List.mem_of_getElem? (i := 68) (by decide +kernel), List.mem_of_getElem? (i := 420) (by decide +kernel), List.mem_of_getElem? (i := 421) (by decide +kernel)⟩
theorem lw_p11 : lw_okq (⟨"ExplainDifference$Seeker", "attempt", "(LExplainDifference$Ledger;III)Z"⟩, 13) := ⟨⟨by decide +kernel, by decide +kernel⟩, List.mem_of_getElem? (i := 68) (by decide +kernel), List.mem_of_getElem? (i := 427) (by decide +kernel), List.mem_of_getElem? (i := 428) (by decide +kernel)⟩
theorem lw_p12 : lw_okq (⟨"ExplainDifferenceModel", "newAct", "(IIIIII)I"⟩, 25) := ⟨⟨by decide +kernel, by decide +kernel⟩, List.mem_of_getElem? (i := 541) (by decide +kernel), List.mem_of_getElem? (i := 632) (by decide +kernel), List.mem_of_getElem? (i := 633) (by decide +kernel)⟩
theorem lw_p13 : lw_okq (⟨"ExplainDifferenceModel", "noAct", "(I)Z"⟩, 25) := ⟨⟨by decide +kernel, by decide +kernel⟩, List.mem_of_getElem? (i := 541) (by decide +kernel), List.mem_of_getElem? (i := 651) (by decide +kernel), List.mem_of_getElem? (i := 652) (by decide +kernel)⟩
theorem lw_p14 : lw_okq (⟨"ExplainDifferenceModel", "howMany", "()I"⟩, 25) := ⟨⟨by decide +kernel, by decide +kernel⟩, List.mem_of_getElem? (i := 541) (by decide +kernel), List.mem_of_getElem? (i := 659) (by decide +kernel), List.mem_of_getElem? (i := 660) (by decide +kernel)⟩
theorem lw_p15 : lw_okq (⟨"ExplainDifferenceModel", "isCandidate", "(I)Z"⟩, 25) := ⟨⟨by decide +kernel, by decide +kernel⟩, List.mem_of_getElem? (i := 541) (by decide +kernel), List.mem_of_getElem? (i := 663) (by decide +kernel), List.mem_of_getElem? (i := 664) (by decide +kernel)⟩
def lw_privs_1 : List (MethodName × Nat) := [(⟨"ExplainDifference$Ledger", "differs", "(I)I"⟩, 7), (⟨"ExplainDifference$Ledger", "isAtCountedCell", "([I)Z"⟩, 7), (⟨"ExplainDifference$Ledger", "isCounted", "(I)Z"⟩, 7), (⟨"ExplainDifference", "needAct", "(IIII)V"⟩, 2), (⟨"java/lang/Throwable", "fillInStackTrace", "(I)Ljava/lang/Throwable;"⟩, 6), (⟨"ExplainDifference", "needRoom", "()V"⟩, 2), (⟨"ExplainDifference$Ledger", "shift", "(II)V"⟩, 7), (⟨"ExplainDifference$Seeker", "begin", "(I)V"⟩, 13), (⟨"ExplainDifference$Seeker", "gatherChoices", "(LExplainDifference$Ledger;)V"⟩, 13), (⟨"ExplainDifference$Seeker", "extend", "(LExplainDifference$Ledger;II)Z"⟩, 13), (⟨"ExplainDifference$Seeker", "note", "()V"⟩, 13), (⟨"ExplainDifference$Seeker", "attempt", "(LExplainDifference$Ledger;III)Z"⟩, 13), (⟨"ExplainDifferenceModel", "newAct", "(IIIIII)I"⟩, 25), (⟨"ExplainDifferenceModel", "noAct", "(I)Z"⟩, 25), (⟨"ExplainDifferenceModel", "howMany", "()I"⟩, 25), (⟨"ExplainDifferenceModel", "isCandidate", "(I)Z"⟩, 25)]
theorem lw_r1 : ∀ q ∈ lw_privs_1, lw_okq q := List.forall_mem_cons.mpr ⟨lw_p0, List.forall_mem_cons.mpr ⟨lw_p1, List.forall_mem_cons.mpr ⟨lw_p2, List.forall_mem_cons.mpr ⟨lw_p3, List.forall_mem_cons.mpr ⟨lw_p4, List.forall_mem_cons.mpr ⟨lw_p5, List.forall_mem_cons.mpr ⟨lw_p6, List.forall_mem_cons.mpr ⟨lw_p7, List.forall_mem_cons.mpr ⟨lw_p8, List.forall_mem_cons.mpr ⟨lw_p9, List.forall_mem_cons.mpr ⟨lw_p10, List.forall_mem_cons.mpr ⟨lw_p11, List.forall_mem_cons.mpr ⟨lw_p12, List.forall_mem_cons.mpr ⟨lw_p13, List.forall_mem_cons.mpr ⟨lw_p14, List.forall_mem_cons.mpr ⟨lw_p15, fun _ h => absurd h List.not_mem_nil⟩⟩⟩⟩⟩⟩⟩⟩⟩⟩⟩⟩⟩⟩⟩⟩
theorem lw_p16 : lw_okq (⟨"ExplainDifferenceModel", "differences", "()I"⟩, 25) := ⟨⟨by decide +kernel, by decide +kernel⟩, List.mem_of_getElem? (i := 541) (by decide +kernel), List.mem_of_getElem? (i := 672) (by decide +kernel), List.mem_of_getElem? (i := 673) (by decide +kernel)⟩
theorem lw_p17 : lw_okq (⟨"ExplainDifferenceModel", "differenceOf", "(I)I"⟩, 25) := ⟨⟨by decide +kernel, by decide +kernel⟩, List.mem_of_getElem? (i := 541) (by decide +kernel), List.mem_of_getElem? (i := 676) (by decide +kernel), List.mem_of_getElem? (i := 677) (by decide +kernel)⟩
theorem lw_p18 : lw_okq (⟨"ExplainDifferenceModel", "expectedOf", "(I)I"⟩, 25) := ⟨⟨by decide +kernel, by decide +kernel⟩, List.mem_of_getElem? (i := 541) (by decide +kernel), List.mem_of_getElem? (i := 680) (by decide +kernel), List.mem_of_getElem? (i := 681) (by decide +kernel)⟩
theorem lw_p19 : lw_okq (⟨"ExplainDifferenceModel", "times", "(I)I"⟩, 25) := ⟨⟨by decide +kernel, by decide +kernel⟩, List.mem_of_getElem? (i := 541) (by decide +kernel), List.mem_of_getElem? (i := 684) (by decide +kernel), List.mem_of_getElem? (i := 685) (by decide +kernel)⟩
theorem lw_p20 : lw_okq (⟨"ExplainDifferenceModel", "adds", "(II)I"⟩, 25) := ⟨⟨by decide +kernel, by decide +kernel⟩, List.mem_of_getElem? (i := 541) (by decide +kernel), List.mem_of_getElem? (i := 688) (by decide +kernel), List.mem_of_getElem? (i := 689) (by decide +kernel)⟩
theorem lw_p21 : lw_okq (⟨"ExplainDifferenceModel", "goThrough", "(II)Z"⟩, 25) := ⟨⟨by decide +kernel, by decide +kernel⟩, List.mem_of_getElem? (i := 541) (by decide +kernel), List.mem_of_getElem? (i := 704) (by decide +kernel), List.mem_of_getElem? (i := 705) (by decide +kernel)⟩
theorem lw_p22 : lw_okq (⟨"ExplainDifferenceModel", "apply", "(II)V"⟩, 25) := ⟨⟨by decide +kernel, by decide +kernel⟩, List.mem_of_getElem? (i := 541) (by decide +kernel), List.mem_of_getElem? (i := 708) (by decide +kernel), List.mem_of_getElem? (i := 709) (by decide +kernel)⟩
theorem lw_p23 : lw_okq (⟨"ExplainDifferenceModel", "add", "(II)V"⟩, 25) := ⟨⟨by decide +kernel, by decide +kernel⟩, List.mem_of_getElem? (i := 541) (by decide +kernel), List.mem_of_getElem? (i := 712) (by decide +kernel), List.mem_of_getElem? (i := 713) (by decide +kernel)⟩
theorem lw_p24 : lw_okq (⟨"ExplainDifferenceModel", "foundOne", "(I)V"⟩, 25) := ⟨⟨by decide +kernel, by decide +kernel⟩, List.mem_of_getElem? (i := 541) (by decide +kernel), List.mem_of_getElem? (i := 716) (by decide +kernel), List.mem_of_getElem? (i := 717) (by decide +kernel)⟩
theorem lw_p25 : lw_okq (⟨"ExplainDifferenceModel", "touches", "(II)Z"⟩, 25) := ⟨⟨by decide +kernel, by decide +kernel⟩, List.mem_of_getElem? (i := 541) (by decide +kernel), List.mem_of_getElem? (i := 761) (by decide +kernel), List.mem_of_getElem? (i := 762) (by decide +kernel)⟩
def lw_privs_2 : List (MethodName × Nat) := [(⟨"ExplainDifferenceModel", "differences", "()I"⟩, 25), (⟨"ExplainDifferenceModel", "differenceOf", "(I)I"⟩, 25), (⟨"ExplainDifferenceModel", "expectedOf", "(I)I"⟩, 25), (⟨"ExplainDifferenceModel", "times", "(I)I"⟩, 25), (⟨"ExplainDifferenceModel", "adds", "(II)I"⟩, 25), (⟨"ExplainDifferenceModel", "goThrough", "(II)Z"⟩, 25), (⟨"ExplainDifferenceModel", "apply", "(II)V"⟩, 25), (⟨"ExplainDifferenceModel", "add", "(II)V"⟩, 25), (⟨"ExplainDifferenceModel", "foundOne", "(I)V"⟩, 25), (⟨"ExplainDifferenceModel", "touches", "(II)Z"⟩, 25)]
theorem lw_r2 : ∀ q ∈ lw_privs_2, lw_okq q := List.forall_mem_cons.mpr ⟨lw_p16, List.forall_mem_cons.mpr ⟨lw_p17, List.forall_mem_cons.mpr ⟨lw_p18, List.forall_mem_cons.mpr ⟨lw_p19, List.forall_mem_cons.mpr ⟨lw_p20, List.forall_mem_cons.mpr ⟨lw_p21, List.forall_mem_cons.mpr ⟨lw_p22, List.forall_mem_cons.mpr ⟨lw_p23, List.forall_mem_cons.mpr ⟨lw_p24, List.forall_mem_cons.mpr ⟨lw_p25, fun _ h => absurd h List.not_mem_nil⟩⟩⟩⟩⟩⟩⟩⟩⟩⟩
def lw_privs : List (MethodName × Nat) := lw_privs_1 ++ (lw_privs_2)
def lw_tbl : List Cond := k2_sels lw_privs ++ tables_1
theorem lw_privs_ok : ∀ q ∈ lw_privs, lw_okq q := by
  show ∀ q ∈ lw_privs_1 ++ (lw_privs_2), lw_okq q
  exact List.forall_mem_append.mpr ⟨lw_r1, lw_r2⟩
-- the classes whose objects the world holds; the tables' good words; exceptions; texts; nest mates
def mj_F0 : u_T := fun k => match k with
  | 0 => ("ExplainDifference$Ledger", "rows", "[[I", true)
  | 1 => ("ExplainDifference$Ledger", "awaited", "[I", true)
  | 2 => ("ExplainDifference$Ledger", "tally", "[I", true)
  | 3 => ("ExplainDifference$Ledger", "acts", "I", false)
  | 4 => ("ExplainDifference$Ledger", "differences", "I", false)
  | 5 => ("ExplainDifference$Ledger", "windowFrom", "I", false)
  | _ => ("ExplainDifference$Ledger", "windowTo", "I", false)
def mj_F1 : u_T := fun k => match k with
  | 0 => ("ExplainDifference$Seeker", "choices", "[I", true)
  | 1 => ("ExplainDifference$Seeker", "workActs", "[I", true)
  | 2 => ("ExplainDifference$Seeker", "workChanges", "[I", true)
  | 3 => ("ExplainDifference$Seeker", "firstActs", "[I", true)
  | 4 => ("ExplainDifference$Seeker", "firstChanges", "[I", true)
  | 5 => ("ExplainDifference$Seeker", "uses", "[I", true)
  | 6 => ("ExplainDifference$Seeker", "choiceNumber", "I", false)
  | 7 => ("ExplainDifference$Seeker", "size", "I", false)
  | 8 => ("ExplainDifference$Seeker", "stepLimit", "I", false)
  | 9 => ("ExplainDifference$Seeker", "stepsDone", "I", false)
  | 10 => ("ExplainDifference$Seeker", "explanations", "I", false)
  | 11 => ("ExplainDifference$Seeker", "changes", "I", false)
  | _ => ("ExplainDifference$Seeker", "complete", "Z", false)
def mj_F2 : u_T := fun k => match k with
  | 0 => ("ExplainDifference", "ledger", "LExplainDifference$Ledger;", true)
  | _ => ("ExplainDifference", "seeker", "LExplainDifference$Seeker;", true)
def mj_F3 : u_T := fun k => match k with
  | 0 => ("ExplainDifferenceModel", "thrownCode", "I", false)
  | 1 => ("ExplainDifferenceModel", "acts", "I", false)
  | 2 => ("ExplainDifferenceModel", "kind", "[I", true)
  | 3 => ("ExplainDifferenceModel", "place", "[I", true)
  | 4 => ("ExplainDifferenceModel", "to", "[I", true)
  | 5 => ("ExplainDifferenceModel", "good", "[I", true)
  | 6 => ("ExplainDifferenceModel", "pieces", "[I", true)
  | 7 => ("ExplainDifferenceModel", "time", "[I", true)
  | 8 => ("ExplainDifferenceModel", "state", "[I", true)
  | 9 => ("ExplainDifferenceModel", "shut", "[Z", true)
  | 10 => ("ExplainDifferenceModel", "from", "I", false)
  | 11 => ("ExplainDifferenceModel", "until", "I", false)
  | 12 => ("ExplainDifferenceModel", "counts", "[I", true)
  | 13 => ("ExplainDifferenceModel", "wasExact", "Z", false)
  | 14 => ("ExplainDifferenceModel", "stepsNow", "I", false)
  | 15 => ("ExplainDifferenceModel", "tiesNow", "I", false)
  | 16 => ("ExplainDifferenceModel", "oftenNow", "[I", true)
  | 17 => ("ExplainDifferenceModel", "changes", "I", false)
  | 18 => ("ExplainDifferenceModel", "change", "[I", true)
  | 19 => ("ExplainDifferenceModel", "left", "[I", true)
  | 20 => ("ExplainDifferenceModel", "wrong", "I", false)
  | 21 => ("ExplainDifferenceModel", "candidates", "I", false)
  | 22 => ("ExplainDifferenceModel", "candidate", "[I", true)
  | 23 => ("ExplainDifferenceModel", "set", "[I", true)
  | _ => ("ExplainDifferenceModel", "placed", "[Z", true)
def vwCl : List vw_C := [("ExplainDifference$Ledger", mj_F0, 7), ("ExplainDifference$Seeker", mj_F1, 13), ("ExplainDifference", mj_F2, 2), ("ExplainDifferenceModel", mj_F3, 25)]
def mj_wF : List Cond := [(Jvm.Cond.fieldLink "ExplainDifference$Ledger" (11 : Nat) "ExplainDifference$Ledger" "rows" "[[I"),
  (Jvm.Cond.fieldLink "ExplainDifference" (50 : Nat) "ExplainDifference$Ledger" "rows" "[[I"),
  (Jvm.Cond.fieldLink "ExplainDifference$Seeker" (100 : Nat) "ExplainDifference$Ledger" "rows" "[[I"),
  (Jvm.Cond.fieldLink "ExplainDifference$Ledger" (16 : Nat) "ExplainDifference$Ledger" "awaited" "[I"),
  (Jvm.Cond.fieldLink "ExplainDifference" (81 : Nat) "ExplainDifference$Ledger" "awaited" "[I"),
  (Jvm.Cond.fieldLink "ExplainDifference$Ledger" (20 : Nat) "ExplainDifference$Ledger" "tally" "[I"),
  (Jvm.Cond.fieldLink "ExplainDifference$Ledger" (33 : Nat) "ExplainDifference$Ledger" "acts" "I"),
  (Jvm.Cond.fieldLink "ExplainDifference$Seeker" (76 : Nat) "ExplainDifference$Ledger" "acts" "I"),
  (Jvm.Cond.fieldLink "ExplainDifference" (42 : Nat) "ExplainDifference$Ledger" "acts" "I"),
  (Jvm.Cond.fieldLink "ExplainDifference$Seeker" (34 : Nat) "ExplainDifference$Ledger" "differences" "I"),
  (Jvm.Cond.fieldLink "ExplainDifference$Ledger" (54 : Nat) "ExplainDifference$Ledger" "differences" "I"),
  (Jvm.Cond.fieldLink "ExplainDifference" (78 : Nat) "ExplainDifference$Ledger" "differences" "I"),
  (Jvm.Cond.fieldLink "ExplainDifference" (58 : Nat) "ExplainDifference$Ledger" "windowFrom" "I"),
  (Jvm.Cond.fieldLink "ExplainDifference$Ledger" (69 : Nat) "ExplainDifference$Ledger" "windowFrom" "I"),
  (Jvm.Cond.fieldLink "ExplainDifference$Ledger" (29 : Nat) "ExplainDifference$Ledger" "windowTo" "I"),
  (Jvm.Cond.fieldLink "ExplainDifference" (61 : Nat) "ExplainDifference$Ledger" "windowTo" "I"),
  (Jvm.Cond.fieldLink "ExplainDifference$Seeker" (9 : Nat) "ExplainDifference$Seeker" "choices" "[I"),
  (Jvm.Cond.fieldLink "ExplainDifference$Seeker" (15 : Nat) "ExplainDifference$Seeker" "workActs" "[I"),
  (Jvm.Cond.fieldLink "ExplainDifference$Seeker" (18 : Nat) "ExplainDifference$Seeker" "workChanges" "[I"),
  (Jvm.Cond.fieldLink "ExplainDifference$Seeker" (21 : Nat) "ExplainDifference$Seeker" "firstActs" "[I"),
  (Jvm.Cond.fieldLink "ExplainDifference" (112 : Nat) "ExplainDifference$Seeker" "firstActs" "[I"),
  (Jvm.Cond.fieldLink "ExplainDifference$Seeker" (24 : Nat) "ExplainDifference$Seeker" "firstChanges" "[I"),
  (Jvm.Cond.fieldLink "ExplainDifference" (115 : Nat) "ExplainDifference$Seeker" "firstChanges" "[I"),
  (Jvm.Cond.fieldLink "ExplainDifference$Seeker" (27 : Nat) "ExplainDifference$Seeker" "uses" "[I"),
  (Jvm.Cond.fieldLink "ExplainDifference" (106 : Nat) "ExplainDifference$Seeker" "uses" "[I"),
  (Jvm.Cond.fieldLink "ExplainDifference$Seeker" (73 : Nat) "ExplainDifference$Seeker" "choiceNumber" "I"),
  (Jvm.Cond.fieldLink "ExplainDifference$Seeker" (51 : Nat) "ExplainDifference$Seeker" "size" "I"),
  (Jvm.Cond.fieldLink "ExplainDifference$Seeker" (61 : Nat) "ExplainDifference$Seeker" "stepLimit" "I"),
  (Jvm.Cond.fieldLink "ExplainDifference$Seeker" (64 : Nat) "ExplainDifference$Seeker" "stepsDone" "I"),
  (Jvm.Cond.fieldLink "ExplainDifference" (100 : Nat) "ExplainDifference$Seeker" "stepsDone" "I"),
  (Jvm.Cond.fieldLink "ExplainDifference$Seeker" (48 : Nat) "ExplainDifference$Seeker" "explanations" "I"),
  (Jvm.Cond.fieldLink "ExplainDifference" (103 : Nat) "ExplainDifference$Seeker" "explanations" "I"),
  (Jvm.Cond.fieldLink "ExplainDifference$Seeker" (58 : Nat) "ExplainDifference$Seeker" "changes" "I"),
  (Jvm.Cond.fieldLink "ExplainDifference" (109 : Nat) "ExplainDifference$Seeker" "changes" "I"),
  (Jvm.Cond.fieldLink "ExplainDifference$Seeker" (44 : Nat) "ExplainDifference$Seeker" "complete" "Z"),
  (Jvm.Cond.fieldLink "ExplainDifference" (96 : Nat) "ExplainDifference$Seeker" "complete" "Z"),
  (Jvm.Cond.fieldLink "ExplainDifference" (10 : Nat) "ExplainDifference" "ledger" "LExplainDifference$Ledger;"),
  (Jvm.Cond.fieldLink "ExplainDifference" (19 : Nat) "ExplainDifference" "seeker" "LExplainDifference$Seeker;"),
  (Jvm.Cond.fieldLink "java/lang/Throwable" (198 : Nat) "java/lang/Throwable" "backtrace" "Ljava/lang/Object;"),
  (Jvm.Cond.fieldLink "java/lang/Throwable" (13 : Nat) "java/lang/Throwable" "UNASSIGNED_STACK" "[Ljava/lang/StackTraceElement;"),
  (Jvm.Cond.fieldLink "java/lang/Throwable" (20 : Nat) "java/lang/Throwable" "SUPPRESSED_SENTINEL" "Ljava/util/List;"),
  (Jvm.Cond.fieldLink "java/lang/Throwable" (31 : Nat) "java/lang/Throwable" "detailMessage" "Ljava/lang/String;"),
  (Jvm.Cond.fieldLink "java/lang/Throwable" (7 : Nat) "java/lang/Throwable" "cause" "Ljava/lang/Throwable;"),
  (Jvm.Cond.fieldLink "java/lang/Throwable" (17 : Nat) "java/lang/Throwable" "stackTrace" "[Ljava/lang/StackTraceElement;"),
  (Jvm.Cond.fieldLink "java/lang/Throwable" (24 : Nat) "java/lang/Throwable" "suppressedExceptions" "Ljava/util/List;"),
  (Jvm.Cond.fieldLink "ExplainDifferenceModel" (7 : Nat) "ExplainDifferenceModel" "thrownCode" "I"),
  (Jvm.Cond.fieldLink "ExplainDifferenceModel" (13 : Nat) "ExplainDifferenceModel" "acts" "I"),
  (Jvm.Cond.fieldLink "ExplainDifferenceModel" (16 : Nat) "ExplainDifferenceModel" "kind" "[I"),
  (Jvm.Cond.fieldLink "ExplainDifferenceModel" (20 : Nat) "ExplainDifferenceModel" "place" "[I"),
  (Jvm.Cond.fieldLink "ExplainDifferenceModel" (23 : Nat) "ExplainDifferenceModel" "to" "[I"),
  (Jvm.Cond.fieldLink "ExplainDifferenceModel" (26 : Nat) "ExplainDifferenceModel" "good" "[I"),
  (Jvm.Cond.fieldLink "ExplainDifferenceModel" (29 : Nat) "ExplainDifferenceModel" "pieces" "[I"),
  (Jvm.Cond.fieldLink "ExplainDifferenceModel" (32 : Nat) "ExplainDifferenceModel" "time" "[I"),
  (Jvm.Cond.fieldLink "ExplainDifferenceModel" (35 : Nat) "ExplainDifferenceModel" "state" "[I"),
  (Jvm.Cond.fieldLink "ExplainDifferenceModel" (38 : Nat) "ExplainDifferenceModel" "shut" "[Z"),
  (Jvm.Cond.fieldLink "ExplainDifferenceModel" (42 : Nat) "ExplainDifferenceModel" "from" "I"),
  (Jvm.Cond.fieldLink "ExplainDifferenceModel" (45 : Nat) "ExplainDifferenceModel" "until" "I"),
  (Jvm.Cond.fieldLink "ExplainDifferenceModel" (48 : Nat) "ExplainDifferenceModel" "counts" "[I"),
  (Jvm.Cond.fieldLink "ExplainDifferenceModel" (51 : Nat) "ExplainDifferenceModel" "wasExact" "Z"),
  (Jvm.Cond.fieldLink "ExplainDifferenceModel" (55 : Nat) "ExplainDifferenceModel" "stepsNow" "I"),
  (Jvm.Cond.fieldLink "ExplainDifferenceModel" (58 : Nat) "ExplainDifferenceModel" "tiesNow" "I"),
  (Jvm.Cond.fieldLink "ExplainDifferenceModel" (61 : Nat) "ExplainDifferenceModel" "oftenNow" "[I"),
  (Jvm.Cond.fieldLink "ExplainDifferenceModel" (64 : Nat) "ExplainDifferenceModel" "changes" "I"),
  (Jvm.Cond.fieldLink "ExplainDifferenceModel" (67 : Nat) "ExplainDifferenceModel" "change" "[I"),
  (Jvm.Cond.fieldLink "ExplainDifferenceModel" (70 : Nat) "ExplainDifferenceModel" "left" "[I"),
  (Jvm.Cond.fieldLink "ExplainDifferenceModel" (73 : Nat) "ExplainDifferenceModel" "wrong" "I"),
  (Jvm.Cond.fieldLink "ExplainDifferenceModel" (76 : Nat) "ExplainDifferenceModel" "candidates" "I"),
  (Jvm.Cond.fieldLink "ExplainDifferenceModel" (79 : Nat) "ExplainDifferenceModel" "candidate" "[I"),
  (Jvm.Cond.fieldLink "ExplainDifferenceModel" (82 : Nat) "ExplainDifferenceModel" "set" "[I"),
  (Jvm.Cond.fieldLink "ExplainDifferenceModel" (85 : Nat) "ExplainDifferenceModel" "placed" "[Z")]
theorem mj_wF_p : mj_wF = ([61, 62, 63, 64, 65, 66, 67, 68, 69, 70, 71, 72, 73, 74, 75, 76, 99, 100, 101, 102, 103, 104, 105, 106, 107, 108, 109, 110, 111, 112, 113, 114, 115, 116, 117, 118, 146, 147, 255, 260, 262, 291, 292, 293, 294, 572, 573, 574, 575, 576, 577, 578, 579, 580, 581, 582, 583, 584, 585, 586, 587, 588, 589, 590, 591, 592, 593, 594, 595, 596] : List Nat).filterMap (fun i => lw_tbl[i]?) := by decide +kernel
theorem mj_wF_g : mj_wF.all goodWord = true := by decide +kernel
def mj_wM : List Cond := [(Jvm.Cond.methodLink "ExplainDifferenceLaw" (74 : Nat) ⟨"ExplainDifference", "<init>", "()V"⟩),
  (Jvm.Cond.methodLink "ExplainDifference" (1 : Nat) ⟨"java/lang/Object", "<init>", "()V"⟩),
  (Jvm.Cond.methodLink "ExplainDifference" (9 : Nat) ⟨"ExplainDifference$Ledger", "<init>", "()V"⟩),
  (Jvm.Cond.methodLink "ExplainDifference$Ledger" (3 : Nat) ⟨"java/lang/Object", "<init>", "()V"⟩),
  (Jvm.Cond.methodLink "ExplainDifference$Ledger" (23 : Nat) ⟨"java/util/Arrays", "fill", "([II)V"⟩),
  (Jvm.Cond.methodLink "ExplainDifference" (18 : Nat) ⟨"ExplainDifference$Seeker", "<init>", "()V"⟩),
  (Jvm.Cond.methodLink "ExplainDifference$Seeker" (3 : Nat) ⟨"java/lang/Object", "<init>", "()V"⟩),
  (Jvm.Cond.methodLink "ExplainDifferenceLaw" (115 : Nat) ⟨"ExplainDifference", "exact", "()Z"⟩),
  (Jvm.Cond.methodLink "ExplainDifferenceLaw" (120 : Nat) ⟨"ExplainDifference", "steps", "()I"⟩),
  (Jvm.Cond.methodLink "ExplainDifferenceLaw" (124 : Nat) ⟨"ExplainDifference", "ties", "()I"⟩),
  (Jvm.Cond.methodLink "ExplainDifferenceLaw" (151 : Nat) ⟨"ExplainDifference", "count", "(I)I"⟩),
  (Jvm.Cond.methodLink "ExplainDifference" (151 : Nat) ⟨"ExplainDifference$Ledger", "piecesOfDifferences", "()I"⟩),
  (Jvm.Cond.methodLink "ExplainDifference$Ledger" (51 : Nat) ⟨"ExplainDifference$Ledger", "differs", "(I)I"⟩),
  (Jvm.Cond.methodLink "ExplainDifference$Ledger" (57 : Nat) ⟨"ExplainDifference$Ledger", "gap", "(I)I"⟩),
  (Jvm.Cond.methodLink "ExplainDifference$Ledger" (60 : Nat) ⟨"java/lang/Math", "abs", "(I)I"⟩),
  (Jvm.Cond.methodLink "ExplainDifference" (64 : Nat) ⟨"ExplainDifference$Ledger", "candidates", "()I"⟩),
  (Jvm.Cond.methodLink "ExplainDifference$Ledger" (80 : Nat) ⟨"ExplainDifference$Ledger", "isCandidate", "(I)Z"⟩),
  (Jvm.Cond.methodLink "ExplainDifference$Ledger" (76 : Nat) ⟨"ExplainDifference$Ledger", "isAtCountedCell", "([I)Z"⟩),
  (Jvm.Cond.methodLink "ExplainDifference$Ledger" (65 : Nat) ⟨"ExplainDifference$Ledger", "isCounted", "(I)Z"⟩),
  (Jvm.Cond.methodLink "ExplainDifference" (54 : Nat) ⟨"ExplainDifference$Ledger", "actsWith", "(II)I"⟩),
  (Jvm.Cond.methodLink "ExplainDifference" (154 : Nat) ⟨"ExplainDifference$Ledger", "countedCells", "()I"⟩),
  (Jvm.Cond.methodLink "ExplainDifferenceLaw" (78 : Nat) ⟨"ExplainDifferenceLaw", "put", "(LExplainDifference;IIII[J)I"⟩),
  (Jvm.Cond.methodLink "ExplainDifferenceLaw" (7 : Nat) ⟨"ExplainDifference", "put", "(IIII)I"⟩),
  (Jvm.Cond.methodLink "ExplainDifference" (23 : Nat) ⟨"ExplainDifference", "needAct", "(IIII)V"⟩),
  (Jvm.Cond.methodLink "ExplainDifference" (68 : Nat) ⟨"ExplainDifference", "needCell", "(II)V"⟩),
  (Jvm.Cond.methodLink "ExplainDifference" (34 : Nat) ⟨"ExplainDifference", "isWithin", "(III)Z"⟩),
  (Jvm.Cond.methodLink "ExplainDifference" (38 : Nat) ⟨"ExplainDifference", "need", "(Z)V"⟩),
  (Jvm.Cond.methodLink "java/lang/Throwable" (1 : Nat) ⟨"java/lang/Object", "<init>", "()V"⟩),
  (Jvm.Cond.methodLink "java/lang/Throwable" (27 : Nat) ⟨"java/lang/Throwable", "fillInStackTrace", "()Ljava/lang/Throwable;"⟩),
  (Jvm.Cond.methodLink "java/lang/Throwable" (202 : Nat) ⟨"java/lang/Throwable", "fillInStackTrace", "(I)Ljava/lang/Throwable;"⟩),
  (Jvm.Cond.methodLink "ExplainDifference" (174 : Nat) ⟨"java/lang/IllegalArgumentException", "<init>", "(Ljava/lang/String;)V"⟩),
  (Jvm.Cond.methodLink "java/lang/IllegalArgumentException" (7 : Nat) ⟨"java/lang/RuntimeException", "<init>", "(Ljava/lang/String;)V"⟩),
  (Jvm.Cond.methodLink "java/lang/RuntimeException" (7 : Nat) ⟨"java/lang/Exception", "<init>", "(Ljava/lang/String;)V"⟩),
  (Jvm.Cond.methodLink "java/lang/Exception" (7 : Nat) ⟨"java/lang/Throwable", "<init>", "(Ljava/lang/String;)V"⟩),
  (Jvm.Cond.methodLink "ExplainDifference" (157 : Nat) ⟨"ExplainDifference$Ledger", "lastTime", "()I"⟩),
  (Jvm.Cond.methodLink "ExplainDifference" (27 : Nat) ⟨"ExplainDifference", "needRoom", "()V"⟩),
  (Jvm.Cond.methodLink "ExplainDifference" (164 : Nat) ⟨"java/lang/UnsupportedOperationException", "<init>", "(Ljava/lang/String;)V"⟩),
  (Jvm.Cond.methodLink "java/lang/UnsupportedOperationException" (7 : Nat) ⟨"java/lang/RuntimeException", "<init>", "(Ljava/lang/String;)V"⟩),
  (Jvm.Cond.methodLink "ExplainDifference" (30 : Nat) ⟨"ExplainDifference$Ledger", "add", "(IIIIII)I"⟩),
  (Jvm.Cond.methodLink "ExplainDifference$Ledger" (36 : Nat) ⟨"ExplainDifference$Ledger", "carry", "(II)V"⟩),
  (Jvm.Cond.methodLink "ExplainDifference$Ledger" (48 : Nat) ⟨"ExplainDifference$Ledger", "shift", "(II)V"⟩),
  (Jvm.Cond.methodLink "ExplainDifferenceLaw" (87 : Nat) ⟨"ExplainDifferenceLaw", "take", "(LExplainDifference;IIII[J)I"⟩),
  (Jvm.Cond.methodLink "ExplainDifferenceLaw" (17 : Nat) ⟨"ExplainDifference", "take", "(IIII)I"⟩),
  (Jvm.Cond.methodLink "ExplainDifferenceLaw" (90 : Nat) ⟨"ExplainDifferenceLaw", "move", "(LExplainDifference;IIIII[J)I"⟩),
  (Jvm.Cond.methodLink "ExplainDifferenceLaw" (20 : Nat) ⟨"ExplainDifference", "move", "(IIIII)I"⟩),
  (Jvm.Cond.methodLink "ExplainDifferenceLaw" (94 : Nat) ⟨"ExplainDifferenceLaw", "closed", "(LExplainDifference;IZ[J)I"⟩),
  (Jvm.Cond.methodLink "ExplainDifferenceLaw" (24 : Nat) ⟨"ExplainDifference", "closed", "(IZ)I"⟩),
  (Jvm.Cond.methodLink "ExplainDifference" (46 : Nat) ⟨"ExplainDifference", "needThere", "(II)V"⟩),
  (Jvm.Cond.methodLink "ExplainDifference" (169 : Nat) ⟨"java/util/NoSuchElementException", "<init>", "(Ljava/lang/String;)V"⟩),
  (Jvm.Cond.methodLink "java/util/NoSuchElementException" (13 : Nat) ⟨"java/lang/RuntimeException", "<init>", "(Ljava/lang/String;)V"⟩),
  (Jvm.Cond.methodLink "ExplainDifferenceLaw" (98 : Nat) ⟨"ExplainDifferenceLaw", "window", "(LExplainDifference;II[J)I"⟩),
  (Jvm.Cond.methodLink "ExplainDifferenceLaw" (30 : Nat) ⟨"ExplainDifference", "window", "(II)I"⟩),
  (Jvm.Cond.methodLink "ExplainDifferenceLaw" (102 : Nat) ⟨"ExplainDifferenceLaw", "counted", "(LExplainDifference;III[J)I"⟩),
  (Jvm.Cond.methodLink "ExplainDifferenceLaw" (34 : Nat) ⟨"ExplainDifference", "counted", "(III)I"⟩),
  (Jvm.Cond.methodLink "ExplainDifference" (72 : Nat) ⟨"ExplainDifference", "cellOf", "(II)I"⟩),
  (Jvm.Cond.methodLink "ExplainDifference" (75 : Nat) ⟨"ExplainDifference$Ledger", "tell", "(II)V"⟩),
  (Jvm.Cond.methodLink "ExplainDifferenceLaw" (106 : Nat) ⟨"ExplainDifferenceLaw", "expected", "(LExplainDifference;II[J)I"⟩),
  (Jvm.Cond.methodLink "ExplainDifferenceLaw" (38 : Nat) ⟨"ExplainDifference", "expected", "(II)I"⟩),
  (Jvm.Cond.methodLink "ExplainDifferenceLaw" (109 : Nat) ⟨"ExplainDifferenceLaw", "differ", "(LExplainDifference;II[J)I"⟩),
  (Jvm.Cond.methodLink "ExplainDifferenceLaw" (41 : Nat) ⟨"ExplainDifference", "differ", "(II)I"⟩),
  (Jvm.Cond.methodLink "ExplainDifference" (85 : Nat) ⟨"ExplainDifference$Ledger", "differingCell", "(I)I"⟩),
  (Jvm.Cond.methodLink "ExplainDifference" (89 : Nat) ⟨"ExplainDifference$Ledger", "gap", "(I)I"⟩),
  (Jvm.Cond.methodLink "ExplainDifferenceLaw" (112 : Nat) ⟨"ExplainDifferenceLaw", "search", "(LExplainDifference;II[J)I"⟩),
  (Jvm.Cond.methodLink "ExplainDifferenceLaw" (44 : Nat) ⟨"ExplainDifference", "search", "(II)I"⟩),
  (Jvm.Cond.methodLink "ExplainDifference" (92 : Nat) ⟨"ExplainDifference$Seeker", "seek", "(LExplainDifference$Ledger;II)I"⟩),
  (Jvm.Cond.methodLink "ExplainDifference$Seeker" (30 : Nat) ⟨"ExplainDifference$Seeker", "begin", "(I)V"⟩),
  (Jvm.Cond.methodLink "ExplainDifference$Seeker" (67 : Nat) ⟨"java/util/Arrays", "fill", "([II)V"⟩),
  (Jvm.Cond.methodLink "ExplainDifference$Seeker" (40 : Nat) ⟨"ExplainDifference$Seeker", "gatherChoices", "(LExplainDifference$Ledger;)V"⟩),
  (Jvm.Cond.methodLink "ExplainDifference$Seeker" (79 : Nat) ⟨"ExplainDifference$Ledger", "isCandidate", "(I)Z"⟩),
  (Jvm.Cond.methodLink "ExplainDifference$Seeker" (54 : Nat) ⟨"ExplainDifference$Seeker", "extend", "(LExplainDifference$Ledger;II)Z"⟩),
  (Jvm.Cond.methodLink "ExplainDifference$Seeker" (83 : Nat) ⟨"ExplainDifference$Seeker", "note", "()V"⟩),
  (Jvm.Cond.methodLink "ExplainDifference$Seeker" (94 : Nat) ⟨"java/lang/System", "arraycopy", "(Ljava/lang/Object;ILjava/lang/Object;II)V"⟩),
  (Jvm.Cond.methodLink "ExplainDifference$Seeker" (86 : Nat) ⟨"ExplainDifference$Seeker", "attempt", "(LExplainDifference$Ledger;III)Z"⟩),
  (Jvm.Cond.methodLink "ExplainDifference$Seeker" (90 : Nat) ⟨"ExplainDifference$Ledger", "carry", "(II)V"⟩),
  (Jvm.Cond.methodLink "ExplainDifferenceLaw" (128 : Nat) ⟨"ExplainDifferenceLaw", "often", "(LExplainDifference;I[J)I"⟩),
  (Jvm.Cond.methodLink "ExplainDifferenceLaw" (47 : Nat) ⟨"ExplainDifference", "often", "(I)I"⟩),
  (Jvm.Cond.methodLink "ExplainDifferenceLaw" (132 : Nat) ⟨"ExplainDifferenceLaw", "found", "(LExplainDifference;II[J)I"⟩),
  (Jvm.Cond.methodLink "ExplainDifferenceLaw" (51 : Nat) ⟨"ExplainDifference", "found", "(II)I"⟩),
  (Jvm.Cond.methodLink "ExplainDifferenceLaw" (135 : Nat) ⟨"ExplainDifferenceLaw", "accept", "(LExplainDifference;[J)I"⟩),
  (Jvm.Cond.methodLink "ExplainDifferenceLaw" (54 : Nat) ⟨"ExplainDifference", "accept", "()I"⟩),
  (Jvm.Cond.methodLink "ExplainDifference" (118 : Nat) ⟨"ExplainDifference$Seeker", "isOfPlainActs", "(LExplainDifference$Ledger;)Z"⟩),
  (Jvm.Cond.methodLink "ExplainDifference" (126 : Nat) ⟨"java/lang/IllegalStateException", "<init>", "(Ljava/lang/String;)V"⟩),
  (Jvm.Cond.methodLink "java/lang/IllegalStateException" (7 : Nat) ⟨"java/lang/RuntimeException", "<init>", "(Ljava/lang/String;)V"⟩),
  (Jvm.Cond.methodLink "ExplainDifference" (129 : Nat) ⟨"ExplainDifference$Seeker", "settle", "(LExplainDifference$Ledger;)V"⟩),
  (Jvm.Cond.methodLink "ExplainDifference$Seeker" (104 : Nat) ⟨"ExplainDifference$Ledger", "turn", "(II)V"⟩),
  (Jvm.Cond.methodLink "ExplainDifferenceLaw" (139 : Nat) ⟨"ExplainDifferenceLaw", "back", "(LExplainDifference;I[J)I"⟩),
  (Jvm.Cond.methodLink "ExplainDifferenceLaw" (60 : Nat) ⟨"ExplainDifference", "back", "(I)I"⟩),
  (Jvm.Cond.methodLink "ExplainDifference" (135 : Nat) ⟨"ExplainDifference$Ledger", "turn", "(II)V"⟩),
  (Jvm.Cond.methodLink "ExplainDifferenceLaw" (142 : Nat) ⟨"ExplainDifferenceLaw", "share", "(LExplainDifference;II[J)I"⟩),
  (Jvm.Cond.methodLink "ExplainDifferenceLaw" (63 : Nat) ⟨"ExplainDifference", "share", "(II)I"⟩),
  (Jvm.Cond.methodLink "ExplainDifference" (143 : Nat) ⟨"java/lang/ArithmeticException", "<init>", "(Ljava/lang/String;)V"⟩),
  (Jvm.Cond.methodLink "java/lang/ArithmeticException" (7 : Nat) ⟨"java/lang/RuntimeException", "<init>", "(Ljava/lang/String;)V"⟩),
  (Jvm.Cond.methodLink "ExplainDifferenceLaw" (145 : Nat) ⟨"ExplainDifferenceLaw", "told", "(LExplainDifference;II[J)I"⟩),
  (Jvm.Cond.methodLink "ExplainDifferenceLaw" (68 : Nat) ⟨"ExplainDifference", "told", "(II)I"⟩),
  (Jvm.Cond.methodLink "ExplainDifference" (144 : Nat) ⟨"ExplainDifference$Ledger", "isCandidate", "(I)Z"⟩),
  (Jvm.Cond.methodLink "ExplainDifferenceLaw" (148 : Nat) ⟨"ExplainDifferenceLaw", "of", "(LExplainDifference;III[J)I"⟩),
  (Jvm.Cond.methodLink "ExplainDifferenceLaw" (71 : Nat) ⟨"ExplainDifference", "of", "(III)I"⟩),
  (Jvm.Cond.methodLink "ExplainDifference" (148 : Nat) ⟨"ExplainDifference$Ledger", "actAt", "(II)I"⟩),
  (Jvm.Cond.methodLink "ExplainDifference$Ledger" (83 : Nat) ⟨"ExplainDifference$Ledger", "isAt", "([II)Z"⟩),
  (Jvm.Cond.methodLink "ExplainDifferenceLaw" (77 : Nat) ⟨"ExplainDifferenceModel", "<init>", "()V"⟩),
  (Jvm.Cond.methodLink "ExplainDifferenceModel" (1 : Nat) ⟨"java/lang/Object", "<init>", "()V"⟩),
  (Jvm.Cond.methodLink "ExplainDifferenceLaw" (84 : Nat) ⟨"ExplainDifferenceModel", "thrown", "()I"⟩),
  (Jvm.Cond.methodLink "ExplainDifferenceLaw" (83 : Nat) ⟨"ExplainDifferenceModel", "put", "(IIII)I"⟩),
  (Jvm.Cond.methodLink "ExplainDifferenceModel" (121 : Nat) ⟨"ExplainDifferenceModel", "newAct", "(IIIIII)I"⟩),
  (Jvm.Cond.methodLink "ExplainDifferenceModel" (117 : Nat) ⟨"ExplainDifferenceModel", "not", "(III)Z"⟩),
  (Jvm.Cond.methodLink "ExplainDifferenceLaw" (89 : Nat) ⟨"ExplainDifferenceModel", "take", "(IIII)I"⟩),
  (Jvm.Cond.methodLink "ExplainDifferenceLaw" (93 : Nat) ⟨"ExplainDifferenceModel", "move", "(IIIII)I"⟩),
  (Jvm.Cond.methodLink "ExplainDifferenceLaw" (97 : Nat) ⟨"ExplainDifferenceModel", "closed", "(IZ)I"⟩),
  (Jvm.Cond.methodLink "ExplainDifferenceModel" (125 : Nat) ⟨"ExplainDifferenceModel", "noAct", "(I)Z"⟩),
  (Jvm.Cond.methodLink "ExplainDifferenceLaw" (101 : Nat) ⟨"ExplainDifferenceModel", "window", "(II)I"⟩),
  (Jvm.Cond.methodLink "ExplainDifferenceModel" (128 : Nat) ⟨"ExplainDifferenceModel", "howMany", "()I"⟩),
  (Jvm.Cond.methodLink "ExplainDifferenceModel" (102 : Nat) ⟨"ExplainDifferenceModel", "isCandidate", "(I)Z"⟩),
  (Jvm.Cond.methodLink "ExplainDifferenceLaw" (105 : Nat) ⟨"ExplainDifferenceModel", "counted", "(III)I"⟩),
  (Jvm.Cond.methodLink "ExplainDifferenceModel" (133 : Nat) ⟨"ExplainDifferenceModel", "differences", "()I"⟩),
  (Jvm.Cond.methodLink "ExplainDifferenceModel" (99 : Nat) ⟨"ExplainDifferenceModel", "differenceOf", "(I)I"⟩),
  (Jvm.Cond.methodLink "ExplainDifferenceModel" (96 : Nat) ⟨"ExplainDifferenceModel", "expectedOf", "(I)I"⟩),
  (Jvm.Cond.methodLink "ExplainDifferenceModel" (88 : Nat) ⟨"ExplainDifferenceModel", "times", "(I)I"⟩),
  (Jvm.Cond.methodLink "ExplainDifferenceModel" (92 : Nat) ⟨"ExplainDifferenceModel", "adds", "(II)I"⟩),
  (Jvm.Cond.methodLink "ExplainDifferenceLaw" (108 : Nat) ⟨"ExplainDifferenceModel", "expected", "(II)I"⟩),
  (Jvm.Cond.methodLink "ExplainDifferenceLaw" (111 : Nat) ⟨"ExplainDifferenceModel", "differ", "(II)I"⟩),
  (Jvm.Cond.methodLink "ExplainDifferenceLaw" (114 : Nat) ⟨"ExplainDifferenceModel", "search", "(II)I"⟩),
  (Jvm.Cond.methodLink "ExplainDifferenceModel" (136 : Nat) ⟨"ExplainDifferenceModel", "goThrough", "(II)Z"⟩),
  (Jvm.Cond.methodLink "ExplainDifferenceModel" (110 : Nat) ⟨"ExplainDifferenceModel", "apply", "(II)V"⟩),
  (Jvm.Cond.methodLink "ExplainDifferenceModel" (106 : Nat) ⟨"ExplainDifferenceModel", "add", "(II)V"⟩),
  (Jvm.Cond.methodLink "ExplainDifferenceModel" (113 : Nat) ⟨"ExplainDifferenceModel", "foundOne", "(I)V"⟩),
  (Jvm.Cond.methodLink "ExplainDifferenceLaw" (119 : Nat) ⟨"ExplainDifferenceModel", "exact", "()Z"⟩),
  (Jvm.Cond.methodLink "ExplainDifferenceLaw" (123 : Nat) ⟨"ExplainDifferenceModel", "steps", "()I"⟩),
  (Jvm.Cond.methodLink "ExplainDifferenceLaw" (127 : Nat) ⟨"ExplainDifferenceModel", "ties", "()I"⟩),
  (Jvm.Cond.methodLink "ExplainDifferenceLaw" (131 : Nat) ⟨"ExplainDifferenceModel", "often", "(I)I"⟩),
  (Jvm.Cond.methodLink "ExplainDifferenceLaw" (134 : Nat) ⟨"ExplainDifferenceModel", "found", "(II)I"⟩),
  (Jvm.Cond.methodLink "ExplainDifferenceLaw" (138 : Nat) ⟨"ExplainDifferenceModel", "accept", "()I"⟩),
  (Jvm.Cond.methodLink "ExplainDifferenceLaw" (141 : Nat) ⟨"ExplainDifferenceModel", "back", "(I)I"⟩),
  (Jvm.Cond.methodLink "ExplainDifferenceLaw" (144 : Nat) ⟨"ExplainDifferenceModel", "share", "(II)I"⟩),
  (Jvm.Cond.methodLink "ExplainDifferenceLaw" (147 : Nat) ⟨"ExplainDifferenceModel", "told", "(II)I"⟩),
  (Jvm.Cond.methodLink "ExplainDifferenceLaw" (150 : Nat) ⟨"ExplainDifferenceModel", "of", "(III)I"⟩),
  (Jvm.Cond.methodLink "ExplainDifferenceModel" (141 : Nat) ⟨"ExplainDifferenceModel", "touches", "(II)Z"⟩),
  (Jvm.Cond.methodLink "ExplainDifferenceLaw" (154 : Nat) ⟨"ExplainDifferenceModel", "count", "(I)I"⟩)]
theorem mj_wM_p : mj_wM = ([44, 47, 52, 55, 58, 95, 98, 153, 157, 161, 165, 169, 173, 177, 181, 184, 188, 195, 202, 206, 210, 214, 219, 223, 227, 230, 231, 259, 264, 272, 278, 281, 284, 287, 304, 308, 322, 325, 328, 332, 336, 340, 343, 347, 350, 354, 358, 362, 375, 378, 381, 384, 388, 391, 396, 397, 401, 404, 408, 411, 415, 419, 420, 423, 427, 431, 435, 436, 440, 441, 445, 449, 452, 456, 457, 460, 464, 467, 471, 475, 479, 493, 496, 499, 503, 510, 513, 518, 519, 523, 538, 541, 544, 547, 551, 552, 555, 559, 563, 568, 571, 649, 653, 657, 661, 664, 668, 672, 676, 680, 684, 688, 692, 697, 701, 705, 709, 713, 717, 721, 725, 729, 733, 737, 741, 745, 749, 753, 757, 761, 765, 769, 773, 778, 782, 786, 790] : List Nat).filterMap (fun i => lw_tbl[i]?) := by decide +kernel
theorem mj_wM_g : mj_wM.all goodWord = true := by decide +kernel
def mj_wI : List Cond := [(Jvm.Cond.instanceMethod ⟨"ExplainDifference", "<init>", "()V"⟩),
  (Jvm.Cond.instanceMethod ⟨"java/lang/Object", "<init>", "()V"⟩),
  (Jvm.Cond.instanceMethod ⟨"ExplainDifference$Ledger", "<init>", "()V"⟩),
  (Jvm.Cond.instanceMethod ⟨"ExplainDifference$Seeker", "<init>", "()V"⟩),
  (Jvm.Cond.instanceMethod ⟨"ExplainDifference", "exact", "()Z"⟩),
  (Jvm.Cond.instanceMethod ⟨"ExplainDifference", "steps", "()I"⟩),
  (Jvm.Cond.instanceMethod ⟨"ExplainDifference", "ties", "()I"⟩),
  (Jvm.Cond.instanceMethod ⟨"ExplainDifference", "count", "(I)I"⟩),
  (Jvm.Cond.instanceMethod ⟨"ExplainDifference$Ledger", "piecesOfDifferences", "()I"⟩),
  (Jvm.Cond.instanceMethod ⟨"ExplainDifference$Ledger", "differs", "(I)I"⟩),
  (Jvm.Cond.instanceMethod ⟨"ExplainDifference$Ledger", "gap", "(I)I"⟩),
  (Jvm.Cond.instanceMethod ⟨"ExplainDifference$Ledger", "candidates", "()I"⟩),
  (Jvm.Cond.instanceMethod ⟨"ExplainDifference$Ledger", "isCandidate", "(I)Z"⟩),
  (Jvm.Cond.instanceMethod ⟨"ExplainDifference$Ledger", "isAtCountedCell", "([I)Z"⟩),
  (Jvm.Cond.instanceMethod ⟨"ExplainDifference$Ledger", "isCounted", "(I)Z"⟩),
  (Jvm.Cond.instanceMethod ⟨"ExplainDifference$Ledger", "actsWith", "(II)I"⟩),
  (Jvm.Cond.instanceMethod ⟨"ExplainDifference$Ledger", "countedCells", "()I"⟩),
  (Jvm.Cond.instanceMethod ⟨"ExplainDifference", "put", "(IIII)I"⟩),
  (Jvm.Cond.instanceMethod ⟨"ExplainDifference", "needAct", "(IIII)V"⟩),
  (Jvm.Cond.instanceMethod ⟨"java/lang/Throwable", "<init>", "()V"⟩),
  (Jvm.Cond.instanceMethod ⟨"java/lang/Throwable", "fillInStackTrace", "()Ljava/lang/Throwable;"⟩),
  (Jvm.Cond.instanceMethod ⟨"java/lang/Throwable", "fillInStackTrace", "(I)Ljava/lang/Throwable;"⟩),
  (Jvm.Cond.instanceMethod ⟨"java/lang/IllegalArgumentException", "<init>", "(Ljava/lang/String;)V"⟩),
  (Jvm.Cond.instanceMethod ⟨"java/lang/RuntimeException", "<init>", "(Ljava/lang/String;)V"⟩),
  (Jvm.Cond.instanceMethod ⟨"java/lang/Exception", "<init>", "(Ljava/lang/String;)V"⟩),
  (Jvm.Cond.instanceMethod ⟨"java/lang/Throwable", "<init>", "(Ljava/lang/String;)V"⟩),
  (Jvm.Cond.instanceMethod ⟨"ExplainDifference$Ledger", "lastTime", "()I"⟩),
  (Jvm.Cond.instanceMethod ⟨"ExplainDifference", "needRoom", "()V"⟩),
  (Jvm.Cond.instanceMethod ⟨"java/lang/UnsupportedOperationException", "<init>", "(Ljava/lang/String;)V"⟩),
  (Jvm.Cond.instanceMethod ⟨"ExplainDifference$Ledger", "add", "(IIIIII)I"⟩),
  (Jvm.Cond.instanceMethod ⟨"ExplainDifference$Ledger", "carry", "(II)V"⟩),
  (Jvm.Cond.instanceMethod ⟨"ExplainDifference$Ledger", "shift", "(II)V"⟩),
  (Jvm.Cond.instanceMethod ⟨"ExplainDifference", "take", "(IIII)I"⟩),
  (Jvm.Cond.instanceMethod ⟨"ExplainDifference", "move", "(IIIII)I"⟩),
  (Jvm.Cond.instanceMethod ⟨"ExplainDifference", "closed", "(IZ)I"⟩),
  (Jvm.Cond.instanceMethod ⟨"java/util/NoSuchElementException", "<init>", "(Ljava/lang/String;)V"⟩),
  (Jvm.Cond.instanceMethod ⟨"ExplainDifference", "window", "(II)I"⟩),
  (Jvm.Cond.instanceMethod ⟨"ExplainDifference", "counted", "(III)I"⟩),
  (Jvm.Cond.instanceMethod ⟨"ExplainDifference$Ledger", "tell", "(II)V"⟩),
  (Jvm.Cond.instanceMethod ⟨"ExplainDifference", "expected", "(II)I"⟩),
  (Jvm.Cond.instanceMethod ⟨"ExplainDifference", "differ", "(II)I"⟩),
  (Jvm.Cond.instanceMethod ⟨"ExplainDifference$Ledger", "differingCell", "(I)I"⟩),
  (Jvm.Cond.instanceMethod ⟨"ExplainDifference", "search", "(II)I"⟩),
  (Jvm.Cond.instanceMethod ⟨"ExplainDifference$Seeker", "seek", "(LExplainDifference$Ledger;II)I"⟩),
  (Jvm.Cond.instanceMethod ⟨"ExplainDifference$Seeker", "begin", "(I)V"⟩),
  (Jvm.Cond.instanceMethod ⟨"ExplainDifference$Seeker", "gatherChoices", "(LExplainDifference$Ledger;)V"⟩),
  (Jvm.Cond.instanceMethod ⟨"ExplainDifference$Seeker", "extend", "(LExplainDifference$Ledger;II)Z"⟩),
  (Jvm.Cond.instanceMethod ⟨"ExplainDifference$Seeker", "note", "()V"⟩),
  (Jvm.Cond.instanceMethod ⟨"ExplainDifference$Seeker", "attempt", "(LExplainDifference$Ledger;III)Z"⟩),
  (Jvm.Cond.instanceMethod ⟨"ExplainDifference", "often", "(I)I"⟩),
  (Jvm.Cond.instanceMethod ⟨"ExplainDifference", "found", "(II)I"⟩),
  (Jvm.Cond.instanceMethod ⟨"ExplainDifference", "accept", "()I"⟩),
  (Jvm.Cond.instanceMethod ⟨"ExplainDifference$Seeker", "isOfPlainActs", "(LExplainDifference$Ledger;)Z"⟩),
  (Jvm.Cond.instanceMethod ⟨"java/lang/IllegalStateException", "<init>", "(Ljava/lang/String;)V"⟩),
  (Jvm.Cond.instanceMethod ⟨"ExplainDifference$Seeker", "settle", "(LExplainDifference$Ledger;)V"⟩),
  (Jvm.Cond.instanceMethod ⟨"ExplainDifference$Ledger", "turn", "(II)V"⟩),
  (Jvm.Cond.instanceMethod ⟨"ExplainDifference", "back", "(I)I"⟩),
  (Jvm.Cond.instanceMethod ⟨"ExplainDifference", "share", "(II)I"⟩),
  (Jvm.Cond.instanceMethod ⟨"java/lang/ArithmeticException", "<init>", "(Ljava/lang/String;)V"⟩),
  (Jvm.Cond.instanceMethod ⟨"ExplainDifference", "told", "(II)I"⟩),
  (Jvm.Cond.instanceMethod ⟨"ExplainDifference", "of", "(III)I"⟩),
  (Jvm.Cond.instanceMethod ⟨"ExplainDifference$Ledger", "actAt", "(II)I"⟩),
  (Jvm.Cond.instanceMethod ⟨"ExplainDifferenceModel", "<init>", "()V"⟩),
  (Jvm.Cond.instanceMethod ⟨"ExplainDifferenceModel", "thrown", "()I"⟩),
  (Jvm.Cond.instanceMethod ⟨"ExplainDifferenceModel", "put", "(IIII)I"⟩),
  (Jvm.Cond.instanceMethod ⟨"ExplainDifferenceModel", "newAct", "(IIIIII)I"⟩),
  (Jvm.Cond.instanceMethod ⟨"ExplainDifferenceModel", "take", "(IIII)I"⟩),
  (Jvm.Cond.instanceMethod ⟨"ExplainDifferenceModel", "move", "(IIIII)I"⟩),
  (Jvm.Cond.instanceMethod ⟨"ExplainDifferenceModel", "closed", "(IZ)I"⟩),
  (Jvm.Cond.instanceMethod ⟨"ExplainDifferenceModel", "noAct", "(I)Z"⟩),
  (Jvm.Cond.instanceMethod ⟨"ExplainDifferenceModel", "window", "(II)I"⟩),
  (Jvm.Cond.instanceMethod ⟨"ExplainDifferenceModel", "howMany", "()I"⟩),
  (Jvm.Cond.instanceMethod ⟨"ExplainDifferenceModel", "isCandidate", "(I)Z"⟩),
  (Jvm.Cond.instanceMethod ⟨"ExplainDifferenceModel", "counted", "(III)I"⟩),
  (Jvm.Cond.instanceMethod ⟨"ExplainDifferenceModel", "differences", "()I"⟩),
  (Jvm.Cond.instanceMethod ⟨"ExplainDifferenceModel", "differenceOf", "(I)I"⟩),
  (Jvm.Cond.instanceMethod ⟨"ExplainDifferenceModel", "expectedOf", "(I)I"⟩),
  (Jvm.Cond.instanceMethod ⟨"ExplainDifferenceModel", "times", "(I)I"⟩),
  (Jvm.Cond.instanceMethod ⟨"ExplainDifferenceModel", "adds", "(II)I"⟩),
  (Jvm.Cond.instanceMethod ⟨"ExplainDifferenceModel", "expected", "(II)I"⟩),
  (Jvm.Cond.instanceMethod ⟨"ExplainDifferenceModel", "differ", "(II)I"⟩),
  (Jvm.Cond.instanceMethod ⟨"ExplainDifferenceModel", "search", "(II)I"⟩),
  (Jvm.Cond.instanceMethod ⟨"ExplainDifferenceModel", "goThrough", "(II)Z"⟩),
  (Jvm.Cond.instanceMethod ⟨"ExplainDifferenceModel", "apply", "(II)V"⟩),
  (Jvm.Cond.instanceMethod ⟨"ExplainDifferenceModel", "add", "(II)V"⟩),
  (Jvm.Cond.instanceMethod ⟨"ExplainDifferenceModel", "foundOne", "(I)V"⟩),
  (Jvm.Cond.instanceMethod ⟨"ExplainDifferenceModel", "exact", "()Z"⟩),
  (Jvm.Cond.instanceMethod ⟨"ExplainDifferenceModel", "steps", "()I"⟩),
  (Jvm.Cond.instanceMethod ⟨"ExplainDifferenceModel", "ties", "()I"⟩),
  (Jvm.Cond.instanceMethod ⟨"ExplainDifferenceModel", "often", "(I)I"⟩),
  (Jvm.Cond.instanceMethod ⟨"ExplainDifferenceModel", "found", "(II)I"⟩),
  (Jvm.Cond.instanceMethod ⟨"ExplainDifferenceModel", "accept", "()I"⟩),
  (Jvm.Cond.instanceMethod ⟨"ExplainDifferenceModel", "back", "(I)I"⟩),
  (Jvm.Cond.instanceMethod ⟨"ExplainDifferenceModel", "share", "(II)I"⟩),
  (Jvm.Cond.instanceMethod ⟨"ExplainDifferenceModel", "told", "(II)I"⟩),
  (Jvm.Cond.instanceMethod ⟨"ExplainDifferenceModel", "of", "(III)I"⟩),
  (Jvm.Cond.instanceMethod ⟨"ExplainDifferenceModel", "touches", "(II)Z"⟩),
  (Jvm.Cond.instanceMethod ⟨"ExplainDifferenceModel", "count", "(I)I"⟩)]
theorem mj_wI_p : mj_wI = ([45, 48, 53, 96, 154, 158, 162, 166, 170, 175, 178, 185, 189, 197, 204, 207, 211, 220, 225, 257, 265, 274, 279, 282, 285, 288, 305, 310, 323, 329, 333, 338, 344, 351, 359, 376, 385, 392, 398, 405, 412, 416, 424, 428, 433, 438, 443, 447, 454, 461, 468, 476, 480, 494, 500, 504, 514, 524, 539, 548, 556, 560, 569, 650, 654, 659, 665, 669, 673, 678, 681, 686, 690, 693, 699, 703, 707, 711, 715, 718, 722, 726, 731, 735, 739, 743, 746, 750, 754, 758, 762, 766, 770, 774, 779, 783, 788, 791] : List Nat).filterMap (fun i => lw_tbl[i]?) := by decide +kernel
theorem mj_wI_g : mj_wI.all goodWord = true := by decide +kernel
def mj_wS : List Cond := [(Jvm.Cond.selects "ExplainDifference$Ledger" ⟨"ExplainDifference$Ledger", "differs", "(I)I"⟩ ⟨"ExplainDifference$Ledger", "differs", "(I)I"⟩),
  (Jvm.Cond.selects "ExplainDifference$Ledger" ⟨"ExplainDifference$Ledger", "isAtCountedCell", "([I)Z"⟩ ⟨"ExplainDifference$Ledger", "isAtCountedCell", "([I)Z"⟩),
  (Jvm.Cond.selects "ExplainDifference$Ledger" ⟨"ExplainDifference$Ledger", "isCounted", "(I)Z"⟩ ⟨"ExplainDifference$Ledger", "isCounted", "(I)Z"⟩),
  (Jvm.Cond.selects "ExplainDifference" ⟨"ExplainDifference", "needAct", "(IIII)V"⟩ ⟨"ExplainDifference", "needAct", "(IIII)V"⟩),
  (Jvm.Cond.selects "java/lang/Throwable" ⟨"java/lang/Throwable", "fillInStackTrace", "(I)Ljava/lang/Throwable;"⟩ ⟨"java/lang/Throwable", "fillInStackTrace", "(I)Ljava/lang/Throwable;"⟩),
  (Jvm.Cond.selects "ExplainDifference" ⟨"ExplainDifference", "needRoom", "()V"⟩ ⟨"ExplainDifference", "needRoom", "()V"⟩),
  (Jvm.Cond.selects "ExplainDifference$Ledger" ⟨"ExplainDifference$Ledger", "shift", "(II)V"⟩ ⟨"ExplainDifference$Ledger", "shift", "(II)V"⟩),
  (Jvm.Cond.selects "ExplainDifference$Seeker" ⟨"ExplainDifference$Seeker", "begin", "(I)V"⟩ ⟨"ExplainDifference$Seeker", "begin", "(I)V"⟩),
  (Jvm.Cond.selects "ExplainDifference$Seeker" ⟨"ExplainDifference$Seeker", "gatherChoices", "(LExplainDifference$Ledger;)V"⟩ ⟨"ExplainDifference$Seeker", "gatherChoices", "(LExplainDifference$Ledger;)V"⟩),
  (Jvm.Cond.selects "ExplainDifference$Seeker" ⟨"ExplainDifference$Seeker", "extend", "(LExplainDifference$Ledger;II)Z"⟩ ⟨"ExplainDifference$Seeker", "extend", "(LExplainDifference$Ledger;II)Z"⟩),
  (Jvm.Cond.selects "ExplainDifference$Seeker" ⟨"ExplainDifference$Seeker", "note", "()V"⟩ ⟨"ExplainDifference$Seeker", "note", "()V"⟩),
  (Jvm.Cond.selects "ExplainDifference$Seeker" ⟨"ExplainDifference$Seeker", "attempt", "(LExplainDifference$Ledger;III)Z"⟩ ⟨"ExplainDifference$Seeker", "attempt", "(LExplainDifference$Ledger;III)Z"⟩),
  (Jvm.Cond.selects "ExplainDifferenceModel" ⟨"ExplainDifferenceModel", "newAct", "(IIIIII)I"⟩ ⟨"ExplainDifferenceModel", "newAct", "(IIIIII)I"⟩),
  (Jvm.Cond.selects "ExplainDifferenceModel" ⟨"ExplainDifferenceModel", "noAct", "(I)Z"⟩ ⟨"ExplainDifferenceModel", "noAct", "(I)Z"⟩),
  (Jvm.Cond.selects "ExplainDifferenceModel" ⟨"ExplainDifferenceModel", "howMany", "()I"⟩ ⟨"ExplainDifferenceModel", "howMany", "()I"⟩),
  (Jvm.Cond.selects "ExplainDifferenceModel" ⟨"ExplainDifferenceModel", "isCandidate", "(I)Z"⟩ ⟨"ExplainDifferenceModel", "isCandidate", "(I)Z"⟩),
  (Jvm.Cond.selects "ExplainDifferenceModel" ⟨"ExplainDifferenceModel", "differences", "()I"⟩ ⟨"ExplainDifferenceModel", "differences", "()I"⟩),
  (Jvm.Cond.selects "ExplainDifferenceModel" ⟨"ExplainDifferenceModel", "differenceOf", "(I)I"⟩ ⟨"ExplainDifferenceModel", "differenceOf", "(I)I"⟩),
  (Jvm.Cond.selects "ExplainDifferenceModel" ⟨"ExplainDifferenceModel", "expectedOf", "(I)I"⟩ ⟨"ExplainDifferenceModel", "expectedOf", "(I)I"⟩),
  (Jvm.Cond.selects "ExplainDifferenceModel" ⟨"ExplainDifferenceModel", "times", "(I)I"⟩ ⟨"ExplainDifferenceModel", "times", "(I)I"⟩),
  (Jvm.Cond.selects "ExplainDifferenceModel" ⟨"ExplainDifferenceModel", "adds", "(II)I"⟩ ⟨"ExplainDifferenceModel", "adds", "(II)I"⟩),
  (Jvm.Cond.selects "ExplainDifferenceModel" ⟨"ExplainDifferenceModel", "goThrough", "(II)Z"⟩ ⟨"ExplainDifferenceModel", "goThrough", "(II)Z"⟩),
  (Jvm.Cond.selects "ExplainDifferenceModel" ⟨"ExplainDifferenceModel", "apply", "(II)V"⟩ ⟨"ExplainDifferenceModel", "apply", "(II)V"⟩),
  (Jvm.Cond.selects "ExplainDifferenceModel" ⟨"ExplainDifferenceModel", "add", "(II)V"⟩ ⟨"ExplainDifferenceModel", "add", "(II)V"⟩),
  (Jvm.Cond.selects "ExplainDifferenceModel" ⟨"ExplainDifferenceModel", "foundOne", "(I)V"⟩ ⟨"ExplainDifferenceModel", "foundOne", "(I)V"⟩),
  (Jvm.Cond.selects "ExplainDifferenceModel" ⟨"ExplainDifferenceModel", "touches", "(II)Z"⟩ ⟨"ExplainDifferenceModel", "touches", "(II)Z"⟩),
  (Jvm.Cond.selects "ExplainDifference" ⟨"ExplainDifference", "exact", "()Z"⟩ ⟨"ExplainDifference", "exact", "()Z"⟩),
  (Jvm.Cond.selects "ExplainDifference" ⟨"ExplainDifference", "steps", "()I"⟩ ⟨"ExplainDifference", "steps", "()I"⟩),
  (Jvm.Cond.selects "ExplainDifference" ⟨"ExplainDifference", "ties", "()I"⟩ ⟨"ExplainDifference", "ties", "()I"⟩),
  (Jvm.Cond.selects "ExplainDifference" ⟨"ExplainDifference", "count", "(I)I"⟩ ⟨"ExplainDifference", "count", "(I)I"⟩),
  (Jvm.Cond.selects "ExplainDifference$Ledger" ⟨"ExplainDifference$Ledger", "piecesOfDifferences", "()I"⟩ ⟨"ExplainDifference$Ledger", "piecesOfDifferences", "()I"⟩),
  (Jvm.Cond.selects "ExplainDifference$Ledger" ⟨"ExplainDifference$Ledger", "gap", "(I)I"⟩ ⟨"ExplainDifference$Ledger", "gap", "(I)I"⟩),
  (Jvm.Cond.selects "ExplainDifference$Ledger" ⟨"ExplainDifference$Ledger", "candidates", "()I"⟩ ⟨"ExplainDifference$Ledger", "candidates", "()I"⟩),
  (Jvm.Cond.selects "ExplainDifference$Ledger" ⟨"ExplainDifference$Ledger", "isCandidate", "(I)Z"⟩ ⟨"ExplainDifference$Ledger", "isCandidate", "(I)Z"⟩),
  (Jvm.Cond.selects "ExplainDifference$Ledger" ⟨"ExplainDifference$Ledger", "actsWith", "(II)I"⟩ ⟨"ExplainDifference$Ledger", "actsWith", "(II)I"⟩),
  (Jvm.Cond.selects "ExplainDifference$Ledger" ⟨"ExplainDifference$Ledger", "countedCells", "()I"⟩ ⟨"ExplainDifference$Ledger", "countedCells", "()I"⟩),
  (Jvm.Cond.selects "ExplainDifference" ⟨"ExplainDifference", "put", "(IIII)I"⟩ ⟨"ExplainDifference", "put", "(IIII)I"⟩),
  (Jvm.Cond.selects "java/lang/IllegalArgumentException" ⟨"java/lang/Throwable", "fillInStackTrace", "(I)Ljava/lang/Throwable;"⟩ ⟨"java/lang/Throwable", "fillInStackTrace", "(I)Ljava/lang/Throwable;"⟩),
  (Jvm.Cond.selects "java/lang/IllegalArgumentException" ⟨"java/lang/Throwable", "fillInStackTrace", "()Ljava/lang/Throwable;"⟩ ⟨"java/lang/Throwable", "fillInStackTrace", "()Ljava/lang/Throwable;"⟩),
  (Jvm.Cond.selects "java/lang/ArithmeticException" ⟨"java/lang/Throwable", "fillInStackTrace", "()Ljava/lang/Throwable;"⟩ ⟨"java/lang/Throwable", "fillInStackTrace", "()Ljava/lang/Throwable;"⟩),
  (Jvm.Cond.selects "java/lang/IllegalStateException" ⟨"java/lang/Throwable", "fillInStackTrace", "()Ljava/lang/Throwable;"⟩ ⟨"java/lang/Throwable", "fillInStackTrace", "()Ljava/lang/Throwable;"⟩),
  (Jvm.Cond.selects "java/lang/UnsupportedOperationException" ⟨"java/lang/Throwable", "fillInStackTrace", "()Ljava/lang/Throwable;"⟩ ⟨"java/lang/Throwable", "fillInStackTrace", "()Ljava/lang/Throwable;"⟩),
  (Jvm.Cond.selects "java/util/NoSuchElementException" ⟨"java/lang/Throwable", "fillInStackTrace", "()Ljava/lang/Throwable;"⟩ ⟨"java/lang/Throwable", "fillInStackTrace", "()Ljava/lang/Throwable;"⟩),
  (Jvm.Cond.selects "ExplainDifference$Ledger" ⟨"ExplainDifference$Ledger", "lastTime", "()I"⟩ ⟨"ExplainDifference$Ledger", "lastTime", "()I"⟩),
  (Jvm.Cond.selects "java/lang/UnsupportedOperationException" ⟨"java/lang/Throwable", "fillInStackTrace", "(I)Ljava/lang/Throwable;"⟩ ⟨"java/lang/Throwable", "fillInStackTrace", "(I)Ljava/lang/Throwable;"⟩),
  (Jvm.Cond.selects "ExplainDifference$Ledger" ⟨"ExplainDifference$Ledger", "add", "(IIIIII)I"⟩ ⟨"ExplainDifference$Ledger", "add", "(IIIIII)I"⟩),
  (Jvm.Cond.selects "ExplainDifference$Ledger" ⟨"ExplainDifference$Ledger", "carry", "(II)V"⟩ ⟨"ExplainDifference$Ledger", "carry", "(II)V"⟩),
  (Jvm.Cond.selects "ExplainDifference" ⟨"ExplainDifference", "take", "(IIII)I"⟩ ⟨"ExplainDifference", "take", "(IIII)I"⟩),
  (Jvm.Cond.selects "ExplainDifference" ⟨"ExplainDifference", "move", "(IIIII)I"⟩ ⟨"ExplainDifference", "move", "(IIIII)I"⟩),
  (Jvm.Cond.selects "ExplainDifference" ⟨"ExplainDifference", "closed", "(IZ)I"⟩ ⟨"ExplainDifference", "closed", "(IZ)I"⟩),
  (Jvm.Cond.selects "java/util/NoSuchElementException" ⟨"java/lang/Throwable", "fillInStackTrace", "(I)Ljava/lang/Throwable;"⟩ ⟨"java/lang/Throwable", "fillInStackTrace", "(I)Ljava/lang/Throwable;"⟩),
  (Jvm.Cond.selects "ExplainDifference" ⟨"ExplainDifference", "window", "(II)I"⟩ ⟨"ExplainDifference", "window", "(II)I"⟩),
  (Jvm.Cond.selects "ExplainDifference" ⟨"ExplainDifference", "counted", "(III)I"⟩ ⟨"ExplainDifference", "counted", "(III)I"⟩),
  (Jvm.Cond.selects "ExplainDifference$Ledger" ⟨"ExplainDifference$Ledger", "tell", "(II)V"⟩ ⟨"ExplainDifference$Ledger", "tell", "(II)V"⟩),
  (Jvm.Cond.selects "ExplainDifference" ⟨"ExplainDifference", "expected", "(II)I"⟩ ⟨"ExplainDifference", "expected", "(II)I"⟩),
  (Jvm.Cond.selects "ExplainDifference" ⟨"ExplainDifference", "differ", "(II)I"⟩ ⟨"ExplainDifference", "differ", "(II)I"⟩),
  (Jvm.Cond.selects "ExplainDifference$Ledger" ⟨"ExplainDifference$Ledger", "differingCell", "(I)I"⟩ ⟨"ExplainDifference$Ledger", "differingCell", "(I)I"⟩),
  (Jvm.Cond.selects "ExplainDifference" ⟨"ExplainDifference", "search", "(II)I"⟩ ⟨"ExplainDifference", "search", "(II)I"⟩),
  (Jvm.Cond.selects "ExplainDifference$Seeker" ⟨"ExplainDifference$Seeker", "seek", "(LExplainDifference$Ledger;II)I"⟩ ⟨"ExplainDifference$Seeker", "seek", "(LExplainDifference$Ledger;II)I"⟩),
  (Jvm.Cond.selects "ExplainDifference" ⟨"ExplainDifference", "often", "(I)I"⟩ ⟨"ExplainDifference", "often", "(I)I"⟩),
  (Jvm.Cond.selects "ExplainDifference" ⟨"ExplainDifference", "found", "(II)I"⟩ ⟨"ExplainDifference", "found", "(II)I"⟩),
  (Jvm.Cond.selects "ExplainDifference" ⟨"ExplainDifference", "accept", "()I"⟩ ⟨"ExplainDifference", "accept", "()I"⟩),
  (Jvm.Cond.selects "ExplainDifference$Seeker" ⟨"ExplainDifference$Seeker", "isOfPlainActs", "(LExplainDifference$Ledger;)Z"⟩ ⟨"ExplainDifference$Seeker", "isOfPlainActs", "(LExplainDifference$Ledger;)Z"⟩),
  (Jvm.Cond.selects "java/lang/IllegalStateException" ⟨"java/lang/Throwable", "fillInStackTrace", "(I)Ljava/lang/Throwable;"⟩ ⟨"java/lang/Throwable", "fillInStackTrace", "(I)Ljava/lang/Throwable;"⟩),
  (Jvm.Cond.selects "ExplainDifference$Seeker" ⟨"ExplainDifference$Seeker", "settle", "(LExplainDifference$Ledger;)V"⟩ ⟨"ExplainDifference$Seeker", "settle", "(LExplainDifference$Ledger;)V"⟩),
  (Jvm.Cond.selects "ExplainDifference$Ledger" ⟨"ExplainDifference$Ledger", "turn", "(II)V"⟩ ⟨"ExplainDifference$Ledger", "turn", "(II)V"⟩),
  (Jvm.Cond.selects "ExplainDifference" ⟨"ExplainDifference", "back", "(I)I"⟩ ⟨"ExplainDifference", "back", "(I)I"⟩),
  (Jvm.Cond.selects "ExplainDifference" ⟨"ExplainDifference", "share", "(II)I"⟩ ⟨"ExplainDifference", "share", "(II)I"⟩),
  (Jvm.Cond.selects "java/lang/ArithmeticException" ⟨"java/lang/Throwable", "fillInStackTrace", "(I)Ljava/lang/Throwable;"⟩ ⟨"java/lang/Throwable", "fillInStackTrace", "(I)Ljava/lang/Throwable;"⟩),
  (Jvm.Cond.selects "ExplainDifference" ⟨"ExplainDifference", "told", "(II)I"⟩ ⟨"ExplainDifference", "told", "(II)I"⟩),
  (Jvm.Cond.selects "ExplainDifference" ⟨"ExplainDifference", "of", "(III)I"⟩ ⟨"ExplainDifference", "of", "(III)I"⟩),
  (Jvm.Cond.selects "ExplainDifference$Ledger" ⟨"ExplainDifference$Ledger", "actAt", "(II)I"⟩ ⟨"ExplainDifference$Ledger", "actAt", "(II)I"⟩),
  (Jvm.Cond.selects "ExplainDifferenceModel" ⟨"ExplainDifferenceModel", "thrown", "()I"⟩ ⟨"ExplainDifferenceModel", "thrown", "()I"⟩),
  (Jvm.Cond.selects "ExplainDifferenceModel" ⟨"ExplainDifferenceModel", "put", "(IIII)I"⟩ ⟨"ExplainDifferenceModel", "put", "(IIII)I"⟩),
  (Jvm.Cond.selects "ExplainDifferenceModel" ⟨"ExplainDifferenceModel", "take", "(IIII)I"⟩ ⟨"ExplainDifferenceModel", "take", "(IIII)I"⟩),
  (Jvm.Cond.selects "ExplainDifferenceModel" ⟨"ExplainDifferenceModel", "move", "(IIIII)I"⟩ ⟨"ExplainDifferenceModel", "move", "(IIIII)I"⟩),
  (Jvm.Cond.selects "ExplainDifferenceModel" ⟨"ExplainDifferenceModel", "closed", "(IZ)I"⟩ ⟨"ExplainDifferenceModel", "closed", "(IZ)I"⟩),
  (Jvm.Cond.selects "ExplainDifferenceModel" ⟨"ExplainDifferenceModel", "window", "(II)I"⟩ ⟨"ExplainDifferenceModel", "window", "(II)I"⟩),
  (Jvm.Cond.selects "ExplainDifferenceModel" ⟨"ExplainDifferenceModel", "counted", "(III)I"⟩ ⟨"ExplainDifferenceModel", "counted", "(III)I"⟩),
  (Jvm.Cond.selects "ExplainDifferenceModel" ⟨"ExplainDifferenceModel", "expected", "(II)I"⟩ ⟨"ExplainDifferenceModel", "expected", "(II)I"⟩),
  (Jvm.Cond.selects "ExplainDifferenceModel" ⟨"ExplainDifferenceModel", "differ", "(II)I"⟩ ⟨"ExplainDifferenceModel", "differ", "(II)I"⟩),
  (Jvm.Cond.selects "ExplainDifferenceModel" ⟨"ExplainDifferenceModel", "search", "(II)I"⟩ ⟨"ExplainDifferenceModel", "search", "(II)I"⟩),
  (Jvm.Cond.selects "ExplainDifferenceModel" ⟨"ExplainDifferenceModel", "exact", "()Z"⟩ ⟨"ExplainDifferenceModel", "exact", "()Z"⟩),
  (Jvm.Cond.selects "ExplainDifferenceModel" ⟨"ExplainDifferenceModel", "steps", "()I"⟩ ⟨"ExplainDifferenceModel", "steps", "()I"⟩),
  (Jvm.Cond.selects "ExplainDifferenceModel" ⟨"ExplainDifferenceModel", "ties", "()I"⟩ ⟨"ExplainDifferenceModel", "ties", "()I"⟩),
  (Jvm.Cond.selects "ExplainDifferenceModel" ⟨"ExplainDifferenceModel", "often", "(I)I"⟩ ⟨"ExplainDifferenceModel", "often", "(I)I"⟩),
  (Jvm.Cond.selects "ExplainDifferenceModel" ⟨"ExplainDifferenceModel", "found", "(II)I"⟩ ⟨"ExplainDifferenceModel", "found", "(II)I"⟩),
  (Jvm.Cond.selects "ExplainDifferenceModel" ⟨"ExplainDifferenceModel", "accept", "()I"⟩ ⟨"ExplainDifferenceModel", "accept", "()I"⟩),
  (Jvm.Cond.selects "ExplainDifferenceModel" ⟨"ExplainDifferenceModel", "back", "(I)I"⟩ ⟨"ExplainDifferenceModel", "back", "(I)I"⟩),
  (Jvm.Cond.selects "ExplainDifferenceModel" ⟨"ExplainDifferenceModel", "share", "(II)I"⟩ ⟨"ExplainDifferenceModel", "share", "(II)I"⟩),
  (Jvm.Cond.selects "ExplainDifferenceModel" ⟨"ExplainDifferenceModel", "told", "(II)I"⟩ ⟨"ExplainDifferenceModel", "told", "(II)I"⟩),
  (Jvm.Cond.selects "ExplainDifferenceModel" ⟨"ExplainDifferenceModel", "of", "(III)I"⟩ ⟨"ExplainDifferenceModel", "of", "(III)I"⟩),
  (Jvm.Cond.selects "ExplainDifferenceModel" ⟨"ExplainDifferenceModel", "count", "(I)I"⟩ ⟨"ExplainDifferenceModel", "count", "(I)I"⟩)]
theorem mj_wS_p : mj_wS = ([0, 1, 2, 3, 4, 5, 6, 7, 8, 9, 10, 11, 12, 13, 14, 15, 16, 17, 18, 19, 20, 21, 22, 23, 24, 25, 155, 159, 163, 167, 171, 179, 186, 190, 208, 212, 221, 243, 244, 267, 268, 269, 270, 306, 315, 330, 334, 345, 352, 360, 368, 386, 393, 399, 406, 413, 417, 425, 429, 462, 469, 477, 481, 486, 501, 505, 515, 525, 531, 549, 557, 561, 651, 655, 666, 670, 674, 682, 694, 719, 723, 727, 747, 751, 755, 759, 763, 767, 771, 775, 780, 784, 792] : List Nat).filterMap (fun i => lw_tbl[i]?) := by decide +kernel
theorem mj_wS_g : mj_wS.all goodWord = true := by decide +kernel
def mj_wT : List Cond := [(Jvm.Cond.static ⟨"java/util/Arrays", "fill", "([II)V"⟩),
  (Jvm.Cond.static ⟨"java/lang/Math", "abs", "(I)I"⟩),
  (Jvm.Cond.static ⟨"ExplainDifference", "isWithin", "(III)Z"⟩),
  (Jvm.Cond.static ⟨"ExplainDifference", "cellOf", "(II)I"⟩),
  (Jvm.Cond.static ⟨"ExplainDifferenceLaw", "put", "(LExplainDifference;IIII[J)I"⟩),
  (Jvm.Cond.static ⟨"ExplainDifference", "needCell", "(II)V"⟩),
  (Jvm.Cond.static ⟨"ExplainDifference", "need", "(Z)V"⟩),
  (Jvm.Cond.static ⟨"ExplainDifferenceLaw", "take", "(LExplainDifference;IIII[J)I"⟩),
  (Jvm.Cond.static ⟨"ExplainDifferenceLaw", "move", "(LExplainDifference;IIIII[J)I"⟩),
  (Jvm.Cond.static ⟨"ExplainDifferenceLaw", "closed", "(LExplainDifference;IZ[J)I"⟩),
  (Jvm.Cond.static ⟨"ExplainDifference", "needThere", "(II)V"⟩),
  (Jvm.Cond.static ⟨"ExplainDifferenceLaw", "window", "(LExplainDifference;II[J)I"⟩),
  (Jvm.Cond.static ⟨"ExplainDifferenceLaw", "counted", "(LExplainDifference;III[J)I"⟩),
  (Jvm.Cond.static ⟨"ExplainDifferenceLaw", "expected", "(LExplainDifference;II[J)I"⟩),
  (Jvm.Cond.static ⟨"ExplainDifferenceLaw", "differ", "(LExplainDifference;II[J)I"⟩),
  (Jvm.Cond.static ⟨"ExplainDifferenceLaw", "search", "(LExplainDifference;II[J)I"⟩),
  (Jvm.Cond.static ⟨"java/lang/System", "arraycopy", "(Ljava/lang/Object;ILjava/lang/Object;II)V"⟩),
  (Jvm.Cond.static ⟨"ExplainDifferenceLaw", "often", "(LExplainDifference;I[J)I"⟩),
  (Jvm.Cond.static ⟨"ExplainDifferenceLaw", "found", "(LExplainDifference;II[J)I"⟩),
  (Jvm.Cond.static ⟨"ExplainDifferenceLaw", "accept", "(LExplainDifference;[J)I"⟩),
  (Jvm.Cond.static ⟨"ExplainDifference", "timesDone", "(I)I"⟩),
  (Jvm.Cond.static ⟨"ExplainDifferenceLaw", "back", "(LExplainDifference;I[J)I"⟩),
  (Jvm.Cond.static ⟨"ExplainDifferenceLaw", "share", "(LExplainDifference;II[J)I"⟩),
  (Jvm.Cond.static ⟨"ExplainDifferenceLaw", "told", "(LExplainDifference;II[J)I"⟩),
  (Jvm.Cond.static ⟨"ExplainDifferenceLaw", "of", "(LExplainDifference;III[J)I"⟩),
  (Jvm.Cond.static ⟨"ExplainDifference$Ledger", "isAt", "([II)Z"⟩),
  (Jvm.Cond.static ⟨"ExplainDifferenceModel", "not", "(III)Z"⟩)]
theorem mj_wT_p : mj_wT = ([59, 182, 193, 200, 215, 228, 232, 341, 348, 355, 363, 382, 389, 402, 409, 421, 450, 458, 465, 472, 508, 511, 520, 545, 553, 564, 662] : List Nat).filterMap (fun i => lw_tbl[i]?) := by decide +kernel
theorem mj_wT_g : mj_wT.all goodWord = true := by decide +kernel
def mj_wC : List Cond := [(Jvm.Cond.code ⟨"ExplainDifference", "<init>", "()V"⟩ prog_1_method_1_code (1 : Nat) (Option.none : Option Jvm.ClassFile.FieldType)),
  (Jvm.Cond.code ⟨"java/lang/Object", "<init>", "()V"⟩ object_method_1_code (1 : Nat) (Option.none : Option Jvm.ClassFile.FieldType)),
  (Jvm.Cond.code ⟨"ExplainDifference$Ledger", "<init>", "()V"⟩ prog_2_method_1_code (1 : Nat) (Option.none : Option Jvm.ClassFile.FieldType)),
  (Jvm.Cond.code ⟨"java/util/Arrays", "fill", "([II)V"⟩ prog_16_method_103_code (4 : Nat) (Option.none : Option Jvm.ClassFile.FieldType)),
  (Jvm.Cond.code ⟨"ExplainDifference$Seeker", "<init>", "()V"⟩ prog_3_method_1_code (1 : Nat) (Option.none : Option Jvm.ClassFile.FieldType)),
  (Jvm.Cond.code ⟨"ExplainDifference", "exact", "()Z"⟩ prog_1_method_11_code (1 : Nat) (Option.some Jvm.ClassFile.FieldType.boolean)),
  (Jvm.Cond.code ⟨"ExplainDifference", "steps", "()I"⟩ prog_1_method_12_code (1 : Nat) (Option.some Jvm.ClassFile.FieldType.int)),
  (Jvm.Cond.code ⟨"ExplainDifference", "ties", "()I"⟩ prog_1_method_13_code (1 : Nat) (Option.some Jvm.ClassFile.FieldType.int)),
  (Jvm.Cond.code ⟨"ExplainDifference", "count", "(I)I"⟩ prog_1_method_21_code (2 : Nat) (Option.some Jvm.ClassFile.FieldType.int)),
  (Jvm.Cond.code ⟨"ExplainDifference$Ledger", "piecesOfDifferences", "()I"⟩ prog_2_method_12_code (3 : Nat) (Option.some Jvm.ClassFile.FieldType.int)),
  (Jvm.Cond.code ⟨"ExplainDifference$Ledger", "differs", "(I)I"⟩ prog_2_method_9_code (2 : Nat) (Option.some Jvm.ClassFile.FieldType.int)),
  (Jvm.Cond.code ⟨"ExplainDifference$Ledger", "gap", "(I)I"⟩ prog_2_method_10_code (2 : Nat) (Option.some Jvm.ClassFile.FieldType.int)),
  (Jvm.Cond.code ⟨"java/lang/Math", "abs", "(I)I"⟩ prog_10_method_59_code (1 : Nat) (Option.some Jvm.ClassFile.FieldType.int)),
  (Jvm.Cond.code ⟨"ExplainDifference$Ledger", "candidates", "()I"⟩ prog_2_method_16_code (3 : Nat) (Option.some Jvm.ClassFile.FieldType.int)),
  (Jvm.Cond.code ⟨"ExplainDifference$Ledger", "isCandidate", "(I)Z"⟩ prog_2_method_14_code (3 : Nat) (Option.some Jvm.ClassFile.FieldType.boolean)),
  (Jvm.Cond.code ⟨"ExplainDifference", "isWithin", "(III)Z"⟩ prog_1_method_27_code (3 : Nat) (Option.some Jvm.ClassFile.FieldType.boolean)),
  (Jvm.Cond.code ⟨"ExplainDifference$Ledger", "isAtCountedCell", "([I)Z"⟩ prog_2_method_15_code (2 : Nat) (Option.some Jvm.ClassFile.FieldType.boolean)),
  (Jvm.Cond.code ⟨"ExplainDifference", "cellOf", "(II)I"⟩ prog_1_method_28_code (2 : Nat) (Option.some Jvm.ClassFile.FieldType.int)),
  (Jvm.Cond.code ⟨"ExplainDifference$Ledger", "isCounted", "(I)Z"⟩ prog_2_method_8_code (2 : Nat) (Option.some Jvm.ClassFile.FieldType.boolean)),
  (Jvm.Cond.code ⟨"ExplainDifference$Ledger", "actsWith", "(II)I"⟩ prog_2_method_17_code (5 : Nat) (Option.some Jvm.ClassFile.FieldType.int)),
  (Jvm.Cond.code ⟨"ExplainDifference$Ledger", "countedCells", "()I"⟩ prog_2_method_13_code (3 : Nat) (Option.some Jvm.ClassFile.FieldType.int)),
  (Jvm.Cond.codeWith ⟨"ExplainDifferenceLaw", "put", "(LExplainDifference;IIII[J)I"⟩ method_3_code (7 : Nat) (Option.some Jvm.ClassFile.FieldType.int) [((0 : Nat), (14 : Nat), (17 : Nat), (13 : Nat)), ((0 : Nat), (14 : Nat), (21 : Nat), (15 : Nat))]),
  (Jvm.Cond.code ⟨"ExplainDifference", "put", "(IIII)I"⟩ prog_1_method_2_code (5 : Nat) (Option.some Jvm.ClassFile.FieldType.int)),
  (Jvm.Cond.code ⟨"ExplainDifference", "needAct", "(IIII)V"⟩ prog_1_method_22_code (5 : Nat) (Option.none : Option Jvm.ClassFile.FieldType)),
  (Jvm.Cond.code ⟨"ExplainDifference", "needCell", "(II)V"⟩ prog_1_method_24_code (2 : Nat) (Option.none : Option Jvm.ClassFile.FieldType)),
  (Jvm.Cond.code ⟨"ExplainDifference", "need", "(Z)V"⟩ prog_1_method_26_code (1 : Nat) (Option.none : Option Jvm.ClassFile.FieldType)),
  (Jvm.Cond.code ⟨"java/lang/Throwable", "<init>", "()V"⟩ prog_14_method_1_code (1 : Nat) (Option.none : Option Jvm.ClassFile.FieldType)),
  (Jvm.Cond.code ⟨"java/lang/IllegalArgumentException", "<init>", "(Ljava/lang/String;)V"⟩ prog_8_method_2_code (2 : Nat) (Option.none : Option Jvm.ClassFile.FieldType)),
  (Jvm.Cond.code ⟨"java/lang/RuntimeException", "<init>", "(Ljava/lang/String;)V"⟩ prog_11_method_2_code (2 : Nat) (Option.none : Option Jvm.ClassFile.FieldType)),
  (Jvm.Cond.code ⟨"java/lang/Exception", "<init>", "(Ljava/lang/String;)V"⟩ prog_7_method_2_code (2 : Nat) (Option.none : Option Jvm.ClassFile.FieldType)),
  (Jvm.Cond.code ⟨"java/lang/Throwable", "<init>", "(Ljava/lang/String;)V"⟩ prog_14_method_2_code (2 : Nat) (Option.none : Option Jvm.ClassFile.FieldType)),
  (Jvm.Cond.code ⟨"ExplainDifference$Ledger", "lastTime", "()I"⟩ prog_2_method_3_code (1 : Nat) (Option.some Jvm.ClassFile.FieldType.int)),
  (Jvm.Cond.code ⟨"ExplainDifference", "needRoom", "()V"⟩ prog_1_method_23_code (1 : Nat) (Option.none : Option Jvm.ClassFile.FieldType)),
  (Jvm.Cond.code ⟨"java/lang/UnsupportedOperationException", "<init>", "(Ljava/lang/String;)V"⟩ prog_15_method_2_code (2 : Nat) (Option.none : Option Jvm.ClassFile.FieldType)),
  (Jvm.Cond.code ⟨"ExplainDifference$Ledger", "add", "(IIIIII)I"⟩ prog_2_method_2_code (9 : Nat) (Option.some Jvm.ClassFile.FieldType.int)),
  (Jvm.Cond.code ⟨"ExplainDifference$Ledger", "carry", "(II)V"⟩ prog_2_method_5_code (5 : Nat) (Option.none : Option Jvm.ClassFile.FieldType)),
  (Jvm.Cond.code ⟨"ExplainDifference$Ledger", "shift", "(II)V"⟩ prog_2_method_6_code (4 : Nat) (Option.none : Option Jvm.ClassFile.FieldType)),
  (Jvm.Cond.codeWith ⟨"ExplainDifferenceLaw", "take", "(LExplainDifference;IIII[J)I"⟩ method_4_code (7 : Nat) (Option.some Jvm.ClassFile.FieldType.int) [((0 : Nat), (14 : Nat), (17 : Nat), (13 : Nat)), ((0 : Nat), (14 : Nat), (21 : Nat), (15 : Nat))]),
  (Jvm.Cond.code ⟨"ExplainDifference", "take", "(IIII)I"⟩ prog_1_method_3_code (5 : Nat) (Option.some Jvm.ClassFile.FieldType.int)),
  (Jvm.Cond.codeWith ⟨"ExplainDifferenceLaw", "move", "(LExplainDifference;IIIII[J)I"⟩ method_5_code (8 : Nat) (Option.some Jvm.ClassFile.FieldType.int) [((0 : Nat), (16 : Nat), (19 : Nat), (13 : Nat)), ((0 : Nat), (16 : Nat), (23 : Nat), (15 : Nat))]),
  (Jvm.Cond.code ⟨"ExplainDifference", "move", "(IIIII)I"⟩ prog_1_method_4_code (6 : Nat) (Option.some Jvm.ClassFile.FieldType.int)),
  (Jvm.Cond.codeWith ⟨"ExplainDifferenceLaw", "closed", "(LExplainDifference;IZ[J)I"⟩ method_6_code (5 : Nat) (Option.some Jvm.ClassFile.FieldType.int) [((0 : Nat), (10 : Nat), (13 : Nat), (28 : Nat))]),
  (Jvm.Cond.code ⟨"ExplainDifference", "closed", "(IZ)I"⟩ prog_1_method_5_code (3 : Nat) (Option.some Jvm.ClassFile.FieldType.int)),
  (Jvm.Cond.code ⟨"ExplainDifference", "needThere", "(II)V"⟩ prog_1_method_25_code (2 : Nat) (Option.none : Option Jvm.ClassFile.FieldType)),
  (Jvm.Cond.code ⟨"java/util/NoSuchElementException", "<init>", "(Ljava/lang/String;)V"⟩ prog_17_method_4_code (2 : Nat) (Option.none : Option Jvm.ClassFile.FieldType)),
  (Jvm.Cond.codeWith ⟨"ExplainDifferenceLaw", "window", "(LExplainDifference;II[J)I"⟩ method_7_code (5 : Nat) (Option.some Jvm.ClassFile.FieldType.int) [((0 : Nat), (10 : Nat), (13 : Nat), (13 : Nat))]),
  (Jvm.Cond.code ⟨"ExplainDifference", "window", "(II)I"⟩ prog_1_method_6_code (3 : Nat) (Option.some Jvm.ClassFile.FieldType.int)),
  (Jvm.Cond.codeWith ⟨"ExplainDifferenceLaw", "counted", "(LExplainDifference;III[J)I"⟩ method_8_code (6 : Nat) (Option.some Jvm.ClassFile.FieldType.int) [((0 : Nat), (12 : Nat), (15 : Nat), (13 : Nat))]),
  (Jvm.Cond.code ⟨"ExplainDifference", "counted", "(III)I"⟩ prog_1_method_7_code (4 : Nat) (Option.some Jvm.ClassFile.FieldType.int)),
  (Jvm.Cond.code ⟨"ExplainDifference$Ledger", "tell", "(II)V"⟩ prog_2_method_7_code (4 : Nat) (Option.none : Option Jvm.ClassFile.FieldType)),
  (Jvm.Cond.codeWith ⟨"ExplainDifferenceLaw", "expected", "(LExplainDifference;II[J)I"⟩ method_9_code (5 : Nat) (Option.some Jvm.ClassFile.FieldType.int) [((0 : Nat), (10 : Nat), (13 : Nat), (13 : Nat))]),
  (Jvm.Cond.code ⟨"ExplainDifference", "expected", "(II)I"⟩ prog_1_method_8_code (3 : Nat) (Option.some Jvm.ClassFile.FieldType.int)),
  (Jvm.Cond.codeWith ⟨"ExplainDifferenceLaw", "differ", "(LExplainDifference;II[J)I"⟩ method_10_code (5 : Nat) (Option.some Jvm.ClassFile.FieldType.int) [((0 : Nat), (10 : Nat), (13 : Nat), (28 : Nat)), ((0 : Nat), (10 : Nat), (17 : Nat), (13 : Nat))]),
  (Jvm.Cond.code ⟨"ExplainDifference", "differ", "(II)I"⟩ prog_1_method_9_code (4 : Nat) (Option.some Jvm.ClassFile.FieldType.int)),
  (Jvm.Cond.code ⟨"ExplainDifference$Ledger", "differingCell", "(I)I"⟩ prog_2_method_11_code (4 : Nat) (Option.some Jvm.ClassFile.FieldType.int)),
  (Jvm.Cond.codeWith ⟨"ExplainDifferenceLaw", "search", "(LExplainDifference;II[J)I"⟩ method_11_code (5 : Nat) (Option.some Jvm.ClassFile.FieldType.int) [((0 : Nat), (10 : Nat), (13 : Nat), (13 : Nat))]),
  (Jvm.Cond.code ⟨"ExplainDifference", "search", "(II)I"⟩ prog_1_method_10_code (3 : Nat) (Option.some Jvm.ClassFile.FieldType.int)),
  (Jvm.Cond.code ⟨"ExplainDifference$Seeker", "seek", "(LExplainDifference$Ledger;II)I"⟩ prog_3_method_2_code (5 : Nat) (Option.some Jvm.ClassFile.FieldType.int)),
  (Jvm.Cond.code ⟨"ExplainDifference$Seeker", "begin", "(I)V"⟩ prog_3_method_3_code (2 : Nat) (Option.none : Option Jvm.ClassFile.FieldType)),
  (Jvm.Cond.code ⟨"ExplainDifference$Seeker", "gatherChoices", "(LExplainDifference$Ledger;)V"⟩ prog_3_method_4_code (3 : Nat) (Option.none : Option Jvm.ClassFile.FieldType)),
  (Jvm.Cond.code ⟨"ExplainDifference$Seeker", "extend", "(LExplainDifference$Ledger;II)Z"⟩ prog_3_method_5_code (5 : Nat) (Option.some Jvm.ClassFile.FieldType.boolean)),
  (Jvm.Cond.code ⟨"ExplainDifference$Seeker", "note", "()V"⟩ prog_3_method_7_code (2 : Nat) (Option.none : Option Jvm.ClassFile.FieldType)),
  (Jvm.Cond.code ⟨"ExplainDifference$Seeker", "attempt", "(LExplainDifference$Ledger;III)Z"⟩ prog_3_method_6_code (8 : Nat) (Option.some Jvm.ClassFile.FieldType.boolean)),
  (Jvm.Cond.codeWith ⟨"ExplainDifferenceLaw", "often", "(LExplainDifference;I[J)I"⟩ method_12_code (4 : Nat) (Option.some Jvm.ClassFile.FieldType.int) [((0 : Nat), (9 : Nat), (12 : Nat), (28 : Nat))]),
  (Jvm.Cond.code ⟨"ExplainDifference", "often", "(I)I"⟩ prog_1_method_14_code (2 : Nat) (Option.some Jvm.ClassFile.FieldType.int)),
  (Jvm.Cond.codeWith ⟨"ExplainDifferenceLaw", "found", "(LExplainDifference;II[J)I"⟩ method_13_code (5 : Nat) (Option.some Jvm.ClassFile.FieldType.int) [((0 : Nat), (10 : Nat), (13 : Nat), (28 : Nat)), ((0 : Nat), (10 : Nat), (17 : Nat), (13 : Nat))]),
  (Jvm.Cond.code ⟨"ExplainDifference", "found", "(II)I"⟩ prog_1_method_15_code (3 : Nat) (Option.some Jvm.ClassFile.FieldType.int)),
  (Jvm.Cond.codeWith ⟨"ExplainDifferenceLaw", "accept", "(LExplainDifference;[J)I"⟩ method_14_code (3 : Nat) (Option.some Jvm.ClassFile.FieldType.int) [((0 : Nat), (8 : Nat), (11 : Nat), (58 : Nat))]),
  (Jvm.Cond.code ⟨"ExplainDifference", "accept", "()I"⟩ prog_1_method_16_code (1 : Nat) (Option.some Jvm.ClassFile.FieldType.int)),
  (Jvm.Cond.code ⟨"ExplainDifference$Seeker", "isOfPlainActs", "(LExplainDifference$Ledger;)Z"⟩ prog_3_method_8_code (3 : Nat) (Option.some Jvm.ClassFile.FieldType.boolean)),
  (Jvm.Cond.code ⟨"java/lang/IllegalStateException", "<init>", "(Ljava/lang/String;)V"⟩ prog_9_method_2_code (2 : Nat) (Option.none : Option Jvm.ClassFile.FieldType)),
  (Jvm.Cond.code ⟨"ExplainDifference$Seeker", "settle", "(LExplainDifference$Ledger;)V"⟩ prog_3_method_9_code (3 : Nat) (Option.none : Option Jvm.ClassFile.FieldType)),
  (Jvm.Cond.code ⟨"ExplainDifference$Ledger", "turn", "(II)V"⟩ prog_2_method_4_code (4 : Nat) (Option.none : Option Jvm.ClassFile.FieldType)),
  (Jvm.Cond.code ⟨"ExplainDifference", "timesDone", "(I)I"⟩ prog_1_method_29_code (1 : Nat) (Option.some Jvm.ClassFile.FieldType.int)),
  (Jvm.Cond.codeWith ⟨"ExplainDifferenceLaw", "back", "(LExplainDifference;I[J)I"⟩ method_15_code (4 : Nat) (Option.some Jvm.ClassFile.FieldType.int) [((0 : Nat), (9 : Nat), (12 : Nat), (28 : Nat)), ((0 : Nat), (9 : Nat), (15 : Nat), (58 : Nat))]),
  (Jvm.Cond.code ⟨"ExplainDifference", "back", "(I)I"⟩ prog_1_method_17_code (2 : Nat) (Option.some Jvm.ClassFile.FieldType.int)),
  (Jvm.Cond.codeWith ⟨"ExplainDifferenceLaw", "share", "(LExplainDifference;II[J)I"⟩ method_16_code (5 : Nat) (Option.some Jvm.ClassFile.FieldType.int) [((0 : Nat), (10 : Nat), (13 : Nat), (13 : Nat)), ((0 : Nat), (10 : Nat), (17 : Nat), (66 : Nat))]),
  (Jvm.Cond.code ⟨"ExplainDifference", "share", "(II)I"⟩ prog_1_method_18_code (3 : Nat) (Option.some Jvm.ClassFile.FieldType.int)),
  (Jvm.Cond.code ⟨"java/lang/ArithmeticException", "<init>", "(Ljava/lang/String;)V"⟩ prog_6_method_2_code (2 : Nat) (Option.none : Option Jvm.ClassFile.FieldType)),
  (Jvm.Cond.codeWith ⟨"ExplainDifferenceLaw", "told", "(LExplainDifference;II[J)I"⟩ method_17_code (5 : Nat) (Option.some Jvm.ClassFile.FieldType.int) [((0 : Nat), (10 : Nat), (13 : Nat), (28 : Nat)), ((0 : Nat), (10 : Nat), (17 : Nat), (13 : Nat))]),
  (Jvm.Cond.code ⟨"ExplainDifference", "told", "(II)I"⟩ prog_1_method_19_code (3 : Nat) (Option.some Jvm.ClassFile.FieldType.int)),
  (Jvm.Cond.codeWith ⟨"ExplainDifferenceLaw", "of", "(LExplainDifference;III[J)I"⟩ method_18_code (6 : Nat) (Option.some Jvm.ClassFile.FieldType.int) [((0 : Nat), (12 : Nat), (15 : Nat), (13 : Nat))]),
  (Jvm.Cond.code ⟨"ExplainDifference", "of", "(III)I"⟩ prog_1_method_20_code (4 : Nat) (Option.some Jvm.ClassFile.FieldType.int)),
  (Jvm.Cond.code ⟨"ExplainDifference$Ledger", "actAt", "(II)I"⟩ prog_2_method_18_code (5 : Nat) (Option.some Jvm.ClassFile.FieldType.int)),
  (Jvm.Cond.code ⟨"ExplainDifference$Ledger", "isAt", "([II)Z"⟩ prog_2_method_19_code (2 : Nat) (Option.some Jvm.ClassFile.FieldType.boolean)),
  (Jvm.Cond.code ⟨"ExplainDifferenceModel", "<init>", "()V"⟩ prog_5_method_1_code (2 : Nat) (Option.none : Option Jvm.ClassFile.FieldType)),
  (Jvm.Cond.code ⟨"ExplainDifferenceModel", "thrown", "()I"⟩ prog_5_method_15_code (1 : Nat) (Option.some Jvm.ClassFile.FieldType.int)),
  (Jvm.Cond.code ⟨"ExplainDifferenceModel", "put", "(IIII)I"⟩ prog_5_method_17_code (5 : Nat) (Option.some Jvm.ClassFile.FieldType.int)),
  (Jvm.Cond.code ⟨"ExplainDifferenceModel", "newAct", "(IIIIII)I"⟩ prog_5_method_16_code (8 : Nat) (Option.some Jvm.ClassFile.FieldType.int)),
  (Jvm.Cond.code ⟨"ExplainDifferenceModel", "not", "(III)Z"⟩ prog_5_method_2_code (3 : Nat) (Option.some Jvm.ClassFile.FieldType.boolean)),
  (Jvm.Cond.code ⟨"ExplainDifferenceModel", "take", "(IIII)I"⟩ prog_5_method_18_code (5 : Nat) (Option.some Jvm.ClassFile.FieldType.int)),
  (Jvm.Cond.code ⟨"ExplainDifferenceModel", "move", "(IIIII)I"⟩ prog_5_method_19_code (6 : Nat) (Option.some Jvm.ClassFile.FieldType.int)),
  (Jvm.Cond.code ⟨"ExplainDifferenceModel", "closed", "(IZ)I"⟩ prog_5_method_21_code (5 : Nat) (Option.some Jvm.ClassFile.FieldType.int)),
  (Jvm.Cond.code ⟨"ExplainDifferenceModel", "noAct", "(I)Z"⟩ prog_5_method_20_code (2 : Nat) (Option.some Jvm.ClassFile.FieldType.boolean)),
  (Jvm.Cond.code ⟨"ExplainDifferenceModel", "window", "(II)I"⟩ prog_5_method_22_code (3 : Nat) (Option.some Jvm.ClassFile.FieldType.int)),
  (Jvm.Cond.code ⟨"ExplainDifferenceModel", "howMany", "()I"⟩ prog_5_method_10_code (3 : Nat) (Option.some Jvm.ClassFile.FieldType.int)),
  (Jvm.Cond.code ⟨"ExplainDifferenceModel", "isCandidate", "(I)Z"⟩ prog_5_method_9_code (2 : Nat) (Option.some Jvm.ClassFile.FieldType.boolean)),
  (Jvm.Cond.code ⟨"ExplainDifferenceModel", "counted", "(III)I"⟩ prog_5_method_23_code (4 : Nat) (Option.some Jvm.ClassFile.FieldType.int)),
  (Jvm.Cond.code ⟨"ExplainDifferenceModel", "differences", "()I"⟩ prog_5_method_7_code (3 : Nat) (Option.some Jvm.ClassFile.FieldType.int)),
  (Jvm.Cond.code ⟨"ExplainDifferenceModel", "differenceOf", "(I)I"⟩ prog_5_method_6_code (2 : Nat) (Option.some Jvm.ClassFile.FieldType.int)),
  (Jvm.Cond.code ⟨"ExplainDifferenceModel", "expectedOf", "(I)I"⟩ prog_5_method_5_code (4 : Nat) (Option.some Jvm.ClassFile.FieldType.int)),
  (Jvm.Cond.code ⟨"ExplainDifferenceModel", "times", "(I)I"⟩ prog_5_method_4_code (2 : Nat) (Option.some Jvm.ClassFile.FieldType.int)),
  (Jvm.Cond.code ⟨"ExplainDifferenceModel", "adds", "(II)I"⟩ prog_5_method_3_code (4 : Nat) (Option.some Jvm.ClassFile.FieldType.int)),
  (Jvm.Cond.code ⟨"ExplainDifferenceModel", "expected", "(II)I"⟩ prog_5_method_24_code (3 : Nat) (Option.some Jvm.ClassFile.FieldType.int)),
  (Jvm.Cond.code ⟨"ExplainDifferenceModel", "differ", "(II)I"⟩ prog_5_method_25_code (5 : Nat) (Option.some Jvm.ClassFile.FieldType.int)),
  (Jvm.Cond.code ⟨"ExplainDifferenceModel", "search", "(II)I"⟩ prog_5_method_26_code (4 : Nat) (Option.some Jvm.ClassFile.FieldType.int)),
  (Jvm.Cond.code ⟨"ExplainDifferenceModel", "goThrough", "(II)Z"⟩ prog_5_method_14_code (4 : Nat) (Option.some Jvm.ClassFile.FieldType.boolean)),
  (Jvm.Cond.code ⟨"ExplainDifferenceModel", "apply", "(II)V"⟩ prog_5_method_12_code (7 : Nat) (Option.none : Option Jvm.ClassFile.FieldType)),
  (Jvm.Cond.code ⟨"ExplainDifferenceModel", "add", "(II)V"⟩ prog_5_method_11_code (3 : Nat) (Option.none : Option Jvm.ClassFile.FieldType)),
  (Jvm.Cond.code ⟨"ExplainDifferenceModel", "foundOne", "(I)V"⟩ prog_5_method_13_code (4 : Nat) (Option.none : Option Jvm.ClassFile.FieldType)),
  (Jvm.Cond.code ⟨"ExplainDifferenceModel", "exact", "()Z"⟩ prog_5_method_27_code (1 : Nat) (Option.some Jvm.ClassFile.FieldType.boolean)),
  (Jvm.Cond.code ⟨"ExplainDifferenceModel", "steps", "()I"⟩ prog_5_method_28_code (1 : Nat) (Option.some Jvm.ClassFile.FieldType.int)),
  (Jvm.Cond.code ⟨"ExplainDifferenceModel", "ties", "()I"⟩ prog_5_method_29_code (1 : Nat) (Option.some Jvm.ClassFile.FieldType.int)),
  (Jvm.Cond.code ⟨"ExplainDifferenceModel", "often", "(I)I"⟩ prog_5_method_30_code (2 : Nat) (Option.some Jvm.ClassFile.FieldType.int)),
  (Jvm.Cond.code ⟨"ExplainDifferenceModel", "found", "(II)I"⟩ prog_5_method_31_code (3 : Nat) (Option.some Jvm.ClassFile.FieldType.int)),
  (Jvm.Cond.code ⟨"ExplainDifferenceModel", "accept", "()I"⟩ prog_5_method_32_code (2 : Nat) (Option.some Jvm.ClassFile.FieldType.int)),
  (Jvm.Cond.code ⟨"ExplainDifferenceModel", "back", "(I)I"⟩ prog_5_method_33_code (2 : Nat) (Option.some Jvm.ClassFile.FieldType.int)),
  (Jvm.Cond.code ⟨"ExplainDifferenceModel", "share", "(II)I"⟩ prog_5_method_34_code (3 : Nat) (Option.some Jvm.ClassFile.FieldType.int)),
  (Jvm.Cond.code ⟨"ExplainDifferenceModel", "told", "(II)I"⟩ prog_5_method_35_code (3 : Nat) (Option.some Jvm.ClassFile.FieldType.int)),
  (Jvm.Cond.code ⟨"ExplainDifferenceModel", "of", "(III)I"⟩ prog_5_method_36_code (6 : Nat) (Option.some Jvm.ClassFile.FieldType.int)),
  (Jvm.Cond.code ⟨"ExplainDifferenceModel", "touches", "(II)Z"⟩ prog_5_method_8_code (3 : Nat) (Option.some Jvm.ClassFile.FieldType.boolean)),
  (Jvm.Cond.code ⟨"ExplainDifferenceModel", "count", "(I)I"⟩ prog_5_method_37_code (7 : Nat) (Option.some Jvm.ClassFile.FieldType.int))]
set_option maxRecDepth 100000 in
theorem mj_wC_p : mj_wC = ([46, 49, 54, 60, 97, 156, 160, 164, 168, 172, 176, 180, 183, 187, 191, 194, 198, 201, 205, 209, 213, 216, 222, 226, 229, 233, 258, 280, 283, 286, 289, 307, 311, 324, 331, 335, 339, 342, 346, 349, 353, 356, 361, 364, 377, 383, 387, 390, 394, 400, 403, 407, 410, 414, 418, 422, 426, 430, 434, 439, 444, 448, 455, 459, 463, 466, 470, 473, 478, 482, 495, 502, 506, 509, 512, 516, 521, 526, 540, 546, 550, 554, 558, 562, 565, 570, 652, 656, 660, 663, 667, 671, 675, 679, 683, 687, 691, 695, 700, 704, 708, 712, 716, 720, 724, 728, 732, 736, 740, 744, 748, 752, 756, 760, 764, 768, 772, 776, 781, 785, 789, 793] : List Nat).filterMap (fun i => lw_tbl[i]?) := rfl
theorem mj_wC_g : mj_wC.all goodWord = true := by decide +kernel
def mj_wN : List Cond := [(Jvm.Cond.initialized "ExplainDifferenceLaw"),
  (Jvm.Cond.initialized "ExplainDifference"),
  (Jvm.Cond.initialized "ExplainDifference$Ledger"),
  (Jvm.Cond.initialized "java/util/Arrays"),
  (Jvm.Cond.initialized "ExplainDifference$Seeker"),
  (Jvm.Cond.initialized "ExplainDifferenceModel"),
  (Jvm.Cond.initialized "java/lang/Throwable"),
  (Jvm.Cond.initialized "java/lang/Exception"),
  (Jvm.Cond.initialized "java/lang/RuntimeException"),
  (Jvm.Cond.initialized "java/lang/IllegalArgumentException"),
  (Jvm.Cond.initialized "java/lang/UnsupportedOperationException"),
  (Jvm.Cond.initialized "java/util/NoSuchElementException"),
  (Jvm.Cond.initialized "java/lang/System"),
  (Jvm.Cond.initialized "java/lang/IllegalStateException"),
  (Jvm.Cond.initialized "java/lang/ArithmeticException"),
  (Jvm.Cond.initialized "java/lang/Math")]
theorem mj_wN_p : mj_wN = ([26, 27, 28, 29, 30, 31, 32, 33, 34, 35, 36, 37, 38, 39, 40, 41] : List Nat).filterMap (fun i => lw_tbl[i]?) := by decide +kernel
theorem mj_wN_g : mj_wN.all goodWord = true := by decide +kernel
def mj_wK : List Cond := [(Jvm.Cond.constant "ExplainDifference" (71 : Nat) (100000 : Int32)),
  (Jvm.Cond.constant "ExplainDifference" (138 : Nat) (1000000 : Int32)),
  (Jvm.Cond.constant "ExplainDifferenceModel" (132 : Nat) (100000 : Int32)),
  (Jvm.Cond.constant "ExplainDifferenceModel" (140 : Nat) (1000000 : Int32))]
theorem mj_wK_p : mj_wK = ([395, 527, 696, 777] : List Nat).filterMap (fun i => lw_tbl[i]?) := by decide +kernel
theorem mj_wK_g : mj_wK.all goodWord = true := by decide +kernel
def mj_wL : List Cond := [(Jvm.Cond.classLink "ExplainDifferenceLaw" (8 : Nat) "ExplainDifference"),
  (Jvm.Cond.classLink "ExplainDifference" (7 : Nat) "ExplainDifference$Ledger"),
  (Jvm.Cond.classLink "ExplainDifference$Ledger" (9 : Nat) "[[I"),
  (Jvm.Cond.classLink "ExplainDifference" (16 : Nat) "ExplainDifference$Seeker"),
  (Jvm.Cond.classLink "ExplainDifferenceLaw" (13 : Nat) "java/lang/IllegalArgumentException"),
  (Jvm.Cond.classLink "ExplainDifferenceLaw" (15 : Nat) "java/lang/UnsupportedOperationException"),
  (Jvm.Cond.classLink "ExplainDifference" (170 : Nat) "java/lang/IllegalArgumentException"),
  (Jvm.Cond.classLink "ExplainDifference" (160 : Nat) "java/lang/UnsupportedOperationException"),
  (Jvm.Cond.classLink "ExplainDifferenceLaw" (28 : Nat) "java/util/NoSuchElementException"),
  (Jvm.Cond.classLink "ExplainDifference" (165 : Nat) "java/util/NoSuchElementException"),
  (Jvm.Cond.classLink "ExplainDifferenceLaw" (58 : Nat) "java/lang/IllegalStateException"),
  (Jvm.Cond.classLink "ExplainDifference" (122 : Nat) "java/lang/IllegalStateException"),
  (Jvm.Cond.classLink "ExplainDifferenceLaw" (66 : Nat) "java/lang/ArithmeticException"),
  (Jvm.Cond.classLink "ExplainDifference" (139 : Nat) "java/lang/ArithmeticException"),
  (Jvm.Cond.classLink "ExplainDifferenceLaw" (75 : Nat) "ExplainDifferenceModel")]
theorem mj_wL_p : mj_wL = ([42, 50, 56, 93, 217, 218, 234, 312, 357, 365, 474, 483, 522, 528, 566] : List Nat).filterMap (fun i => lw_tbl[i]?) := by decide +kernel
theorem mj_wL_g : mj_wL.all goodWord = true := by decide +kernel
def mj_wY : List Cond := [(Jvm.Cond.laysFinal "ExplainDifference$Ledger" "ExplainDifference$Ledger" "rows" "[[I"),
  (Jvm.Cond.laysFinal "ExplainDifference$Ledger" "ExplainDifference$Ledger" "awaited" "[I"),
  (Jvm.Cond.laysFinal "ExplainDifference$Ledger" "ExplainDifference$Ledger" "tally" "[I"),
  (Jvm.Cond.lays "ExplainDifference$Ledger" "ExplainDifference$Ledger" "acts" "I"),
  (Jvm.Cond.lays "ExplainDifference$Ledger" "ExplainDifference$Ledger" "differences" "I"),
  (Jvm.Cond.lays "ExplainDifference$Ledger" "ExplainDifference$Ledger" "windowFrom" "I"),
  (Jvm.Cond.lays "ExplainDifference$Ledger" "ExplainDifference$Ledger" "windowTo" "I"),
  (Jvm.Cond.laysFinal "ExplainDifference$Seeker" "ExplainDifference$Seeker" "choices" "[I"),
  (Jvm.Cond.laysFinal "ExplainDifference$Seeker" "ExplainDifference$Seeker" "workActs" "[I"),
  (Jvm.Cond.laysFinal "ExplainDifference$Seeker" "ExplainDifference$Seeker" "workChanges" "[I"),
  (Jvm.Cond.laysFinal "ExplainDifference$Seeker" "ExplainDifference$Seeker" "firstActs" "[I"),
  (Jvm.Cond.laysFinal "ExplainDifference$Seeker" "ExplainDifference$Seeker" "firstChanges" "[I"),
  (Jvm.Cond.laysFinal "ExplainDifference$Seeker" "ExplainDifference$Seeker" "uses" "[I"),
  (Jvm.Cond.lays "ExplainDifference$Seeker" "ExplainDifference$Seeker" "choiceNumber" "I"),
  (Jvm.Cond.lays "ExplainDifference$Seeker" "ExplainDifference$Seeker" "size" "I"),
  (Jvm.Cond.lays "ExplainDifference$Seeker" "ExplainDifference$Seeker" "stepLimit" "I"),
  (Jvm.Cond.lays "ExplainDifference$Seeker" "ExplainDifference$Seeker" "stepsDone" "I"),
  (Jvm.Cond.lays "ExplainDifference$Seeker" "ExplainDifference$Seeker" "explanations" "I"),
  (Jvm.Cond.lays "ExplainDifference$Seeker" "ExplainDifference$Seeker" "changes" "I"),
  (Jvm.Cond.lays "ExplainDifference$Seeker" "ExplainDifference$Seeker" "complete" "Z"),
  (Jvm.Cond.laysFinal "ExplainDifference" "ExplainDifference" "ledger" "LExplainDifference$Ledger;"),
  (Jvm.Cond.laysFinal "ExplainDifference" "ExplainDifference" "seeker" "LExplainDifference$Seeker;"),
  (Jvm.Cond.lays "java/lang/IllegalArgumentException" "java/lang/Throwable" "cause" "Ljava/lang/Throwable;"),
  (Jvm.Cond.lays "java/lang/Throwable" "java/lang/Throwable" "cause" "Ljava/lang/Throwable;"),
  (Jvm.Cond.lays "java/lang/IllegalArgumentException" "java/lang/Throwable" "stackTrace" "[Ljava/lang/StackTraceElement;"),
  (Jvm.Cond.lays "java/lang/Throwable" "java/lang/Throwable" "stackTrace" "[Ljava/lang/StackTraceElement;"),
  (Jvm.Cond.lays "java/lang/IllegalArgumentException" "java/lang/Throwable" "suppressedExceptions" "Ljava/util/List;"),
  (Jvm.Cond.lays "java/lang/Throwable" "java/lang/Throwable" "suppressedExceptions" "Ljava/util/List;"),
  (Jvm.Cond.lays "java/lang/IllegalArgumentException" "java/lang/Throwable" "detailMessage" "Ljava/lang/String;"),
  (Jvm.Cond.lays "java/lang/Throwable" "java/lang/Throwable" "detailMessage" "Ljava/lang/String;"),
  (Jvm.Cond.lays "java/lang/IllegalArgumentException" "java/lang/Throwable" "backtrace" "Ljava/lang/Object;"),
  (Jvm.Cond.lays "java/lang/Throwable" "java/lang/Throwable" "backtrace" "Ljava/lang/Object;"),
  (Jvm.Cond.lays "java/lang/IllegalArgumentException" "java/lang/Throwable" "depth" "I"),
  (Jvm.Cond.lays "java/lang/UnsupportedOperationException" "java/lang/Throwable" "cause" "Ljava/lang/Throwable;"),
  (Jvm.Cond.lays "java/lang/UnsupportedOperationException" "java/lang/Throwable" "stackTrace" "[Ljava/lang/StackTraceElement;"),
  (Jvm.Cond.lays "java/lang/UnsupportedOperationException" "java/lang/Throwable" "suppressedExceptions" "Ljava/util/List;"),
  (Jvm.Cond.lays "java/lang/UnsupportedOperationException" "java/lang/Throwable" "detailMessage" "Ljava/lang/String;"),
  (Jvm.Cond.lays "java/lang/UnsupportedOperationException" "java/lang/Throwable" "backtrace" "Ljava/lang/Object;"),
  (Jvm.Cond.lays "java/lang/UnsupportedOperationException" "java/lang/Throwable" "depth" "I"),
  (Jvm.Cond.lays "java/util/NoSuchElementException" "java/lang/Throwable" "cause" "Ljava/lang/Throwable;"),
  (Jvm.Cond.lays "java/util/NoSuchElementException" "java/lang/Throwable" "stackTrace" "[Ljava/lang/StackTraceElement;"),
  (Jvm.Cond.lays "java/util/NoSuchElementException" "java/lang/Throwable" "suppressedExceptions" "Ljava/util/List;"),
  (Jvm.Cond.lays "java/util/NoSuchElementException" "java/lang/Throwable" "detailMessage" "Ljava/lang/String;"),
  (Jvm.Cond.lays "java/util/NoSuchElementException" "java/lang/Throwable" "backtrace" "Ljava/lang/Object;"),
  (Jvm.Cond.lays "java/util/NoSuchElementException" "java/lang/Throwable" "depth" "I"),
  (Jvm.Cond.lays "java/lang/IllegalStateException" "java/lang/Throwable" "cause" "Ljava/lang/Throwable;"),
  (Jvm.Cond.lays "java/lang/IllegalStateException" "java/lang/Throwable" "stackTrace" "[Ljava/lang/StackTraceElement;"),
  (Jvm.Cond.lays "java/lang/IllegalStateException" "java/lang/Throwable" "suppressedExceptions" "Ljava/util/List;"),
  (Jvm.Cond.lays "java/lang/IllegalStateException" "java/lang/Throwable" "detailMessage" "Ljava/lang/String;"),
  (Jvm.Cond.lays "java/lang/IllegalStateException" "java/lang/Throwable" "backtrace" "Ljava/lang/Object;"),
  (Jvm.Cond.lays "java/lang/IllegalStateException" "java/lang/Throwable" "depth" "I"),
  (Jvm.Cond.lays "java/lang/ArithmeticException" "java/lang/Throwable" "cause" "Ljava/lang/Throwable;"),
  (Jvm.Cond.lays "java/lang/ArithmeticException" "java/lang/Throwable" "stackTrace" "[Ljava/lang/StackTraceElement;"),
  (Jvm.Cond.lays "java/lang/ArithmeticException" "java/lang/Throwable" "suppressedExceptions" "Ljava/util/List;"),
  (Jvm.Cond.lays "java/lang/ArithmeticException" "java/lang/Throwable" "detailMessage" "Ljava/lang/String;"),
  (Jvm.Cond.lays "java/lang/ArithmeticException" "java/lang/Throwable" "backtrace" "Ljava/lang/Object;"),
  (Jvm.Cond.lays "java/lang/ArithmeticException" "java/lang/Throwable" "depth" "I"),
  (Jvm.Cond.lays "ExplainDifferenceModel" "ExplainDifferenceModel" "thrownCode" "I"),
  (Jvm.Cond.lays "ExplainDifferenceModel" "ExplainDifferenceModel" "acts" "I"),
  (Jvm.Cond.laysFinal "ExplainDifferenceModel" "ExplainDifferenceModel" "kind" "[I"),
  (Jvm.Cond.laysFinal "ExplainDifferenceModel" "ExplainDifferenceModel" "place" "[I"),
  (Jvm.Cond.laysFinal "ExplainDifferenceModel" "ExplainDifferenceModel" "to" "[I"),
  (Jvm.Cond.laysFinal "ExplainDifferenceModel" "ExplainDifferenceModel" "good" "[I"),
  (Jvm.Cond.laysFinal "ExplainDifferenceModel" "ExplainDifferenceModel" "pieces" "[I"),
  (Jvm.Cond.laysFinal "ExplainDifferenceModel" "ExplainDifferenceModel" "time" "[I"),
  (Jvm.Cond.laysFinal "ExplainDifferenceModel" "ExplainDifferenceModel" "state" "[I"),
  (Jvm.Cond.laysFinal "ExplainDifferenceModel" "ExplainDifferenceModel" "shut" "[Z"),
  (Jvm.Cond.lays "ExplainDifferenceModel" "ExplainDifferenceModel" "from" "I"),
  (Jvm.Cond.lays "ExplainDifferenceModel" "ExplainDifferenceModel" "until" "I"),
  (Jvm.Cond.laysFinal "ExplainDifferenceModel" "ExplainDifferenceModel" "counts" "[I"),
  (Jvm.Cond.lays "ExplainDifferenceModel" "ExplainDifferenceModel" "wasExact" "Z"),
  (Jvm.Cond.lays "ExplainDifferenceModel" "ExplainDifferenceModel" "stepsNow" "I"),
  (Jvm.Cond.lays "ExplainDifferenceModel" "ExplainDifferenceModel" "tiesNow" "I"),
  (Jvm.Cond.laysFinal "ExplainDifferenceModel" "ExplainDifferenceModel" "oftenNow" "[I"),
  (Jvm.Cond.lays "ExplainDifferenceModel" "ExplainDifferenceModel" "changes" "I"),
  (Jvm.Cond.laysFinal "ExplainDifferenceModel" "ExplainDifferenceModel" "change" "[I"),
  (Jvm.Cond.laysFinal "ExplainDifferenceModel" "ExplainDifferenceModel" "left" "[I"),
  (Jvm.Cond.lays "ExplainDifferenceModel" "ExplainDifferenceModel" "wrong" "I"),
  (Jvm.Cond.lays "ExplainDifferenceModel" "ExplainDifferenceModel" "candidates" "I"),
  (Jvm.Cond.laysFinal "ExplainDifferenceModel" "ExplainDifferenceModel" "candidate" "[I"),
  (Jvm.Cond.laysFinal "ExplainDifferenceModel" "ExplainDifferenceModel" "set" "[I"),
  (Jvm.Cond.laysFinal "ExplainDifferenceModel" "ExplainDifferenceModel" "placed" "[Z")]
theorem mj_wY_p : mj_wY = ([77, 79, 81, 83, 85, 87, 89, 119, 121, 123, 125, 127, 129, 131, 133, 135, 137, 139, 141, 143, 148, 150, 245, 246, 247, 248, 249, 250, 251, 252, 253, 254, 299, 316, 317, 318, 319, 320, 326, 369, 370, 371, 372, 373, 379, 487, 488, 489, 490, 491, 497, 532, 533, 534, 535, 536, 542, 597, 599, 601, 603, 605, 607, 609, 611, 613, 615, 617, 619, 621, 623, 625, 627, 629, 631, 633, 635, 637, 639, 641, 643, 645] : List Nat).filterMap (fun i => lw_tbl[i]?) := by decide +kernel
theorem mj_wY_g : mj_wY.all goodWord = true := by decide +kernel
def mj_wO : List Cond := [(Jvm.Cond.instantiable "ExplainDifference" (2 : Nat)),
  (Jvm.Cond.instantiable "ExplainDifference$Ledger" (7 : Nat)),
  (Jvm.Cond.superclass "ExplainDifference$Ledger" "java/lang/Object"),
  (Jvm.Cond.arrayClass Jvm.ClassFile.FieldType.int),
  (Jvm.Cond.instantiable "ExplainDifference$Seeker" (13 : Nat)),
  (Jvm.Cond.superclass "ExplainDifference$Seeker" "java/lang/Object"),
  (Jvm.Cond.superclass "ExplainDifference" "java/lang/Object"),
  (Jvm.Cond.instantiable "java/lang/IllegalArgumentException" (6 : Nat)),
  (Jvm.Cond.superclass "java/lang/Throwable" "java/lang/Object"),
  (Jvm.Cond.codeSync ⟨"java/lang/Throwable", "fillInStackTrace", "()Ljava/lang/Throwable;"⟩ prog_14_method_18_code (1 : Nat) (Option.some (Jvm.ClassFile.FieldType.object "java/lang/Throwable"))),
  (Jvm.Cond.instantiable "java/lang/Throwable" (6 : Nat)),
  (Jvm.Cond.native ⟨"java/lang/Throwable", "fillInStackTrace", "(I)Ljava/lang/Throwable;"⟩),
  (Jvm.Cond.superclass "java/lang/IllegalArgumentException" "java/lang/RuntimeException"),
  (Jvm.Cond.arrayClass Jvm.ClassFile.FieldType.byte),
  (Jvm.Cond.instantiable "java/lang/UnsupportedOperationException" (6 : Nat)),
  (Jvm.Cond.superclass "java/lang/UnsupportedOperationException" "java/lang/RuntimeException"),
  (Jvm.Cond.instantiable "java/util/NoSuchElementException" (6 : Nat)),
  (Jvm.Cond.superclass "java/util/NoSuchElementException" "java/lang/RuntimeException"),
  (Jvm.Cond.native ⟨"java/lang/System", "arraycopy", "(Ljava/lang/Object;ILjava/lang/Object;II)V"⟩),
  (Jvm.Cond.instantiable "java/lang/IllegalStateException" (6 : Nat)),
  (Jvm.Cond.superclass "java/lang/IllegalStateException" "java/lang/RuntimeException"),
  (Jvm.Cond.instantiable "java/lang/ArithmeticException" (6 : Nat)),
  (Jvm.Cond.superclass "java/lang/ArithmeticException" "java/lang/RuntimeException"),
  (Jvm.Cond.instantiable "ExplainDifferenceModel" (25 : Nat)),
  (Jvm.Cond.superclass "ExplainDifferenceModel" "java/lang/Object"),
  (Jvm.Cond.arrayClass Jvm.ClassFile.FieldType.boolean),
  (Jvm.Cond.arrayClass Jvm.ClassFile.FieldType.long)]
theorem mj_wO_p : mj_wO = ([43, 51, 91, 92, 94, 145, 152, 235, 256, 271, 275, 276, 302, 303, 313, 327, 366, 380, 451, 484, 498, 529, 543, 567, 647, 648, 794] : List Nat).filterMap (fun i => lw_tbl[i]?) := by decide +kernel
theorem mj_wO_g : mj_wO.all goodWord = true := by decide +kernel
/-- the words that a method's frame has of the tables -/
def mj_tbl : List Cond := mj_wF ++ (mj_wM ++ (mj_wI ++ (mj_wS ++ (mj_wT ++ (mj_wC ++ (mj_wN ++ (mj_wK ++ (mj_wL ++ (mj_wY ++ mj_wO)))))))))
theorem mj_sub1 {l : List Cond} (ps : List Nat) (h : l = ps.filterMap (fun i => lw_tbl[i]?)) (hg : l.all goodWord = true) : ∀ w ∈ l, w ∈ lw_tbl ∧ goodWord w = true := by
  intro w hw
  refine ⟨?_, List.all_eq_true.mp hg w hw⟩
  rw [h] at hw
  obtain ⟨i, -, hi⟩ := List.mem_filterMap.mp hw
  exact List.mem_of_getElem? hi
theorem mj_tbl_ok : ∀ w ∈ mj_tbl, w ∈ lw_tbl ∧ goodWord w = true := by
  intro w hw
  unfold mj_tbl at hw
  rcases List.mem_append.mp hw with h | hw
  · exact mj_sub1 _ mj_wF_p mj_wF_g w h
  rcases List.mem_append.mp hw with h | hw
  · exact mj_sub1 _ mj_wM_p mj_wM_g w h
  rcases List.mem_append.mp hw with h | hw
  · exact mj_sub1 _ mj_wI_p mj_wI_g w h
  rcases List.mem_append.mp hw with h | hw
  · exact mj_sub1 _ mj_wS_p mj_wS_g w h
  rcases List.mem_append.mp hw with h | hw
  · exact mj_sub1 _ mj_wT_p mj_wT_g w h
  rcases List.mem_append.mp hw with h | hw
  · exact mj_sub1 _ mj_wC_p mj_wC_g w h
  rcases List.mem_append.mp hw with h | hw
  · exact mj_sub1 _ mj_wN_p mj_wN_g w h
  rcases List.mem_append.mp hw with h | hw
  · exact mj_sub1 _ mj_wK_p mj_wK_g w h
  rcases List.mem_append.mp hw with h | hw
  · exact mj_sub1 _ mj_wL_p mj_wL_g w h
  rcases List.mem_append.mp hw with h | hw
  · exact mj_sub1 _ mj_wY_p mj_wY_g w h
  exact mj_sub1 _ mj_wO_p mj_wO_g w hw
theorem mj_inF {w : Cond} (h : w ∈ mj_wF) : w ∈ mj_tbl := List.mem_append_left _ h
theorem mj_inM {w : Cond} (h : w ∈ mj_wM) : w ∈ mj_tbl := List.mem_append_right _ (List.mem_append_left _ h)
theorem mj_inI {w : Cond} (h : w ∈ mj_wI) : w ∈ mj_tbl := List.mem_append_right _ (List.mem_append_right _ (List.mem_append_left _ h))
theorem mj_inS {w : Cond} (h : w ∈ mj_wS) : w ∈ mj_tbl := List.mem_append_right _ (List.mem_append_right _ (List.mem_append_right _ (List.mem_append_left _ h)))
theorem mj_inT {w : Cond} (h : w ∈ mj_wT) : w ∈ mj_tbl := List.mem_append_right _ (List.mem_append_right _ (List.mem_append_right _ (List.mem_append_right _ (List.mem_append_left _ h))))
theorem mj_inC {w : Cond} (h : w ∈ mj_wC) : w ∈ mj_tbl := List.mem_append_right _ (List.mem_append_right _ (List.mem_append_right _ (List.mem_append_right _ (List.mem_append_right _ (List.mem_append_left _ h)))))
theorem mj_inN {w : Cond} (h : w ∈ mj_wN) : w ∈ mj_tbl := List.mem_append_right _ (List.mem_append_right _ (List.mem_append_right _ (List.mem_append_right _ (List.mem_append_right _ (List.mem_append_right _ (List.mem_append_left _ h))))))
theorem mj_inK {w : Cond} (h : w ∈ mj_wK) : w ∈ mj_tbl := List.mem_append_right _ (List.mem_append_right _ (List.mem_append_right _ (List.mem_append_right _ (List.mem_append_right _ (List.mem_append_right _ (List.mem_append_right _ (List.mem_append_left _ h)))))))
theorem mj_inL {w : Cond} (h : w ∈ mj_wL) : w ∈ mj_tbl := List.mem_append_right _ (List.mem_append_right _ (List.mem_append_right _ (List.mem_append_right _ (List.mem_append_right _ (List.mem_append_right _ (List.mem_append_right _ (List.mem_append_right _ (List.mem_append_left _ h))))))))
theorem mj_inY {w : Cond} (h : w ∈ mj_wY) : w ∈ mj_tbl := List.mem_append_right _ (List.mem_append_right _ (List.mem_append_right _ (List.mem_append_right _ (List.mem_append_right _ (List.mem_append_right _ (List.mem_append_right _ (List.mem_append_right _ (List.mem_append_right _ (List.mem_append_left _ h)))))))))
theorem mj_inO {w : Cond} (h : w ∈ mj_wO) : w ∈ mj_tbl := List.mem_append_right _ (List.mem_append_right _ (List.mem_append_right _ (List.mem_append_right _ (List.mem_append_right _ (List.mem_append_right _ (List.mem_append_right _ (List.mem_append_right _ (List.mem_append_right _ (List.mem_append_right _ h)))))))))
def mj_dcl : List MethodName := [⟨"java/lang/RuntimeException", "<init>", "()V"⟩, ⟨"java/lang/RuntimeException", "<init>", "(Ljava/lang/String;)V"⟩, ⟨"java/lang/Exception", "<init>", "()V"⟩, ⟨"java/lang/Exception", "<init>", "(Ljava/lang/String;)V"⟩, ⟨"java/lang/Throwable", "<init>", "()V"⟩, ⟨"java/lang/Throwable", "<init>", "(Ljava/lang/String;)V"⟩]
/-- exceptions: their names, the pool's number by which their constructors hand on, those constructors' bytes, the number by which ours are called -/
def mj_xs : List (String × Nat × ByteArray × Nat) := [("java/lang/IllegalArgumentException", 7, prog_8_method_2_code, 174), ("java/lang/UnsupportedOperationException", 7, prog_15_method_2_code, 164), ("java/util/NoSuchElementException", 13, prog_17_method_4_code, 169), ("java/lang/IllegalStateException", 7, prog_9_method_2_code, 126), ("java/lang/ArithmeticException", 7, prog_6_method_2_code, 143)]
def mj_xn (E : Nat) : String := ((mj_xs[E]?).map (fun q => q.1)).getD ""
def mj_strs : List (String × Nat × String) := [("ExplainDifference", 172, "a number is outside its range"), ("ExplainDifference", 162, "no room for another act"), ("ExplainDifference", 167, "there is no such act, difference or change"), ("ExplainDifference", 124, "no explanation that can be accepted"), ("ExplainDifference", 133, "the act is plain"), ("ExplainDifference", 141, "/ by zero")]
def mj_ncs : List (String × String) := [("java/lang/IllegalArgumentException", "java/lang/UnsupportedOperationException"), ("java/lang/IllegalArgumentException", "java/util/NoSuchElementException"), ("java/lang/IllegalArgumentException", "java/lang/IllegalStateException"), ("java/lang/IllegalArgumentException", "java/lang/ArithmeticException"), ("java/lang/UnsupportedOperationException", "java/lang/IllegalArgumentException"), ("java/lang/UnsupportedOperationException", "java/util/NoSuchElementException"), ("java/lang/UnsupportedOperationException", "java/lang/IllegalStateException"), ("java/lang/UnsupportedOperationException", "java/lang/ArithmeticException"), ("java/util/NoSuchElementException", "java/lang/IllegalArgumentException"), ("java/util/NoSuchElementException", "java/lang/UnsupportedOperationException"), ("java/util/NoSuchElementException", "java/lang/IllegalStateException"), ("java/util/NoSuchElementException", "java/lang/ArithmeticException"), ("java/lang/IllegalStateException", "java/lang/IllegalArgumentException"), ("java/lang/IllegalStateException", "java/lang/UnsupportedOperationException"), ("java/lang/IllegalStateException", "java/util/NoSuchElementException"), ("java/lang/IllegalStateException", "java/lang/ArithmeticException"), ("java/lang/ArithmeticException", "java/lang/IllegalArgumentException"), ("java/lang/ArithmeticException", "java/lang/UnsupportedOperationException"), ("java/lang/ArithmeticException", "java/util/NoSuchElementException"), ("java/lang/ArithmeticException", "java/lang/IllegalStateException")]
def mj_nest : List (String × Nat × MethodName × String) := [("ExplainDifference$Ledger", 72, ⟨"ExplainDifference", "isWithin", "(III)Z"⟩, "ExplainDifference"), ("ExplainDifference$Ledger", 44, ⟨"ExplainDifference", "cellOf", "(II)I"⟩, "ExplainDifference"), ("ExplainDifference$Ledger", 40, ⟨"ExplainDifference", "timesDone", "(I)I"⟩, "ExplainDifference")]
