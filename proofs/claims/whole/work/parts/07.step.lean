/-! each instruction of the small machine is one of the true machine -/
/-- how long an instruction is -/
def mj_il (i : Instr) : Nat := match i with
  | .bipush _ => 2
  | .ldc _ => 2
  | .iload _ => 2
  | .aload _ => 2
  | .istore _ => 2
  | .astore _ => 2
  | .sipush _ => 3
  | .iinc _ _ => 3
  | .ifCond _ _ => 3
  | .if_icmp _ _ => 3
  | .goto _ => 3
  | .getfield _ => 3
  | .putfield _ => 3
  | .invokestatic _ => 3
  | .invokevirtual _ => 3
  | .new _ => 3
  | _ => 1
/-- a class of the world: its fields' words, their types, their names apart -/
def mj_okC (q : vw_C) : Bool := (u_ws q.1 q.2.1 q.2.2).all (fun w => decide (w ∈ mj_wY)) && ((List.range q.2.2).all (fun k => (parseFieldDescriptor (q.2.1 k).2.2.1).isSome) && decide (∀ a, a < q.2.2 → ∀ b, b < q.2.2 → a ≠ b → (q.2.1 a).2.1 ≠ (q.2.1 b).2.1))
/-- the field b of place a, by the pool's number idx of class own -/
def mj_okF (S : mj_S) (own : String) (idx a b : Nat) : Bool := match S.1[a]? with
  | some (.inl (ci, fs)) => (match vwCl[ci]? with
      | some (C, F, N) => mj_okC (C, F, N) && (decide (b < N) && (decide (fs.length = N) && decide (Cond.fieldLink own idx (F b).1 (F b).2.1 (F b).2.2.1 ∈ mj_wF)))
      | none => false)
  | _ => false
/-- .. that may be written: an int (v = 0), a boolean (v = 1) -/
def mj_okP (S : mj_S) (own : String) (idx a b : Nat) (v : Int32) : Bool := mj_okF S own idx a b && (match S.1[a]? with
  | some (.inl (ci, _)) => (match vwCl[ci]? with
      | some (_, F, _) => decide ((F b).2.2.2 = false) && ((decide (v = 0) && decide ((F b).2.2.1 = "I")) || (decide (v = 1) && decide ((F b).2.2.1 = "Z")))
      | none => false)
  | _ => false)
def mj_okX (S : mj_S) (own : String) (nL pc : Nat) (i : Instr) (a b : Nat) (v : Int32) : Bool := match i with
  | .iconst n => decide (Int32.ofInt n = v)
  | .bipush n => decide ((Int8.ofInt n).toInt32 = v)
  | .sipush n => decide ((Int16.ofInt n).toInt32 = v)
  | .ldc idx => decide (Cond.constant own idx v ∈ mj_wK)
  | .istore_n j => decide (j.val < nL)
  | .istore j => decide (j < nL)
  | .astore_n j => decide (j.val < nL)
  | .astore j => decide (j < nL)
  | .iinc j n => decide (j < nL) && decide (Int32.ofInt n = v)
  | .ifCond _ off => decide ((pc : Int) + off = (a : Int))
  | .if_icmp _ off => decide ((pc : Int) + off = (a : Int))
  | .goto off => decide ((pc : Int) + off = (a : Int))
  | .getfield idx => mj_okF S own idx a b
  | .putfield idx => mj_okP S own idx a b v
  | .invokestatic idx => (decide (a = 1000) && (decide (Cond.methodLink own idx Lib.Math.abs.name ∈ mj_wM) && (decide (Cond.static Lib.Math.abs.name ∈ mj_wT) && (decide (Cond.initialized "java/lang/Math" ∈ mj_wN) && decide (Cond.code Lib.Math.abs.name Lib.Math.abs.code 1 (some .int) ∈ mj_wC))))) || ((decide (a = 1001) && (decide (Cond.methodLink own idx arraycopyName ∈ mj_wM) && (decide (Cond.native arraycopyName ∈ mj_wO) && (decide (Cond.static arraycopyName ∈ mj_wT) && decide (Cond.initialized "java/lang/System" ∈ mj_wN))))) || decide (a < 1000))
  | _ => true
def mj_sw (i : Instr) : Bool := match i with
  | .tableswitch _ _ _ _ => true
  | _ => false
/-- a row of a method's table -/
def mj_okI (S : mj_S) (T : mj_T) (e : mj_I) : Bool := decide (decode (mj_tb T) e.1 = .ok (e.2.1, e.2.2.1 - e.1)) && ((mj_sw e.2.1 || decide (e.2.2.1 = e.1 + mj_il e.2.1)) && mj_okX S (mj_tn T).cls (mj_tl T) e.1 e.2.1 e.2.2.2.1 e.2.2.2.2.1 e.2.2.2.2.2)
theorem mj_okS {S : mj_S} {T : mj_T} {pc : Nat} {i : Instr} {nx a b : Nat} {v : Int32} (h : mj_okI S T (pc, i, nx, a, b, v) = true) : decode (mj_tb T) pc = .ok (i, nx - pc) := by
  unfold mj_okI at h
  rw [Bool.and_eq_true, decide_eq_true_eq] at h
  exact h.1
theorem mj_okD {S : mj_S} {T : mj_T} {pc : Nat} {i : Instr} {nx a b : Nat} {v : Int32} (h : mj_okI S T (pc, i, nx, a, b, v) = true) (hs : mj_sw i = false) : decode (mj_tb T) pc = .ok (i, mj_il i) ∧ nx = pc + mj_il i ∧ mj_okX S (mj_tn T).cls (mj_tl T) pc i a b v = true := by
  have h1 := mj_okS h
  unfold mj_okI at h
  rw [Bool.and_eq_true, Bool.and_eq_true] at h
  have h2 : (mj_sw i || decide (nx = pc + mj_il i)) = true := h.2.1
  rw [hs, Bool.false_or, decide_eq_true_eq] at h2
  refine ⟨?_, h2, h.2.2⟩
  rw [h1, h2, Nat.add_sub_cancel_left]
section
variable {S : mj_S} {X : Nat × (Nat → Int32)} {ad : Nat → Nat} {cI cR cJ cZ : ClassId} {D : va_G} {A : Nat → Prop} {T : mj_T}
variable {p : Program} {l : Launch} {e : Env} {R : Room} {s : State} {m : MethodId} {args : Array Value} {below : List Frame} {meth : Method} {c : Code} {H : Heap} {locs : List Loc} {cells slots : Nat} {Q : State → Prop}
variable {pc : Nat} {i : Instr} {nx a b : Nat} {v : Int32} {lo lo' : mj_L} {st st' : List mj_V} {M M' : mj_M} {pc' : Nat} {ls : Array Slot}
/-- what a frame of method T stands on -/
def mj_Cx (S : mj_S) (X : Nat × (Nat → Int32)) (ad : Nat → Nat) (cI cR cJ cZ : ClassId) (D : va_G) (A : Nat → Prop) (T : mj_T) (p : Program) (s : State) (m : MethodId) (args : Array Value) (c : Code) : Prop :=
  (p.tables.exec = Jvm.exec ∧ c.code = mj_tb T ∧ c.maxLocals = mj_tl T ∧ s.vm.findClass (mj_tn T).cls = some m.cls ∧ (∀ w ∈ mj_tbl, w.before args s = true)) ∧
  (va_K D vwCl (mj_tys cI cR cJ cZ) s ∧ (∀ M, va_D A (mj_w S ad cI cR cJ cZ M)) ∧ va_X (ad S.1.length) X.1 X.2 s s.heap ∧ ad S.1.length < s.heap.size ∧ ¬ A (ad S.1.length)) ∧
  (∀ (g n k o : Nat), S.1[g]? = some (.inr (.inr (.inl (n, k, o)))) → ∀ r : Nat, r < n → S.2[o + r]? = some k) ∧ (∀ (g n g' n' : Nat), S.1[g]? = some (.inr (.inr (.inr (.inl n)))) → S.1[g']? = some (.inr (.inr (.inr (.inl n')))) → g = g' ∧ n = 1)
theorem mj_cats : ∀ (l : List mj_V), ((l.map (mj_c S ad)).map fun v => v.category).sum ≤ 2 * l.length
  | [] => Nat.le_refl _
  | v :: l => by
    have h := mj_cats l
    have h2 : (mj_c S ad v).category ≤ 2 := by
      match v with
      | .inl x => exact (by decide : 1 ≤ 2)
      | .inr (.inl y) => exact (by decide : 2 ≤ 2)
      | .inr (.inr (.inl q)) => exact (by decide : 1 ≤ 2)
      | .inr (.inr (.inr (g, r))) => exact (by decide : 1 ≤ 2)
    simp only [List.map_cons, List.sum_cons, List.length_cons] at h ⊢
    omega
theorem mj_okC1 {C : String} {F : u_T} {N : Nat} (h : mj_okC (C, F, N) = true) : (∀ w ∈ u_ws C F N, w ∈ mj_tbl) ∧ (∀ k, k < N → parseFieldDescriptor (F k).2.2.1 = some ((parseFieldDescriptor (F k).2.2.1).getD .int)) ∧ (∀ a, a < N → ∀ b, b < N → a ≠ b → (F a).2.1 ≠ (F b).2.1) := by
  unfold mj_okC at h
  rw [Bool.and_eq_true, Bool.and_eq_true, decide_eq_true_eq] at h
  obtain ⟨h1, h2, h3⟩ := h
  refine ⟨fun w hw => mj_inY (of_decide_eq_true (List.all_eq_true.mp h1 w hw)), fun k hk => ?_, h3⟩
  have h4 := List.all_eq_true.mp h2 k (List.mem_range.mpr hk)
  cases hp : parseFieldDescriptor (F k).2.2.1 with
  | none => rw [show (parseFieldDescriptor ((C, F, N).2.1 k).2.2.1).isSome = (parseFieldDescriptor (F k).2.2.1).isSome from rfl, hp] at h4; cases h4
  | some t => rfl
theorem mj_okF1 {idx : Nat} {own : String} {ci : Nat} {fs : List (Option Nat)} (h : mj_okF S own idx a b = true) (hsh : S.1[a]? = some (.inl (ci, fs))) : ∃ (C : String) (F : u_T) (N : Nat), vwCl[ci]? = some (C, F, N) ∧ mj_okC (C, F, N) = true ∧ b < N ∧ fs.length = N ∧ Cond.fieldLink own idx (F b).1 (F b).2.1 (F b).2.2.1 ∈ mj_wF := by
  unfold mj_okF at h
  rw [hsh] at h
  dsimp only at h
  cases hcl : vwCl[ci]? with
  | none => rw [hcl] at h; cases h
  | some w =>
    obtain ⟨C, F, N⟩ := w
    rw [hcl] at h
    dsimp only at h
    rw [Bool.and_eq_true, Bool.and_eq_true, Bool.and_eq_true, decide_eq_true_eq, decide_eq_true_eq, decide_eq_true_eq] at h
    exact ⟨C, F, N, rfl, h⟩
theorem mj_okP1 {idx : Nat} {own : String} {ci : Nat} {fs : List (Option Nat)} {C : String} {F : u_T} {N : Nat} (h : mj_okP S own idx a b v = true) (hsh : S.1[a]? = some (.inl (ci, fs))) (hcl : vwCl[ci]? = some (C, F, N)) : mj_okF S own idx a b = true ∧ (F b).2.2.2 = false ∧ ((v = 0 ∧ (F b).2.2.1 = "I") ∨ (v = 1 ∧ (F b).2.2.1 = "Z")) := by
  unfold mj_okP at h
  rw [Bool.and_eq_true, hsh] at h
  dsimp only at h
  rw [hcl] at h
  dsimp only at h
  rw [Bool.and_eq_true, Bool.or_eq_true, Bool.and_eq_true, Bool.and_eq_true] at h
  simp only [decide_eq_true_eq] at h
  exact h
theorem mj_fl_ref {k j q : Nat} {fs : List (Option Nat)} (h : fs[j]? = some (some q)) : (mj_fl ad M k fs)[j]? = some (.ref (ad q)) := by
  unfold mj_fl
  rw [List.getElem?_mapIdx, h]
  rfl
theorem mj_fl_int {k j : Nat} {fs : List (Option Nat)} (h : fs[j]? = some none) : (mj_fl ad M k fs)[j]? = some (.int (M.1 k j)) := by
  unfold mj_fl
  rw [List.getElem?_mapIdx, h]
  rfl
theorem mj_fl_set {k j : Nat} {x : Int32} {fs : List (Option Nat)} (h : fs[j]? = some none) : (mj_fl ad M k fs).set j (.int x) = mj_fl ad (mj_st M k j x) k fs := by
  unfold mj_fl
  apply mj_mi
  · exact (List.getElem?_eq_some_iff.mp h).1
  · intro n f hn
    cases f with
    | some q => rfl
    | none =>
      show Value.int (M.1 k n) = Value.int ((mj_st M k j x).1 k n)
      simp [mj_st, upd, hn]
  · intro f hf
    rw [h] at hf
    cases hf
    show Value.int x = Value.int ((mj_st M k j x).1 k j)
    simp [mj_st, upd]
theorem mj_st_ne {k j q : Nat} {x : Int32} (h : q ≠ k) : (mj_st M k j x).1 q = M.1 q := by simp [mj_st, h]
theorem mj_st_eq {k j : Nat} {x : Int32} : (mj_st M k j x).1 k = upd (M.1 k) j x := by simp [mj_st]
theorem mj_put_w {ci k j : Nat} {x : Int32} {fs : List (Option Nat)} (hsh : S.1[k]? = some (.inl (ci, fs))) (hf : fs[j]? = some none) : (mj_w S ad cI cR cJ cZ M).set k (ad k, .inr (ci, (mj_fl ad M k fs).set j (.int x))) = mj_w S ad cI cR cJ cZ (mj_st M k j x) := by
  rw [mj_fl_set hf]
  exact mj_w_set (M' := mj_st M k j x) hsh (fun q hq => mj_st_ne hq) (fun _ _ _ _ => rfl)
theorem mj_ast_w {k n j : Nat} {x : Int32} (hsh : S.1[k]? = some (.inr (.inl n))) : (mj_w S ad cI cR cJ cZ M).set k (ad k, .inl (cI, n, .inl (upd (M.1 k) j x))) = mj_w S ad cI cR cJ cZ (mj_st M k j x) := by
  rw [← mj_st_eq]
  exact mj_w_set (M' := mj_st M k j x) hsh (fun q hq => mj_st_ne hq) (fun _ _ _ _ => rfl)
theorem mj_zst_w {k n j : Nat} {x : Int32} (hsh : S.1[k]? = some (.inr (.inr (.inr (.inr n))))) : (mj_w S ad cI cR cJ cZ M).set k (ad k, .inl (cZ, n, .inl (upd (M.1 k) j x))) = mj_w S ad cI cR cJ cZ (mj_st M k j x) := by
  rw [← mj_st_eq]
  exact mj_w_set (M' := mj_st M k j x) hsh (fun q hq => mj_st_ne hq) (fun _ _ _ _ => rfl)
theorem mj_arw_w {r n j : Nat} {x : Int32} (hsh : S.2[r]? = some n) : (mj_w S ad cI cR cJ cZ M).set (S.1.length + r) (ad (S.1.length + 1 + r), .inl (cI, n, .inl (upd (M.1 (S.1.length + 1 + r)) j x))) = mj_w S ad cI cR cJ cZ (mj_st M (S.1.length + 1 + r) j x) := by
  rw [← mj_st_eq]
  exact mj_w_setr (M' := mj_st M (S.1.length + 1 + r) j x) hsh (fun q hq => mj_st_ne hq) rfl
theorem mj_cpy_w {k n : Nat} {f : Nat → Int32} (hsh : S.1[k]? = some (.inr (.inl n))) : (mj_w S ad cI cR cJ cZ M).set k (ad k, .inl (cI, n, .inl f)) = mj_w S ad cI cR cJ cZ (mj_sc M k f) := by
  have e : f = (mj_sc M k f).1 k := by simp [mj_sc]
  have h := mj_w_set (S := S) (ad := ad) (cI := cI) (cR := cR) (cJ := cJ) (cZ := cZ) (M := M) (M' := mj_sc M k f) hsh (fun q hq => by simp [mj_sc, hq]) (fun _ _ _ _ => rfl)
  rw [← h]
  show _ = (mj_w S ad cI cR cJ cZ M).set k (ad k, .inl (cI, n, .inl ((mj_sc M k f).1 k)))
  rw [← e]
theorem mj_lst_w {k n : Nat} {y : Int64} (hsh : S.1[k]? = some (.inr (.inr (.inr (.inl n))))) (h1 : ∀ (a n' : Nat), S.1[a]? = some (.inr (.inr (.inr (.inl n')))) → a = k) : (mj_w S ad cI cR cJ cZ M).set k (ad k, .inl (cJ, n, .inr (.inl (vp_updL (fun j => if j = 0 then M.2 else 0) 0 y)))) = mj_w S ad cI cR cJ cZ (M.1, y) := by
  have e : vp_updL (fun j => if j = 0 then M.2 else 0) 0 y = (fun j => if j = 0 then y else 0) := by
    funext j
    unfold vp_updL
    by_cases h : j = 0
    · rw [if_pos h, if_pos h]
    · rw [if_neg h, if_neg h]
      exact if_neg h
  rw [e]
  exact mj_w_set (M' := (M.1, y)) hsh (fun _ _ => rfl) (fun a n9 h8 h9 => absurd (h1 a n9 h9) h8)
theorem mj_s2 {α : Type} {x y : α} (h : some x = some y) : x = y := Option.some.inj h
set_option maxHeartbeats 4000000 in
set_option maxRecDepth 100000 in
theorem mj_step_ok (C : mj_Cx S X ad cI cR cJ cZ D A T p s m args c) (hR : 2 ≤ R.frames ∧ 60 ≤ R.locals ∧ cells ≤ R.cells ∧ slots ≤ R.slots)
    (ok : mj_okI S T (pc, i, nx, a, b, v) = true) (hP : va_P D vwCl (mj_w S ad cI cR cJ cZ M) H) (hS : va_S A s.heap H locs) (hl : mj_lv S ad (mj_tl T) lo ls)
    (hs : mj_step S X pc i nx a b v lo st M = some (pc', lo', st', M'))
    (kk : ∀ (H' : Heap) (locs' : List Loc) (ls' : Array Slot), va_P D vwCl (mj_w S ad cI cR cJ cZ M') H' → va_S A s.heap H' locs' → mj_lv S ad (mj_tl T) lo' ls' → W p l e R s m args below meth c H' locs' cells slots Q (F0 m pc' ls' (st'.map (mj_c S ad)))) :
    W p l e R s m args below meth c H locs cells slots Q (F0 m pc ls (st.map (mj_c S ad))) := by
  obtain ⟨⟨hx, hb, hml, hown, hts⟩, ⟨hK, hD, hX, hbl, hbA⟩, hgr, hlg⟩ := C
  unfold mj_step at hs
  split at hs
  · unfold mj_const at hs
    cases hs
    obtain ⟨hd, rfl, hv⟩ := mj_okD ok rfl
    exact lv_iconst hx hb hd (of_decide_eq_true hv) (kk _ _ _ hP hS hl)
  · unfold mj_const at hs
    cases hs
    obtain ⟨hd, rfl, hv⟩ := mj_okD ok rfl
    exact lv_bipush hx hb hd (of_decide_eq_true hv) (kk _ _ _ hP hS hl)
  · unfold mj_const at hs
    cases hs
    obtain ⟨hd, rfl, hv⟩ := mj_okD ok rfl
    exact lv_sipush hx hb hd (of_decide_eq_true hv) (kk _ _ _ hP hS hl)
  · unfold mj_const at hs
    cases hs
    obtain ⟨hd, rfl, hv⟩ := mj_okD ok rfl
    exact lv_ldc hx hb hown (hts _ (mj_inK (of_decide_eq_true hv))) hd (kk _ _ _ hP hS hl)
  · unfold mj_iload at hs
    split at hs
    · next x hq =>
      cases hs
      obtain ⟨hd, rfl, -⟩ := mj_okD ok rfl
      exact lv_iload_n hx hb hd rfl (hl.2.2 _ _ hq).1 (kk _ _ _ hP hS hl)
    · cases hs
  · unfold mj_iload at hs
    split at hs
    · next x hq =>
      cases hs
      obtain ⟨hd, rfl, -⟩ := mj_okD ok rfl
      exact lv_iload hx hb hd (hl.2.2 _ _ hq).1 (kk _ _ _ hP hS hl)
    · cases hs
  · unfold mj_aload at hs
    split at hs
    · next q hq =>
      cases hs
      obtain ⟨hd, rfl, -⟩ := mj_okD ok rfl
      match q, hq, kk with
      | .inl q, hq, kk => exact lv_aload_n hx hb hd rfl (hl.2.2 _ _ hq).1 (kk _ _ _ hP hS hl)
      | .inr (g, r), hq, kk => exact lv_aload_n hx hb hd rfl (hl.2.2 _ _ hq).1 (kk _ _ _ hP hS hl)
    · cases hs
  · unfold mj_aload at hs
    split at hs
    · next q hq =>
      cases hs
      obtain ⟨hd, rfl, -⟩ := mj_okD ok rfl
      match q, hq, kk with
      | .inl q, hq, kk => exact lv_aload hx hb hd (hl.2.2 _ _ hq).1 (kk _ _ _ hP hS hl)
      | .inr (g, r), hq, kk => exact lv_aload hx hb hd (hl.2.2 _ _ hq).1 (kk _ _ _ hP hS hl)
    · cases hs
  · unfold mj_istore at hs
    split at hs
    · cases hs
      obtain ⟨hd, rfl, hv⟩ := mj_okD ok rfl
      exact lv_istore_n hx hb hd rfl hl.has (of_decide_eq_true hv) rfl (fun ls' hl' => kk _ _ _ hP hS (hl.up rfl hl'))
    · cases hs
  · unfold mj_istore at hs
    split at hs
    · cases hs
      obtain ⟨hd, rfl, hv⟩ := mj_okD ok rfl
      exact lv_istore hx hb hd hl.has (of_decide_eq_true hv) rfl (fun ls' hl' => kk _ _ _ hP hS (hl.up rfl hl'))
    · cases hs
  · unfold mj_astore at hs
    split at hs
    · next q st9 =>
      cases hs
      obtain ⟨hd, rfl, hv⟩ := mj_okD ok rfl
      match q, kk with
      | .inl q, kk => exact lv_astore_n hx hb hd rfl hl.has (of_decide_eq_true hv) rfl (fun ls' hl' => kk _ _ _ hP hS (hl.up (v := .inr (.inr (.inl q))) rfl hl'))
      | .inr (g, r), kk => exact lv_astore_n hx hb hd rfl hl.has (of_decide_eq_true hv) rfl (fun ls' hl' => kk _ _ _ hP hS (hl.up (v := .inr (.inr (.inr (g, r)))) rfl hl'))
    · cases hs
  · unfold mj_astore at hs
    split at hs
    · next q st9 =>
      cases hs
      obtain ⟨hd, rfl, hv⟩ := mj_okD ok rfl
      match q, kk with
      | .inl q, kk => exact lv_astore hx hb hd hl.has (of_decide_eq_true hv) rfl (fun ls' hl' => kk _ _ _ hP hS (hl.up (v := .inr (.inr (.inl q))) rfl hl'))
      | .inr (g, r), kk => exact lv_astore hx hb hd hl.has (of_decide_eq_true hv) rfl (fun ls' hl' => kk _ _ _ hP hS (hl.up (v := .inr (.inr (.inr (g, r)))) rfl hl'))
    · cases hs
  · unfold mj_iinc at hs
    split at hs
    · next x hq =>
      cases hs
      obtain ⟨hd, rfl, hv⟩ := mj_okD ok rfl
      have hv : (decide _ && decide _) = true := hv
      rw [Bool.and_eq_true, decide_eq_true_eq, decide_eq_true_eq] at hv
      obtain ⟨k9, hk9⟩ := List.getElem?_of_mem (hl.mem hq)
      exact lv_iinc hx hb hd hl.has hk9 (by rw [hv.2]) hv.1 rfl (fun ls' hl' => kk _ _ _ hP hS (hl.up rfl hl'))
    · cases hs
  · unfold mj_bin at hs
    split at hs
    · cases hs
      obtain ⟨hd, rfl, -⟩ := mj_okD ok rfl
      exact lv_iadd hx hb hd (kk _ _ _ hP hS hl)
    · cases hs
  · unfold mj_bin at hs
    split at hs
    · cases hs
      obtain ⟨hd, rfl, -⟩ := mj_okD ok rfl
      exact lv_isub hx hb hd (kk _ _ _ hP hS hl)
    · cases hs
  · unfold mj_bin at hs
    split at hs
    · cases hs
      obtain ⟨hd, rfl, -⟩ := mj_okD ok rfl
      exact lv_imul hx hb hd (kk _ _ _ hP hS hl)
    · cases hs
  · unfold mj_bin at hs
    split at hs
    · cases hs
      obtain ⟨hd, rfl, -⟩ := mj_okD ok rfl
      exact lv_iand hx hb hd (kk _ _ _ hP hS hl)
    · cases hs
  · unfold mj_div at hs
    split at hs
    · split at hs
      · next h0 =>
        cases hs
        obtain ⟨hd, rfl, -⟩ := mj_okD ok rfl
        exact lv_idiv hx hb hd h0 (kk _ _ _ hP hS hl)
      · cases hs
    · cases hs
  · unfold mj_div at hs
    split at hs
    · split at hs
      · next h0 =>
        cases hs
        obtain ⟨hd, rfl, -⟩ := mj_okD ok rfl
        exact lv_irem hx hb hd h0 (kk _ _ _ hP hS hl)
      · cases hs
    · cases hs
  · unfold mj_ineg at hs
    split at hs
    · cases hs
      obtain ⟨hd, rfl, -⟩ := mj_okD ok rfl
      exact lv_ineg hx hb hd (kk _ _ _ hP hS hl)
    · cases hs
  · unfold mj_dup at hs
    split at hs
    · split at hs
      · next h0 =>
        cases hs
        obtain ⟨hd, rfl, -⟩ := mj_okD ok rfl
        exact lv_dup hx hb hd (mj_c1 S ad h0) (kk _ _ _ hP hS hl)
      · cases hs
    · cases hs
  · unfold mj_pop1 at hs
    split at hs
    · split at hs
      · next h0 =>
        cases hs
        obtain ⟨hd, rfl, -⟩ := mj_okD ok rfl
        exact lv_pop hx hb hd (mj_c1 S ad h0) (kk _ _ _ hP hS hl)
      · cases hs
    · cases hs
  · unfold mj_dup2 at hs
    split at hs
    · split at hs
      · next h0 =>
        cases hs
        obtain ⟨hd, rfl, -⟩ := mj_okD ok rfl
        exact lv_dup2_11 hx hb hd (mj_c1 S ad h0.1) (mj_c1 S ad h0.2) (kk _ _ _ hP hS hl)
      · cases hs
    · cases hs
  · unfold mj_dupx1 at hs
    split at hs
    · split at hs
      · next h0 =>
        cases hs
        obtain ⟨hd, rfl, -⟩ := mj_okD ok rfl
        exact lv_dup_x1 hx hb hd (mj_c1 S ad h0.1) (mj_c1 S ad h0.2) (kk _ _ _ hP hS hl)
      · cases hs
    · cases hs
  · unfold mj_i2l at hs
    split at hs
    · cases hs
      obtain ⟨hd, rfl, -⟩ := mj_okD ok rfl
      exact lv_i2l hx hb hd rfl (kk _ _ _ hP hS hl)
    · cases hs
  · unfold mj_lcmp at hs
    split at hs
    · cases hs
      obtain ⟨hd, rfl, -⟩ := mj_okD ok rfl
      exact W.lcmp hx hb hd (kk _ _ _ hP hS hl)
    · cases hs
  · next cnd off =>
    unfold mj_if0 at hs
    split at hs
    · obtain ⟨hd, rfl, hv⟩ := mj_okD ok rfl
      have ht : (pc : Int) + off = (a : Int) := of_decide_eq_true hv
      unfold mj_br at hs
      split at hs
      · refine lv_if_eq hx hb hd ht (fun h9 => ?_) (fun h9 => ?_)
        · rw [if_pos h9] at hs
          cases hs
          exact kk _ _ _ hP hS hl
        · rw [if_neg h9] at hs
          cases hs
          exact kk _ _ _ hP hS hl
      · refine lv_if_ne hx hb hd ht (fun h9 => ?_) (fun h9 => ?_)
        · rw [if_neg h9] at hs
          cases hs
          exact kk _ _ _ hP hS hl
        · rw [if_pos h9] at hs
          cases hs
          exact kk _ _ _ hP hS hl
      · refine lv_if_lt hx hb hd ht (fun h9 => ?_) (fun h9 => ?_)
        · rw [if_pos h9] at hs
          cases hs
          exact kk _ _ _ hP hS hl
        · rw [if_neg h9] at hs
          cases hs
          exact kk _ _ _ hP hS hl
      · refine lv_if_ge hx hb hd ht (fun h9 => ?_) (fun h9 => ?_)
        · rw [if_pos h9] at hs
          cases hs
          exact kk _ _ _ hP hS hl
        · rw [if_neg h9] at hs
          cases hs
          exact kk _ _ _ hP hS hl
      · refine lv_if_gt hx hb hd ht (fun h9 => ?_) (fun h9 => ?_)
        · rw [if_pos h9] at hs
          cases hs
          exact kk _ _ _ hP hS hl
        · rw [if_neg h9] at hs
          cases hs
          exact kk _ _ _ hP hS hl
      · refine lv_if_le hx hb hd ht (fun h9 => ?_) (fun h9 => ?_)
        · rw [if_pos h9] at hs
          cases hs
          exact kk _ _ _ hP hS hl
        · rw [if_neg h9] at hs
          cases hs
          exact kk _ _ _ hP hS hl
    · cases hs
  · next cnd off =>
    unfold mj_if2 at hs
    split at hs
    · obtain ⟨hd, rfl, hv⟩ := mj_okD ok rfl
      have ht : (pc : Int) + off = (a : Int) := of_decide_eq_true hv
      unfold mj_br at hs
      split at hs
      · refine lv_icmp_eq hx hb hd ht (fun h9 => ?_) (fun h9 => ?_)
        · rw [if_pos h9] at hs
          cases hs
          exact kk _ _ _ hP hS hl
        · rw [if_neg h9] at hs
          cases hs
          exact kk _ _ _ hP hS hl
      · refine lv_icmp_ne hx hb hd ht (fun h9 => ?_) (fun h9 => ?_)
        · rw [if_neg h9] at hs
          cases hs
          exact kk _ _ _ hP hS hl
        · rw [if_pos h9] at hs
          cases hs
          exact kk _ _ _ hP hS hl
      · refine lv_icmp_lt hx hb hd ht (fun h9 => ?_) (fun h9 => ?_)
        · rw [if_pos h9] at hs
          cases hs
          exact kk _ _ _ hP hS hl
        · rw [if_neg h9] at hs
          cases hs
          exact kk _ _ _ hP hS hl
      · refine lv_icmp_ge hx hb hd ht (fun h9 => ?_) (fun h9 => ?_)
        · rw [if_pos h9] at hs
          cases hs
          exact kk _ _ _ hP hS hl
        · rw [if_neg h9] at hs
          cases hs
          exact kk _ _ _ hP hS hl
      · refine lv_icmp_gt hx hb hd ht (fun h9 => ?_) (fun h9 => ?_)
        · rw [if_pos h9] at hs
          cases hs
          exact kk _ _ _ hP hS hl
        · rw [if_neg h9] at hs
          cases hs
          exact kk _ _ _ hP hS hl
      · refine lv_icmp_le hx hb hd ht (fun h9 => ?_) (fun h9 => ?_)
        · rw [if_pos h9] at hs
          cases hs
          exact kk _ _ _ hP hS hl
        · rw [if_neg h9] at hs
          cases hs
          exact kk _ _ _ hP hS hl
    · cases hs
  · cases hs
    obtain ⟨hd, rfl, hv⟩ := mj_okD ok rfl
    exact lv_goto hx hb hd (of_decide_eq_true hv) (kk _ _ _ hP hS hl)
  · next idx =>
    unfold mj_get at hs
    split at hs
    · next q st9 =>
      split at hs
      · next hqa =>
        subst hqa
        obtain ⟨hd, rfl, hv⟩ := mj_okD ok rfl
        split at hs
        · next ci fs hsh =>
          obtain ⟨C, F, N, hcl, hC, hbN, hlen, hlk⟩ := mj_okF1 (S := S) hv hsh
          split at hs
          · next q9 hfb =>
            cases hs
            exact va_get (ci := ci) (C := C) (T := F) (N := N) hx hb hts (mj_okC1 hC).1 hown hK hP q (mj_w_at hsh) hcl b hbN (hts _ (mj_inF hlk)) (fun _ h9 => h9) (mj_fl_ref hfb) hd (kk _ _ _ hP hS hl)
          · next hfb =>
            cases hs
            exact va_get (ci := ci) (C := C) (T := F) (N := N) hx hb hts (mj_okC1 hC).1 hown hK hP q (mj_w_at hsh) hcl b hbN (hts _ (mj_inF hlk)) (fun _ h9 => h9) (mj_fl_int hfb) hd (kk _ _ _ hP hS hl)
          · cases hs
        · cases hs
      · cases hs
    · cases hs
  · next idx =>
    unfold mj_put at hs
    split at hs
    · next x q st9 =>
      split at hs
      · next hqa =>
        subst hqa
        obtain ⟨hd, rfl, hv⟩ := mj_okD ok rfl
        split at hs
        · next ci fs hsh =>
          have hv : mj_okP S (mj_tn T).cls idx q b v = true := hv
          have hv0 : mj_okF S (mj_tn T).cls idx q b = true := by
            unfold mj_okP at hv
            rw [Bool.and_eq_true] at hv
            exact hv.1
          obtain ⟨C, F, N, hcl, hC, hbN, hlen, hlk⟩ := mj_okF1 (S := S) hv0 hsh
          obtain ⟨-, hfin, hty⟩ := mj_okP1 (S := S) hv hsh hcl
          split at hs
          · next hfb =>
            split at hs
            · next hz =>
              cases hs
              have hlb : b < (mj_fl ad M q fs).length := by
                unfold mj_fl
                rw [List.length_mapIdx, hlen]
                exact hbN
              rcases hty with ⟨hv0, hI⟩ | ⟨hv1, hZ⟩
              · exact va_put (ci := ci) (C := C) (T := F) (N := N) (ty := .int) (v := .int x) hx hb hts (mj_okC1 hC).1 _ (mj_okC1 hC).2.1 (mj_okC1 hC).2.2 hown hK hP (hD M) hS q (mj_w_at hsh) hcl b hbN (hts _ (mj_inF hlk)) (fun _ h9 => h9) hfin (by rw [hI]; decide +kernel) rfl rfl hlb hd (fun H1 locs1 hP1 _ hS1 => kk _ _ _ (by rw [← mj_put_w hsh hfb]; exact hP1) hS1 hl)
              · have hx01 : x = 0 ∨ x = 1 := by
                  rcases hz with h | h
                  · rw [hv1] at h; exact absurd h (by decide)
                  · exact h
                refine va_put (ci := ci) (C := C) (T := F) (N := N) (ty := .boolean) (v := .int x) hx hb hts (mj_okC1 hC).1 _ (mj_okC1 hC).2.1 (mj_okC1 hC).2.2 hown hK hP (hD M) hS q (mj_w_at hsh) hcl b hbN (hts _ (mj_inF hlk)) (fun _ h9 => h9) hfin (by rw [hZ]; decide +kernel) ?_ ?_ hlb hd (fun H1 locs1 hP1 _ hS1 => kk _ _ _ (by rw [← mj_put_w hsh hfb]; exact hP1) hS1 hl)
                · rcases hx01 with rfl | rfl <;> decide +kernel
                · rcases hx01 with rfl | rfl <;> decide +kernel
            · cases hs
          · cases hs
        · cases hs
      · cases hs
    · cases hs
  · unfold mj_iald at hs
    split at hs
    · next i9 q st9 =>
      obtain ⟨hd, rfl, -⟩ := mj_okD ok rfl
      split at hs
      · next n hsh =>
        split at hs
        · next hin =>
          cases hs
          exact va_iald hx hb hK hP q 0 (cA := cI) (mj_w_at hsh) rfl hin hd (kk _ _ _ hP hS hl)
        · cases hs
      · split at hs
        · next hq =>
          cases hs
          obtain ⟨rfl, hin⟩ := hq
          exact va_sld hx hb hX hbl hbA hS hin hd (kk _ _ _ hP hS hl)
        · cases hs
      · cases hs
    · next i9 g r st9 =>
      obtain ⟨hd, rfl, -⟩ := mj_okD ok rfl
      split at hs
      · next n k o hsh =>
        split at hs
        · next hq =>
          cases hs
          have e9 : mj_c S ad (.inr (.inr (.inr (g, r)))) = .ref (ad (S.1.length + 1 + (o + r))) := by simp only [mj_c, mj_ra, hsh, mj_rw]
          rw [List.map_cons, List.map_cons, e9]
          exact va_iald hx hb hK hP (S.1.length + (o + r)) 0 (cA := cI) (mj_w_row (hgr g n k o hsh r hq.1)) rfl hq.2 hd (kk _ _ _ hP hS hl)
        · cases hs
      · cases hs
    · cases hs
  · unfold mj_iast at hs
    split at hs
    · next x i9 q st9 =>
      obtain ⟨hd, rfl, -⟩ := mj_okD ok rfl
      split at hs
      · next n hsh =>
        split at hs
        · next hin =>
          cases hs
          exact va_iast hx hb hK hP (hD M) hS q 0 (cA := cI) (mj_w_at hsh) rfl hin hd (fun H1 locs1 hP1 _ hS1 => kk _ _ _ (by rw [← mj_ast_w hsh]; exact hP1) hS1 hl)
        · cases hs
      · cases hs
    · next x i9 g r st9 =>
      obtain ⟨hd, rfl, -⟩ := mj_okD ok rfl
      split at hs
      · next n k o hsh =>
        split at hs
        · next hq =>
          cases hs
          have e9 : mj_c S ad (.inr (.inr (.inr (g, r)))) = .ref (ad (S.1.length + 1 + (o + r))) := by simp only [mj_c, mj_ra, hsh, mj_rw]
          rw [List.map_cons, List.map_cons, List.map_cons, e9]
          exact va_iast hx hb hK hP (hD M) hS (S.1.length + (o + r)) 0 (cA := cI) (mj_w_row (hgr g n k o hsh r hq.1)) rfl hq.2 hd (fun H1 locs1 hP1 _ hS1 => kk _ _ _ (by rw [mj_rw, ← mj_arw_w (hgr g n k o hsh r hq.1)]; exact hP1) hS1 hl)
        · cases hs
      · cases hs
    · cases hs
  · unfold mj_aald at hs
    split at hs
    · next i9 q st9 =>
      obtain ⟨hd, rfl, -⟩ := mj_okD ok rfl
      split at hs
      · next n k o hsh =>
        split at hs
        · next hin =>
          cases hs
          have hlt : i9.toNatClampNeg < n := Nat.not_le.mp fun q => hin (Or.inr q)
          have e9 : mj_c S ad (.inr (.inr (.inr (q, i9.toNatClampNeg)))) = va_rf (if i9.toNatClampNeg < n then some (ad (mj_rw S o i9.toNatClampNeg)) else none) := by
            rw [if_pos hlt]
            simp only [mj_c, mj_ra, hsh, va_rf]
          have k9 := kk _ _ _ hP hS hl
          rw [List.map_cons, e9] at k9
          exact W.aald (v := va_rf (if i9.toNatClampNeg < n then some (ad (mj_rw S o i9.toNatClampNeg)) else none)) (ty := .array .int) hx hb (hP q _ (mj_w_at hsh)) ((hK.2 1 (cR, .array .int) rfl).1 n (fun j => va_rf (if j < n then some (ad (mj_rw S o j)) else none))) rfl (fun q => by cases q) (by show ¬ (i9 < 0 ∨ (arrV _ _ _).slots.size ≤ _); rw [arrV_size]; exact hin) (by show (arrV _ _ _).slots[_]? = _; rw [arrV_read _ _ hlt]) rfl rfl hd k9
        · cases hs
      · cases hs
    · cases hs
  · unfold mj_zald at hs
    split at hs
    · next i9 q st9 =>
      obtain ⟨hd, rfl, -⟩ := mj_okD ok rfl
      split at hs
      · next n hsh =>
        split at hs
        · next hin =>
          cases hs
          exact va_zald hx hb hK hP q 3 (cA := cZ) (mj_w_at hsh) rfl hin hd (kk _ _ _ hP hS hl)
        · cases hs
      · cases hs
    · cases hs
  · unfold mj_zast at hs
    split at hs
    · next x i9 q st9 =>
      obtain ⟨hd, rfl, -⟩ := mj_okD ok rfl
      split at hs
      · next n hsh =>
        split at hs
        · next hin =>
          cases hs
          have hnar : vp_nar .boolean x = x := by
            rcases hin.2 with rfl | rfl <;> decide +kernel
          exact va_zast hx hb hK hP (hD M) hS q 3 (cA := cZ) (mj_w_at hsh) rfl hin.1 hd (fun H1 locs1 hP1 _ hS1 => kk _ _ _ (by rw [← mj_zst_w hsh]; rw [hnar] at hP1; exact hP1) hS1 hl)
        · cases hs
      · cases hs
    · cases hs
  · unfold mj_lald at hs
    split at hs
    · next i9 q st9 =>
      obtain ⟨hd, rfl, -⟩ := mj_okD ok rfl
      split at hs
      · next n hsh =>
        split at hs
        · next h0 =>
          subst h0
          cases hs
          obtain ⟨-, rfl⟩ := hlg q n q n hsh hsh
          exact va_lald hx hb hK hP q 2 (cA := cJ) (mj_w_at hsh) rfl (i := 0) (by unfold vp_in; decide) hd (kk _ _ _ hP hS hl)
        · cases hs
      · cases hs
    · cases hs
  · unfold mj_last at hs
    split at hs
    · next y9 i9 q st9 =>
      obtain ⟨hd, rfl, -⟩ := mj_okD ok rfl
      split at hs
      · next n hsh =>
        split at hs
        · next h0 =>
          subst h0
          cases hs
          obtain ⟨-, rfl⟩ := hlg q n q n hsh hsh
          exact va_last hx hb hK hP (hD M) hS q 2 (cA := cJ) (mj_w_at hsh) rfl (i := 0) (by unfold vp_in; decide) hd (fun H1 locs1 hP1 _ hS1 => kk _ _ _ (by rw [← mj_lst_w hsh (fun a9 n9 h9 => (hlg a9 n9 q 1 h9 hsh).1)]; exact hP1) hS1 hl)
        · cases hs
      · cases hs
    · cases hs
  · unfold mj_alen at hs
    split at hs
    · next q st9 =>
      obtain ⟨hd, rfl, -⟩ := mj_okD ok rfl
      split at hs
      · next n hsh =>
        cases hs
        exact va_alen hx hb hK hP q 0 (cA := cI) (x := (n, .inl (M.1 q))) (mj_w_at hsh) (ty := .int) rfl rfl hd (kk _ _ _ hP hS hl)
      · split at hs
        · next hq =>
          cases hs
          subst hq
          exact va_slen hx hb hX hbl hbA hS hd (kk _ _ _ hP hS hl)
        · cases hs
      · cases hs
    · cases hs
  · next idx =>
    obtain ⟨hd, rfl, hv⟩ := mj_okD ok rfl
    have hv : mj_okX S (mj_tn T).cls (mj_tl T) pc (.invokestatic idx) a b v = true := hv
    simp only [mj_okX, Bool.or_eq_true, Bool.and_eq_true, decide_eq_true_eq] at hv
    unfold mj_nat at hs
    split at hs
    · next ha =>
      subst ha
      rcases hv with ⟨-, h1, h2, h3, h4⟩ | ⟨h9, -⟩ | h9
      · split at hs
        · next x st9 =>
          split at hs
          · next hlen =>
            cases hs
            have hc9 := mj_cats (S := S) (ad := ad) st9
            exact va_mabs hx hb (hml.trans hl.1.symm) hown (hts _ (mj_inM h1)) (hts _ (mj_inT h2)) (hts _ (mj_inN h3)) (hts _ (mj_inC h4)) (by omega) (by omega) hR.2.2.1 hR.2.2.2 hd (kk _ _ _ hP hS hl)
          · cases hs
        · cases hs
      · exact absurd h9 (by decide)
      · exact absurd h9 (by decide)
    · split at hs
      · next ha =>
        subst ha
        rcases hv with ⟨h9, -⟩ | ⟨-, h1, h2, h3, h4⟩ | h9
        · exact absurd h9 (by decide)
        · split at hs
          · next n9 dp q1 sp q0 st9 =>
            split at hs
            · next n0 n1 hs0 hs1 =>
              split at hs
              · next hc =>
                have hc9 := mj_cats (S := S) (ad := ad) st9
                cases hs
                obtain ⟨⟨c1, c2, c3, hlen⟩, c4, c5⟩ := hc
                have hnf : nativeFrameWords "java/lang/System" "arraycopy" 5 ≤ 30 := by decide +kernel
                exact va_copyi hx hb (hml.trans hl.1.symm) hown (hts _ (mj_inM h1)) (hts _ (mj_inO h2)) (hts _ (mj_inT h3)) (hts _ (mj_inN h4)) hK hP (hD M) hS q0 q1 0 0 (c0 := cI) (c1 := cI) (ty := .int) (mj_w_at hs0) (mj_w_at hs1) rfl rfl rfl c1 c2 c3 c4 c5 (fun _ _ => rfl) (by omega) (by omega) hd (fun H1 locs1 hP1 _ hS1 => kk _ _ _ (by rw [← mj_cpy_w hs1]; exact hP1) hS1 hl)
              · cases hs
            · cases hs
          · cases hs
        · exact absurd h9 (by decide)
      · cases hs
  · next dflt lw hi offs =>
    have hd := mj_okS ok
    unfold mj_tsw at hs
    split at hs
    · next x st9 =>
      split at hs
      · next hc =>
        split at hs
        · next h0 =>
          cases hs
          exact lv_tableOut hx hb hd hc (Int.toNat_of_nonneg h0).symm (kk _ _ _ hP hS hl)
        · cases hs
      · next hc =>
        split at hs
        · next off ho =>
          split at hs
          · next h0 =>
            cases hs
            exact lv_tableIn hx hb hd (fun h => hc (Or.inl h)) (fun h => hc (Or.inr h)) ho (Int.toNat_of_nonneg h0).symm (kk _ _ _ hP hS hl)
          · cases hs
        · cases hs
    · cases hs
  · cases hs
end
