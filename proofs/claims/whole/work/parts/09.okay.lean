/-! what a run of the small machine says is so of the true machine -/
section
variable {S : mj_S} {X : Nat × (Nat → Int32)} {P : List mj_T} {d : Nat}
/-- the exceptions of a run are counted upward -/
theorem mj_kle : ∀ (n d : Nat) (T : mj_T) (pc : Nat) (lo : mj_L) (st : List mj_V) (M : mj_M) (k : Nat) (r : mj_R), mj_run S X P n d T pc lo st M k = some r → k ≤ r.2.2 := by
  intro n
  induction n with
  | zero =>
    intro d T pc lo st M k r h
    rw [mj_run_0] at h
    cases h
  | succ n ih =>
    intro d T pc lo st M k r h
    rw [mj_run_s] at h
    unfold mj_body at h
    cases hg : mj_go S X T pc lo st M with
    | some c =>
      obtain ⟨pc', lo', st', M'⟩ := c
      rw [hg] at h
      exact ih _ _ _ _ _ _ _ _ h
    | none =>
      rw [hg] at h
      dsimp only at h
      cases he : mj_end T pc st M k with
      | some r' =>
        rw [he] at h
        cases h
        unfold mj_end at he
        split at he
        · split at he
          · split at he
            · cases he; exact Nat.le_refl _
            · split at he
              · cases he; exact Nat.le_refl _
              · cases he
            · cases he
          · cases he
        · split at he
          · cases he; exact Nat.le_refl _
          · cases he
        · split at he
          · cases he; exact Nat.le_succ _
          · cases he
        · cases he
      | none =>
        rw [he] at h
        dsimp only at h
        cases d with
        | zero => cases h
        | succ d' =>
          cases hc : mj_callee P T pc st with
          | none =>
            rw [hc] at h
            cases h
          | some q =>
            obtain ⟨T', as, rest, nx, ns⟩ := q
            rw [hc] at h
            dsimp only at h
            cases hr : mj_run S X P n d' T' 0 (fun j => as[j]?) [] M 0 with
            | none => rw [hr] at h; cases h
            | some q =>
              rw [hr] at h
              obtain ⟨o, M', k'⟩ := q
              cases o with
              | inl E =>
                dsimp only at h
                by_cases hns : ns = true
                · rw [if_pos hns] at h
                  cases h
                · rw [if_neg hns] at h
                  cases hx : mj_cat (mj_th T) pc E with
                  | none =>
                    rw [hx] at h
                    cases h
                    exact Nat.le_add_right _ _
                  | some q =>
                    obtain ⟨h9, j⟩ := q
                    rw [hx] at h
                    exact Nat.le_trans (Nat.le_add_right _ _) (ih _ _ _ _ _ _ _ _ h)
              | inr o =>
                cases o with
                | none => exact Nat.le_trans (Nat.le_add_right _ _) (ih _ _ _ _ _ _ _ _ h)
                | some v => exact Nat.le_trans (Nat.le_add_right _ _) (ih _ _ _ _ _ _ _ _ h)
end
theorem mj_pop_eq : ∀ (n : Nat) (st acc as rest : List mj_V), mj_pop n st acc = some (as, rest) → ∃ p, as = p.reverse ++ acc ∧ st = p ++ rest ∧ p.length = n
  | 0, st, acc, as, rest, h => by
    cases h
    exact ⟨[], rfl, rfl, rfl⟩
  | n + 1, [], acc, as, rest, h => by cases h
  | n + 1, v :: st, acc, as, rest, h => by
    obtain ⟨p, h1, h2, h3⟩ := mj_pop_eq n st (v :: acc) as rest h
    refine ⟨v :: p, ?_, ?_, ?_⟩
    · rw [h1, List.reverse_cons, List.append_assoc]
      rfl
    · rw [h2]
      rfl
    · rw [List.length_cons, h3]
theorem mj_pop_0 {n : Nat} {st as rest : List mj_V} (h : mj_pop n st [] = some (as, rest)) : st = as.reverse ++ rest ∧ as.length = n := by
  obtain ⟨p, h1, h2, h3⟩ := mj_pop_eq n st [] as rest h
  rw [List.append_nil] at h1
  rw [h1, List.reverse_reverse, List.length_reverse]
  exact ⟨h2, h3⟩
theorem mj_at_ok {T : mj_T} {pc : Nat} {e : mj_I} {f : mj_I → Bool} (h : mj_at T pc = some e) (hf : (mj_tc T).all (fun ch => ch.all f) = true) : f e = true ∧ e.1 = pc := by
  unfold mj_at at h
  cases hc : (mj_tc T)[pc / 16]? with
  | none => rw [hc] at h; cases h
  | some ch =>
    rw [hc] at h
    dsimp only at h
    have h1 := List.all_eq_true.mp hf ch (List.mem_of_getElem? hc)
    have h2 := List.all_eq_true.mp h1 e (List.mem_of_find?_eq_some h)
    have h3 := List.find?_some h
    exact ⟨h2, by simpa using h3⟩
/-- a method's own word -/
def mj_cw (T : mj_T) : Cond := match mj_th T with
  | [] => .code (mj_tn T) (mj_tb T) (mj_tl T) (mj_tr T)
  | q :: hh => .codeWith (mj_tn T) (mj_tb T) (mj_tl T) (mj_tr T) ((q :: hh).map (fun q => (q.1, q.2.1, q.2.2.1, q.2.2.2.1)))
def mj_ws (T : mj_T) : List Cond := mj_cw T :: mj_tbl
def mj_tab (T : mj_T) : List ExceptionTableEntry := tableOf ((mj_th T).map (fun q => (q.1, q.2.1, q.2.2.1, q.2.2.2.1)))
theorem mj_goodT {T : mj_T} (h : mj_cw T ∈ mj_tbl) : GoodIn mj_tbl (mj_ws T) := by
  intro w hw
  rcases List.mem_cons.mp hw with rfl | hw
  · exact ⟨h, good_of_word (mj_tbl_ok _ h).2⟩
  · exact ⟨hw, good_of_word (mj_tbl_ok _ hw).2⟩
/-- a throw's words: new (pool ik) of exception a, the text (pool b), the constructor (pool v) -/
def mj_okT (T : mj_T) (pc ik a b : Nat) (v : Int32) : Bool :=
  (decide (decode (mj_tb T) (pc + 3) = .ok (.dup, 1)) && (decide (decode (mj_tb T) (pc + 4) = .ok (.ldc b, 2)) && (decide (decode (mj_tb T) (pc + 6) = .ok (.invokespecial v.toNatClampNeg, 3)) && decide (decode (mj_tb T) (pc + 9) = .ok (.athrow, 1))))) &&
  (((match mj_xs[a]? with
    | some (_, _, _, ic) => decide (ic = v.toNatClampNeg)
    | none => false) && decide ((mj_tn T).cls = "ExplainDifference")) && (decide (Cond.classLink (mj_tn T).cls ik (mj_xn a) ∈ mj_wL) && (mj_strs.any (fun q => decide (q.1 = (mj_tn T).cls ∧ q.2.1 = b)) && decide (mj_th T = []))))
/-- a word of an exception's constructors: of the tables, or told apart -/
def mj_kin (w : Cond) : Bool := match w with
  | .fieldLink _ _ _ _ _ => decide (w ∈ mj_wF)
  | .methodLink _ _ _ => decide (w ∈ mj_wM)
  | .instanceMethod _ => decide (w ∈ mj_wI)
  | .selects _ _ _ => decide (w ∈ mj_wS)
  | .code _ _ _ _ => decide (w ∈ mj_wC)
  | .initialized _ => decide (w ∈ mj_wN)
  | .lays _ _ _ _ => decide (w ∈ mj_wY)
  | .native _ => decide (w ∈ mj_wO)
  | .codeSync _ _ _ _ => decide (w ∈ mj_wO)
  | .superclass _ _ => decide (w ∈ mj_wO)
  | .instantiable _ _ => decide (w ∈ mj_wO)
  | .castable C C' => decide (C = C') && mj_xs.any (fun q => decide (q.1 = C))
  | .declares x => decide (x ∈ mj_dcl)
  | _ => false
def mj_atx (q : String × Nat × ByteArray × Nat) : Bool := ((mj_atoms "ExplainDifference" q.2.2.2 q.1 "java/lang/RuntimeException" ["java/lang/Exception"] q.2.1 q.2.2.1).filter vx_no).all (fun w => mj_kin w && vx_ot w) &&
  ((decide (decode q.2.2.1 0 = .ok (.aload_n 0, 1)) && (decide (decode q.2.2.1 1 = .ok (.aload_n 1, 1)) && (decide (decode q.2.2.1 2 = .ok (.invokespecial q.2.1, 3)) && decide (decode q.2.2.1 5 = .ok (.return_, 1))))) && (Bundle.fit q.1 && decide (Cond.initialized q.1 ∈ mj_wN)))
def mj_par (T : mj_T) : Option Nat := (parseMethodDescriptor (mj_tn T).desc).map (fun d => d.parameters.length)
/-- a call's words -/
def mj_okL (S : mj_S) (P : List mj_T) (T : mj_T) (e : mj_I) : Bool := match e.2.1 with
  | .invokevirtual idx => (match P[e.2.2.2.1]? with
      | some T' => (decide (Cond.methodLink (mj_tn T).cls idx (mj_tn T') ∈ mj_wM) && (decide (Cond.instanceMethod (mj_tn T') ∈ mj_wI) && decide (Cond.selects (mj_tn T').cls (mj_tn T') (mj_tn T') ∈ mj_wS))) &&
          ((decide (mj_th T' = []) && (decide (mj_par T' = some (e.2.2.2.2.1 - 1)) && (decide (1 ≤ e.2.2.2.2.1) && decide (e.2.2.2.2.1 ≤ mj_tl T')))) && (match S.1[mj_tp T']? with
            | some (.inl (ci, _)) => decide ((vwCl[ci]?).map (fun q => q.1) = some (mj_tn T').cls)
            | _ => false))
      | none => false)
  | .invokestatic idx => if e.2.2.2.1 < 1000 then (match P[e.2.2.2.1]? with
      | some T' => (decide (Cond.methodLink (mj_tn T).cls idx (mj_tn T') ∈ mj_wM) || (decide (mj_th T' = []) && (decide (e.2.2.2.2.2 = 7) && mj_nest.any (fun q => decide (q.1 = (mj_tn T).cls ∧ q.2.1 = idx ∧ q.2.2.1 = mj_tn T'))))) && (decide (Cond.static (mj_tn T') ∈ mj_wT) && (decide (mj_par T' = some e.2.2.2.2.1) && decide (e.2.2.2.2.1 ≤ mj_tl T')))
      | none => false) else true
  | .new ik => mj_okT T e.1 ik e.2.2.2.1 e.2.2.2.2.1 e.2.2.2.2.2
  | _ => true
/-- a handler: what it names, the store that it begins with -/
def mj_okH (T : mj_T) (q : Nat × Nat × Nat × Nat × Nat × Nat × Nat) : Bool :=
  ((decide (q.2.2.2.1 ≠ 0) && decide (Cond.classLink (mj_tn T).cls q.2.2.2.1 (mj_xn q.2.2.2.2.1) ∈ mj_wL)) && (List.range mj_xs.length).all (fun E => decide (q.2.2.2.2.1 = E) || decide ((mj_xn E, mj_xn q.2.2.2.2.1) ∈ mj_ncs))) && (decide (q.2.2.2.2.2.2 < mj_tl T) && ((decide (decode (mj_tb T) q.2.2.1 = .ok (.astore q.2.2.2.2.2.2, 2)) && decide (q.2.2.2.2.2.1 = q.2.2.1 + 2)) || (decide (decode (mj_tb T) q.2.2.1 = .ok (.astore_n (Fin.ofNat 4 q.2.2.2.2.2.2), 1)) && (decide (q.2.2.2.2.2.2 < 4) && decide (q.2.2.2.2.2.1 = q.2.2.1 + 1)))))
/-- a method's body -/
def mj_okB (S : mj_S) (P : List mj_T) (T : mj_T) : Bool := (mj_th T).all (mj_okH T) && (mj_tc T).all (fun ch => ch.all (fun e => mj_okI S T e && mj_okL S P T e))
/-- a method of the program -/
def mj_okM (S : mj_S) (P : List mj_T) (T : mj_T) : Bool :=
  (decide (mj_cw T ∈ mj_wC) && (decide (Cond.initialized (mj_tn T).cls ∈ mj_wN) && (decide ((mj_tn T).cls ≠ "java/lang/invoke/MethodHandle") && (decide ((mj_tn T).cls ≠ "java/lang/invoke/VarHandle") && (plainName (mj_tn T).cls && decide (mj_tl T ≤ 40)))))) && mj_okB S P T
theorem mj_okMB {S : mj_S} {P : List mj_T} {T : mj_T} (h : mj_okM S P T = true) : mj_okB S P T = true := by
  unfold mj_okM at h
  rw [Bool.and_eq_true] at h
  exact h.2
theorem mj_kin_ok {w : Cond} (h : mj_kin w = true) : w ∈ mj_tbl ∨ (∃ q ∈ mj_xs, w = .castable q.1 q.1) ∨ (∃ x ∈ mj_dcl, w = .declares x) := by
  unfold mj_kin at h
  split at h
  · exact Or.inl (mj_inF (of_decide_eq_true h))
  · exact Or.inl (mj_inM (of_decide_eq_true h))
  · exact Or.inl (mj_inI (of_decide_eq_true h))
  · exact Or.inl (mj_inS (of_decide_eq_true h))
  · exact Or.inl (mj_inC (of_decide_eq_true h))
  · exact Or.inl (mj_inN (of_decide_eq_true h))
  · exact Or.inl (mj_inY (of_decide_eq_true h))
  · exact Or.inl (mj_inO (of_decide_eq_true h))
  · exact Or.inl (mj_inO (of_decide_eq_true h))
  · exact Or.inl (mj_inO (of_decide_eq_true h))
  · exact Or.inl (mj_inO (of_decide_eq_true h))
  · next C C' =>
    rw [Bool.and_eq_true, decide_eq_true_eq] at h
    obtain ⟨rfl, h2⟩ := h
    obtain ⟨q, hq, h3⟩ := List.any_eq_true.mp h2
    rw [decide_eq_true_eq] at h3
    exact Or.inr (Or.inl ⟨q, hq, by rw [h3]⟩)
  · next x => exact Or.inr (Or.inr ⟨x, of_decide_eq_true h, rfl⟩)
  · cases h
theorem mj_ats : mj_xs.all mj_atx = true := by decide +kernel
