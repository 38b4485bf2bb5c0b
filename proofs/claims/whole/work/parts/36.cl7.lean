/-! the class's own calls -/
/-- in state A the class answers v and comes to A'; or throws E -/
def ey_ (X : Nat × (Nat → Int32)) (d : Nat) (T : mj_T) (as : List mj_V) (A : mj_M) (v : Int32) (A' : mj_M) : Prop := ∀ M, rc_ A M → ∃ M', mj_C0 X d T as M (mv_R v M') ∧ rc_ A' M' ∧ fc_ M M'
def ex_ (X : Nat × (Nat → Int32)) (d : Nat) (T : mj_T) (as : List mj_V) (A : mj_M) (E : Nat) : Prop := ∀ M, rc_ A M → mj_C0 X d T as M (mv_X E M)
theorem pd_wi1 {n a b : Int32} : pd_wi n a b = 0 ↔ ¬ (a ≤ n ∧ n ≤ b) := by
  unfold pd_wi
  grind
/-- the time of the last act -/
def aq_lt (A : mj_M) : Int32 := if aq_n A = 0 then 0 else A.1 18 (aq_n A - 1)
def na_ok (A : mj_M) (p g n w : Int32) : Prop := 0 ≤ p ∧ p ≤ 9 ∧ 0 ≤ g ∧ g ≤ 5 ∧ 1 ≤ n ∧ n ≤ 1000 ∧ aq_lt A ≤ w ∧ w ≤ 10000
theorem aq_lt0 {A : mj_M} (hv : vs_A A) : 0 ≤ aq_lt A := by
  unfold aq_lt
  by_cases h : aq_n A = 0
  · rw [if_pos h]
    decide
  · rw [if_neg h]
    obtain ⟨p, g, -, -, -, -, -, -, -, -, h0⟩ := hv.2.1 (aq_n A - 1) (by omega)
    exact h0
theorem on_na {A : mj_M} (hv : vs_A A) {k p o g n w : Int32} : on_ok A k p o g n w ↔ na_ok A p g n w ∧ (k = 2 → 0 ≤ o ∧ o ≤ 9 ∧ ¬ o = p) := by
  have h0 := aq_lt0 hv
  unfold on_ok na_ok
  unfold aq_lt at h0 ⊢
  by_cases h : aq_n A = 0
  · have h2 : ¬ 0 < aq_n A := by omega
    rw [if_pos h] at h0 ⊢
    grind
  · have h2 : 0 < aq_n A := by omega
    rw [if_neg h] at h0 ⊢
    grind
section
variable {X : Nat × (Nat → Int32)} {d : Nat} {M A : mj_M}
theorem pe_need {b : Int32} (h : ¬ b = 0) : mj_C0 X d mt_E_need [mv_i b] M (mv_V M) := by
  refine ev_go rfl ?_
  refine ev_if rfl (fun h1 => ?_) (fun h1 => ?_)
  · exact absurd h1 h
  · refine ev_end rfl ?_
    rfl
theorem pe_need_x {b : Int32} (h : b = 0) : mj_C0 X d mt_E_need [mv_i b] M (mv_X 0 M) := by
  refine ev_go rfl ?_
  refine ev_if rfl (fun h1 => ?_) (fun h1 => ?_)
  · refine ev_end rfl ?_
    rfl
  · exact absurd h h1
theorem pe_needCell {p g : Int32} (h : 0 ≤ p ∧ p ≤ 9 ∧ 0 ≤ g ∧ g ≤ 5) : mj_C0 X (d + 1) mt_E_needCell [mv_i p, mv_i g] M (mv_V M) := by
  iterate 3 refine ev_go rfl ?_
  refine ev_callr rfl rfl rfl pe_isWithin ?_
  refine ev_if rfl (fun h7 => ?_) (fun h7 => ?_)
  · exfalso
    grind [pd_wi1]
  · iterate 3 refine ev_go rfl ?_
    refine ev_callr rfl rfl rfl pe_isWithin ?_
    refine ev_if rfl (fun h16 => ?_) (fun h16 => ?_)
    · exfalso
      grind [pd_wi1]
    · iterate 2 refine ev_go rfl ?_
      refine ev_callv rfl rfl rfl (pe_need (by decide)) ?_
      refine ev_end rfl ?_
      rfl
theorem pe_needCell_x {p g : Int32} (h : ¬ (0 ≤ p ∧ p ≤ 9 ∧ 0 ≤ g ∧ g ≤ 5)) : mj_C0 X (d + 1) mt_E_needCell [mv_i p, mv_i g] M (mv_X 0 M) := by
  iterate 3 refine ev_go rfl ?_
  refine ev_callr rfl rfl rfl pe_isWithin ?_
  refine ev_if rfl (fun h7 => ?_) (fun h7 => ?_)
  · refine ev_go rfl ?_
    exact ev_callx rfl rfl rfl (pe_need_x rfl) rfl
  · iterate 3 refine ev_go rfl ?_
    refine ev_callr rfl rfl rfl pe_isWithin ?_
    refine ev_if rfl (fun h16 => ?_) (fun h16 => ?_)
    · refine ev_go rfl ?_
      exact ev_callx rfl rfl rfl (pe_need_x rfl) rfl
    · exfalso
      grind [pd_wi1]
theorem pe_needThere {i N : Nat} (h : i < N) (hN : N < 2 ^ 31) : mj_C0 X (d + 1) mt_E_needThere [mv_i (nI i), mv_i (nI N)] M (mv_V M) := by
  have h1 : 0 ≤ nI i := nI_pos' (by omega)
  have h2 : nI i ≤ nI N - 1 := (pk_m1le (by omega) (by omega)).2 h
  iterate 5 refine ev_go rfl ?_
  refine ev_callr rfl rfl rfl pe_isWithin ?_
  refine ev_if rfl (fun h8 => ?_) (fun h8 => ?_)
  · exact absurd h8 (by rw [pd_wi1]; exact fun q => q ⟨h1, h2⟩)
  · refine ev_end rfl ?_
    rfl
theorem pe_needThere_x {i : Int32} {N : Nat} (hN : N < 2 ^ 31) (h : i < 0 ∨ ¬ i < nI N) : mj_C0 X (d + 1) mt_E_needThere [mv_i i, mv_i (nI N)] M (mv_X 2 M) := by
  have h2 : ¬ (0 ≤ i ∧ i ≤ nI N - 1) := by
    rintro ⟨q1, q2⟩
    obtain ⟨j, hj, e⟩ := nI_of (x := i) (by grind)
    subst e
    have q3 := (pk_m1le hj hN).1 q2
    rcases h with h | h
    · grind
    · exact h (nI_lt q3 hN)
  iterate 5 refine ev_go rfl ?_
  refine ev_callr rfl rfl rfl pe_isWithin ?_
  refine ev_if rfl (fun h8 => ?_) (fun h8 => ?_)
  · refine ev_end rfl ?_
    rfl
  · exact absurd (pd_wi1.2 h2) h8
theorem pe_needRoom (h : ¬ 24 ≤ M.1 1 3) : mj_C0 X d mt_E_needRoom [mv_p 0] M (mv_V M) := by
  iterate 4 refine ev_go rfl ?_
  refine ev_if rfl (fun h9 => ?_) (fun h9 => ?_)
  · refine ev_end rfl ?_
    rfl
  · exfalso
    grind
theorem pe_needRoom_x (h : 24 ≤ M.1 1 3) : mj_C0 X d mt_E_needRoom [mv_p 0] M (mv_X 1 M) := by
  iterate 4 refine ev_go rfl ?_
  refine ev_if rfl (fun h9 => ?_) (fun h9 => ?_)
  · exfalso
    grind
  · refine ev_end rfl ?_
    rfl
theorem pl_lastTime2 (hv : vs_A A) (hb : rc_b A M) : mj_C0 X d mt_L_lastTime [mv_p 1] M (mv_R (aq_lt A) M) := by
  have hn : M.1 1 3 = nI (aq_n A) := hb.2.2.1.trans hv.1.1
  have key := pl_lastTime (X := X) (d := d) hn hv.1.2
  have e : (if aq_n A = 0 then 0 else M.1 (pr_ (aq_n A - 1)) 5) = aq_lt A := by
    unfold aq_lt
    by_cases h : aq_n A = 0
    · rw [if_pos h, if_pos h]
    · rw [if_neg h, if_neg h]
      exact hb.1 (aq_n A - 1) (by have := hv.1.2; omega) 5 (by decide)
  rw [e] at key
  exact key
theorem pe_needAct {p g n w : Int32} (hv : vs_A A) (hb : rc_b A M) (h : na_ok A p g n w) : mj_C0 X (d + 2) mt_E_needAct [mv_p 0, mv_i p, mv_i g, mv_i n, mv_i w] M (mv_V M) := by
  unfold na_ok at h
  iterate 2 refine ev_go rfl ?_
  refine ev_callv rfl rfl rfl (pe_needCell (by grind)) ?_
  iterate 3 refine ev_go rfl ?_
  refine ev_callr rfl rfl rfl pe_isWithin ?_
  refine ev_callv rfl rfl rfl (pe_need (by rw [pd_wi1]; grind)) ?_
  iterate 3 refine ev_go rfl ?_
  refine ev_callr rfl rfl rfl (pl_lastTime2 hv hb) ?_
  refine ev_go rfl ?_
  refine ev_callr rfl rfl rfl pe_isWithin ?_
  refine ev_callv rfl rfl rfl (pe_need (by rw [pd_wi1]; grind)) ?_
  refine ev_end rfl ?_
  rfl
theorem pe_needAct_x {p g n w : Int32} (hv : vs_A A) (hb : rc_b A M) (h : ¬ na_ok A p g n w) : mj_C0 X (d + 2) mt_E_needAct [mv_p 0, mv_i p, mv_i g, mv_i n, mv_i w] M (mv_X 0 M) := by
  unfold na_ok at h
  by_cases h1 : 0 ≤ p ∧ p ≤ 9 ∧ 0 ≤ g ∧ g ≤ 5
  · by_cases h2 : 1 ≤ n ∧ n ≤ 1000
    · have h3 : ¬ (aq_lt A ≤ w ∧ w ≤ 10000) := by grind
      iterate 2 refine ev_go rfl ?_
      refine ev_callv rfl rfl rfl (pe_needCell h1) ?_
      iterate 3 refine ev_go rfl ?_
      refine ev_callr rfl rfl rfl pe_isWithin ?_
      refine ev_callv rfl rfl rfl (pe_need (by rw [pd_wi1]; exact fun q => q h2)) ?_
      iterate 3 refine ev_go rfl ?_
      refine ev_callr rfl rfl rfl (pl_lastTime2 hv hb) ?_
      refine ev_go rfl ?_
      refine ev_callr rfl rfl rfl pe_isWithin ?_
      exact ev_callx rfl rfl rfl (pe_need_x (pd_wi1.2 h3)) rfl
    · iterate 2 refine ev_go rfl ?_
      refine ev_callv rfl rfl rfl (pe_needCell h1) ?_
      iterate 3 refine ev_go rfl ?_
      refine ev_callr rfl rfl rfl pe_isWithin ?_
      exact ev_callx rfl rfl rfl (pe_need_x (pd_wi1.2 h2)) rfl
  · iterate 2 refine ev_go rfl ?_
    exact ev_callx rfl rfl rfl (pe_needCell_x h1) rfl
theorem rc_24 (hv : vs_A A) (h : rc_ A M) : (24 ≤ M.1 1 3 ↔ aq_n A = 24) ∧ M.1 1 3 = nI (aq_n A) := by
  have e : M.1 1 3 = nI (aq_n A) := h.1.2.2.1.trans hv.1.1
  have hl := hv.1.2
  refine ⟨?_, e⟩
  rw [e, show (24 : Int32) = nI 24 from rfl, nI_leI (by decide) (by omega)]
  omega
theorem py_put {p g n w : Int32} (hv : vs_A A) (hl : aq_n A < 24) (h : na_ok A p g n w) (hr : vs_rw (on_st A 0 p (-1) g n w) (aq_n A)) : ey_ X (d + 4) mt_E_put [mv_p 0, mv_i p, mv_i g, mv_i n, mv_i w] A (nI (aq_n A)) (on_st A 0 p (-1) g n w) := by
  intro M hM
  obtain ⟨r1, r2, r3⟩ := rc_on hv hl hr hM
  obtain ⟨t1, t2⟩ := rc_24 hv hM
  refine ⟨_, ?_, r1, r2⟩
  iterate 5 refine ev_go rfl ?_
  refine ev_callv rfl rfl rfl (pe_needAct hv hM.1 h) ?_
  refine ev_go rfl ?_
  refine ev_callv rfl rfl rfl (pe_needRoom (by rw [t1]; omega)) ?_
  iterate 8 refine ev_go rfl ?_
  refine ev_callr rfl rfl rfl (pl_add t2 hl r3) ?_
  refine ev_end rfl ?_
  rfl
theorem px_put {p g n w : Int32} (hv : vs_A A) (h : ¬ na_ok A p g n w) : ex_ X (d + 4) mt_E_put [mv_p 0, mv_i p, mv_i g, mv_i n, mv_i w] A 0 := by
  intro M hM
  iterate 5 refine ev_go rfl ?_
  exact ev_callx rfl rfl rfl (pe_needAct_x hv hM.1 h) rfl
theorem pz_put {p g n w : Int32} (hv : vs_A A) (hl : aq_n A = 24) (h : na_ok A p g n w) : ex_ X (d + 4) mt_E_put [mv_p 0, mv_i p, mv_i g, mv_i n, mv_i w] A 1 := by
  intro M hM
  obtain ⟨t1, t2⟩ := rc_24 hv hM
  iterate 5 refine ev_go rfl ?_
  refine ev_callv rfl rfl rfl (pe_needAct hv hM.1 h) ?_
  refine ev_go rfl ?_
  exact ev_callx rfl rfl rfl (pe_needRoom_x (t1.2 hl)) rfl
theorem py_take {p g n w : Int32} (hv : vs_A A) (hl : aq_n A < 24) (h : na_ok A p g n w) (hr : vs_rw (on_st A 1 p (-1) g n w) (aq_n A)) : ey_ X (d + 4) mt_E_take [mv_p 0, mv_i p, mv_i g, mv_i n, mv_i w] A (nI (aq_n A)) (on_st A 1 p (-1) g n w) := by
  intro M hM
  obtain ⟨r1, r2, r3⟩ := rc_on hv hl hr hM
  obtain ⟨t1, t2⟩ := rc_24 hv hM
  refine ⟨_, ?_, r1, r2⟩
  iterate 5 refine ev_go rfl ?_
  refine ev_callv rfl rfl rfl (pe_needAct hv hM.1 h) ?_
  refine ev_go rfl ?_
  refine ev_callv rfl rfl rfl (pe_needRoom (by rw [t1]; omega)) ?_
  iterate 8 refine ev_go rfl ?_
  refine ev_callr rfl rfl rfl (pl_add t2 hl r3) ?_
  refine ev_end rfl ?_
  rfl
theorem px_take {p g n w : Int32} (hv : vs_A A) (h : ¬ na_ok A p g n w) : ex_ X (d + 4) mt_E_take [mv_p 0, mv_i p, mv_i g, mv_i n, mv_i w] A 0 := by
  intro M hM
  iterate 5 refine ev_go rfl ?_
  exact ev_callx rfl rfl rfl (pe_needAct_x hv hM.1 h) rfl
theorem pz_take {p g n w : Int32} (hv : vs_A A) (hl : aq_n A = 24) (h : na_ok A p g n w) : ex_ X (d + 4) mt_E_take [mv_p 0, mv_i p, mv_i g, mv_i n, mv_i w] A 1 := by
  intro M hM
  obtain ⟨t1, t2⟩ := rc_24 hv hM
  iterate 5 refine ev_go rfl ?_
  refine ev_callv rfl rfl rfl (pe_needAct hv hM.1 h) ?_
  refine ev_go rfl ?_
  exact ev_callx rfl rfl rfl (pe_needRoom_x (t1.2 hl)) rfl
theorem py_move {p o g n w : Int32} (hv : vs_A A) (hl : aq_n A < 24) (h : na_ok A p g n w) (h2 : 0 ≤ o ∧ o ≤ 9 ∧ ¬ o = p) (hr : vs_rw (on_st A 2 p o g n w) (aq_n A)) : ey_ X (d + 4) mt_E_move [mv_p 0, mv_i p, mv_i o, mv_i g, mv_i n, mv_i w] A (nI (aq_n A)) (on_st A 2 p o g n w) := by
  intro M hM
  obtain ⟨r1, r2, r3⟩ := rc_on hv hl hr hM
  obtain ⟨t1, t2⟩ := rc_24 hv hM
  refine ⟨_, ?_, r1, r2⟩
  iterate 5 refine ev_go rfl ?_
  refine ev_callv rfl rfl rfl (pe_needAct hv hM.1 h) ?_
  iterate 3 refine ev_go rfl ?_
  refine ev_callr rfl rfl rfl pe_isWithin ?_
  refine ev_if rfl (fun h17 => ?_) (fun h17 => ?_)
  · exfalso
    grind [pd_wi1]
  · iterate 2 refine ev_go rfl ?_
    refine ev_if rfl (fun h22 => ?_) (fun h22 => ?_)
    · exfalso
      grind [pd_wi1]
    · iterate 2 refine ev_go rfl ?_
      refine ev_callv rfl rfl rfl (pe_need (by decide)) ?_
      refine ev_go rfl ?_
      refine ev_callv rfl rfl rfl (pe_needRoom (by rw [t1]; omega)) ?_
      iterate 8 refine ev_go rfl ?_
      refine ev_callr rfl rfl rfl (pl_add t2 hl r3) ?_
      refine ev_end rfl ?_
      rfl
theorem px_move {p o g n w : Int32} (hv : vs_A A) (h : ¬ (na_ok A p g n w ∧ (0 ≤ o ∧ o ≤ 9 ∧ ¬ o = p))) : ex_ X (d + 4) mt_E_move [mv_p 0, mv_i p, mv_i o, mv_i g, mv_i n, mv_i w] A 0 := by
  intro M hM
  by_cases h1 : na_ok A p g n w
  · have h2 : ¬ (0 ≤ o ∧ o ≤ 9 ∧ ¬ o = p) := fun q => h ⟨h1, q⟩
    iterate 5 refine ev_go rfl ?_
    refine ev_callv rfl rfl rfl (pe_needAct hv hM.1 h1) ?_
    iterate 3 refine ev_go rfl ?_
    refine ev_callr rfl rfl rfl pe_isWithin ?_
    refine ev_if rfl (fun h17 => ?_) (fun h17 => ?_)
    · refine ev_go rfl ?_
      exact ev_callx rfl rfl rfl (pe_need_x rfl) rfl
    · iterate 2 refine ev_go rfl ?_
      refine ev_if rfl (fun h22 => ?_) (fun h22 => ?_)
      · refine ev_go rfl ?_
        exact ev_callx rfl rfl rfl (pe_need_x rfl) rfl
      · exfalso
        grind [pd_wi1]
  · iterate 5 refine ev_go rfl ?_
    exact ev_callx rfl rfl rfl (pe_needAct_x hv hM.1 h1) rfl
theorem pz_move {p o g n w : Int32} (hv : vs_A A) (hl : aq_n A = 24) (h : na_ok A p g n w) (h2 : 0 ≤ o ∧ o ≤ 9 ∧ ¬ o = p) : ex_ X (d + 4) mt_E_move [mv_p 0, mv_i p, mv_i o, mv_i g, mv_i n, mv_i w] A 1 := by
  intro M hM
  obtain ⟨t1, t2⟩ := rc_24 hv hM
  iterate 5 refine ev_go rfl ?_
  refine ev_callv rfl rfl rfl (pe_needAct hv hM.1 h) ?_
  iterate 3 refine ev_go rfl ?_
  refine ev_callr rfl rfl rfl pe_isWithin ?_
  refine ev_if rfl (fun h17 => ?_) (fun h17 => ?_)
  · exfalso
    grind [pd_wi1]
  · iterate 2 refine ev_go rfl ?_
    refine ev_if rfl (fun h22 => ?_) (fun h22 => ?_)
    · exfalso
      grind [pd_wi1]
    · iterate 2 refine ev_go rfl ?_
      refine ev_callv rfl rfl rfl (pe_need (by decide)) ?_
      refine ev_go rfl ?_
      exact ev_callx rfl rfl rfl (pe_needRoom_x (t1.2 hl)) rfl
end
