/-! the class's memory against the state; what its ledger answers -/
def rc_b (A M : mj_M) : Prop := (∀ a, a < 24 → ∀ j, j < 8 → M.1 (pr_ a) j = A.1 (13 + j) a) ∧ (∀ c, c < 60 → M.1 5 c = A.1 21 c) ∧ M.1 1 3 = A.1 12 1 ∧ M.1 1 5 = A.1 12 10 ∧ M.1 1 6 = A.1 12 11
def rc_L (A : mj_M) (L : Nat → Int32) (M : mj_M) : Prop := (∀ c, c < 60 → M.1 4 c = L c) ∧ M.1 1 4 = aq_nd A L
def rc_s (A M : mj_M) : Prop := M.1 2 9 = A.1 12 14 ∧ M.1 2 10 = A.1 12 15 ∧ M.1 2 11 = A.1 12 17 ∧ (∀ a, a < 24 → M.1 11 a = A.1 22 a) ∧ (∀ i, i < (A.1 12 17).toNatClampNeg → ∃ a h, a < 24 ∧ h < 2 ∧ M.1 9 i = nI a ∧ M.1 10 i = nI h ∧ A.1 23 i = nI (2 * a + h))
def rc_ (A M : mj_M) : Prop := rc_b A M ∧ rc_L A (aq_E A) M ∧ rc_s A M ∧ M.1 2 12 = A.1 12 13
/-- cells that the class's own calls change and others leave -/
theorem rc_.fm {A M M' : mj_M} (h : rc_ A M) (f : fm_ M M') : rc_ A M' := by
  obtain ⟨⟨a1, a2, a3, a4, a5⟩, ⟨b1, b2⟩, ⟨c1, c2, c3, c4, c5⟩, d1⟩ := h
  have g : ∀ q j, q < 12 ∨ 28 ≤ q → M'.1 q j = M.1 q j := f.2
  refine ⟨⟨fun a ha j hj => ?_, fun c hc => ?_, ?_, ?_, ?_⟩, ⟨fun c hc => ?_, ?_⟩, ⟨?_, ?_, ?_, fun a ha => ?_, fun i hi => ?_⟩, ?_⟩
  · rw [g _ _ (by rw [pr_e]; omega)]; exact a1 a ha j hj
  · rw [g _ _ (by omega)]; exact a2 c hc
  · rw [g _ _ (by omega)]; exact a3
  · rw [g _ _ (by omega)]; exact a4
  · rw [g _ _ (by omega)]; exact a5
  · rw [g _ _ (by omega)]; exact b1 c hc
  · rw [g _ _ (by omega)]; exact b2
  · rw [g _ _ (by omega)]; exact c1
  · rw [g _ _ (by omega)]; exact c2
  · rw [g _ _ (by omega)]; exact c3
  · rw [g _ _ (by omega)]; exact c4 a ha
  · rw [g _ _ (by omega), g _ _ (by omega)]; exact c5 i hi
  · rw [g _ _ (by omega)]; exact d1
theorem rc_b.pv {A M : mj_M} {a : Nat} (h : rc_b A M) (ha : a < 24) (hr : vs_rw A a) : pv_row M a ∧ pd_c1 M a = aq_c1 A a ∧ pd_c2 M a = aq_c2 A a := by
  have e0 := h.1 a ha 0 (by decide)
  have e1 := h.1 a ha 1 (by decide)
  have e2 := h.1 a ha 2 (by decide)
  have e3 := h.1 a ha 3 (by decide)
  obtain ⟨p, g, hp, hg, f1, f2, f3, -⟩ := hr
  refine ⟨⟨p, g, hp, hg, e1.trans f1, e3.trans f2, fun q => ?_⟩, ?_, ?_⟩
  · obtain ⟨t, ht, -, f4⟩ := f3 (e0.symm.trans q)
    exact ⟨t, ht, e2.trans f4⟩
  · unfold pd_c1 aq_c1
    rw [e1, e3, Int32.mul_comm]
  · unfold pd_c2 aq_c2
    rw [e2, e3, Int32.mul_comm]
/-- 1 where a cell of the act is counted -/
def aq_cc (A : mj_M) (a : Nat) : Int32 := if ¬ A.1 21 (aq_c1 A a) < 0 ∨ A.1 13 a = 2 ∧ ¬ A.1 21 (aq_c2 A a) < 0 then 1 else 0
def aq_ci (A : mj_M) (w : Nat) (v : Int32) (a : Nat) : Int32 := if A.1 (13 + w) a = v then 1 else 0
theorem i_m1 {x : Int32} (h : -1 ≤ x) : x = -1 ↔ x < 0 := by grind
section
variable {X : Nat × (Nat → Int32)} {d : Nat} {M A s : mj_M}
theorem pl_isAtCountedCell {a : Nat} (ha : a < 24) (hr : vs_rw A a) (hb : rc_b A M) (ht : ∀ c, -1 ≤ A.1 21 c) : mj_C0 X (d + 1) mt_L_isAtCountedCell [mv_p 1, mv_r a] M (mv_R (aq_cc A a) M) := by
  obtain ⟨hp, g1, g2⟩ := hb.pv ha hr
  obtain ⟨e1, l1⟩ := hp.c1
  have t1 : pd_ct M (pd_c1 M a) = if A.1 21 (aq_c1 A a) < 0 then 0 else 1 := by
    unfold pd_ct
    rw [g1] at l1 ⊢
    rw [hb.2.1 _ l1]
    simp only [i_m1 (ht _)]
  have e0 : M.1 (pr_ a) 0 = A.1 13 a := hb.1 a ha 0 (by decide)
  iterate 3 refine ev_go rfl ?_
  refine ev_ok ⟨ha, by decide⟩ rfl ?_
  iterate 2 refine ev_go rfl ?_
  refine ev_ok ⟨ha, by decide⟩ rfl ?_
  refine ev_callr rfl rfl rfl pe_cellOf ?_
  simp only [tn_1, tn_3]
  rw [e1]
  refine ev_callr rfl rfl rfl (pl_isCounted l1) ?_
  rw [t1]
  refine ev_if rfl (fun h13 => ?_) (fun h13 => ?_)
  · iterate 2 refine ev_go rfl ?_
    refine ev_ok ⟨ha, by decide⟩ rfl ?_
    refine ev_go rfl ?_
    simp only [tn_0]
    rw [e0]
    refine ev_if rfl (fun h20 => ?_) (fun h20 => ?_)
    · iterate 3 refine ev_go rfl ?_
      refine ev_ok ⟨ha, by decide⟩ rfl ?_
      iterate 2 refine ev_go rfl ?_
      refine ev_ok ⟨ha, by decide⟩ rfl ?_
      refine ev_callr rfl rfl rfl pe_cellOf ?_
      simp only [tn_2, tn_3]
      obtain ⟨e2, l2⟩ := hp.c2 (e0.trans h20)
      have t2 : pd_ct M (pd_c2 M a) = if A.1 21 (aq_c2 A a) < 0 then 0 else 1 := by
        unfold pd_ct
        rw [g2] at l2 ⊢
        rw [hb.2.1 _ l2]
        simp only [i_m1 (ht _)]
      rw [e2]
      refine ev_callr rfl rfl rfl (pl_isCounted l2) ?_
      rw [t2]
      refine ev_if rfl (fun h36 => ?_) (fun h36 => ?_)
      · refine ev_go rfl ?_
        refine ev_end rfl ?_
        show some (mv_R _ M) = some (mv_R _ M)
        unfold aq_cc
        grind
      · iterate 2 refine ev_go rfl ?_
        refine ev_end rfl ?_
        show some (mv_R _ M) = some (mv_R _ M)
        unfold aq_cc
        grind
    · refine ev_go rfl ?_
      refine ev_end rfl ?_
      show some (mv_R _ M) = some (mv_R _ M)
      unfold aq_cc
      grind
  · iterate 2 refine ev_go rfl ?_
    refine ev_end rfl ?_
    show some (mv_R _ M) = some (mv_R _ M)
    unfold aq_cc
    grind
theorem pl_isCandidate {a : Nat} (ha : a < 24) (hr : vs_rw A a) (hb : rc_b A M) (ht : ∀ c, -1 ≤ A.1 21 c) : mj_C0 X (d + 2) mt_L_isCandidate [mv_p 1, mv_i (nI a)] M (mv_R (aq_ca A a) M) := by
  have h1 : mj_in (nI a) 24 := nI_in ha (by decide)
  have h2 : (nI a).toNatClampNeg = a := nI_clamp (by omega)
  have e5 : M.1 (pr_ a) 5 = A.1 18 a := hb.1 a ha 5 (by decide)
  have e6 : M.1 (pr_ a) 6 = A.1 19 a := hb.1 a ha 6 (by decide)
  have e7 : M.1 (pr_ a) 7 = A.1 20 a := hb.1 a ha 7 (by decide)
  have f5 := hb.2.2.2.1
  have f6 := hb.2.2.2.2
  iterate 3 refine ev_go rfl ?_
  refine ev_ok h1 rfl ?_
  rw [h2]
  iterate 3 refine ev_go rfl ?_
  refine ev_ok ⟨ha, by decide⟩ rfl ?_
  simp only [tn_6]
  rw [e6]
  refine ev_if rfl (fun h11 => ?_) (fun h11 => ?_)
  · iterate 2 refine ev_go rfl ?_
    refine ev_ok ⟨ha, by decide⟩ rfl ?_
    simp only [tn_7]
    rw [e7]
    refine ev_if rfl (fun h18 => ?_) (fun h18 => ?_)
    · iterate 2 refine ev_go rfl ?_
      refine ev_ok ⟨ha, by decide⟩ rfl ?_
      iterate 4 refine ev_go rfl ?_
      simp only [tn_5]
      rw [e5, f5, f6]
      refine ev_callr rfl rfl rfl pe_isWithin ?_
      refine ev_if rfl (fun h35 => ?_) (fun h35 => ?_)
      · refine ev_go rfl ?_
        refine ev_end rfl ?_
        show some (mv_R _ M) = some (mv_R _ M)
        unfold aq_ca
        try unfold pd_wi at *
        try unfold aq_cc at *
        grind
      · iterate 2 refine ev_go rfl ?_
        refine ev_callr rfl rfl rfl (pl_isAtCountedCell ha hr hb ht) ?_
        refine ev_if rfl (fun h43 => ?_) (fun h43 => ?_)
        · refine ev_go rfl ?_
          refine ev_end rfl ?_
          show some (mv_R _ M) = some (mv_R _ M)
          unfold aq_ca
          try unfold pd_wi at *
          try unfold aq_cc at *
          grind
        · iterate 2 refine ev_go rfl ?_
          refine ev_end rfl ?_
          show some (mv_R _ M) = some (mv_R _ M)
          unfold aq_ca
          try unfold pd_wi at *
          try unfold aq_cc at *
          grind
    · refine ev_go rfl ?_
      refine ev_end rfl ?_
      show some (mv_R _ M) = some (mv_R _ M)
      unfold aq_ca
      try unfold pd_wi at *
      try unfold aq_cc at *
      grind
  · refine ev_go rfl ?_
    refine ev_end rfl ?_
    show some (mv_R _ M) = some (mv_R _ M)
    unfold aq_ca
    try unfold pd_wi at *
    try unfold aq_cc at *
    grind
theorem pl_candidates_l {X : Nat × (Nat → Int32)} {d : Nat} {M A : mj_M} (hv : vs_A A) (hb : rc_b A M) : ∀ j k, k + j = aq_n A → mj_Ev mj_S0 X mj_P (d + 3) mt_L_candidates 4 (mj_up (mj_up (fun j => [mv_p 1][j]?) 1 (mv_i (sm (aq_ca A) k))) 2 (mv_i (nI k))) [] M 0 (mv_R (sm (aq_ca A) (aq_n A)) M) := by
  have hl := hv.1.2
  intro j
  induction j with
  | zero =>
    intro k hk
    iterate 3 refine ev_go rfl ?_
    refine ev_if rfl (fun h9 => ?_) (fun h9 => ?_)
    · refine ev_go rfl ?_
      refine ev_end rfl ?_
      show some _ = some _
      rw [show aq_n A = k by omega]
    · exact absurd (show M.1 1 3 ≤ nI k by rw [hb.2.2.1.trans hv.1.1]; exact nI_le (by omega) (by omega)) h9
  | succ j ih =>
    intro k hk
    iterate 3 refine ev_go rfl ?_
    refine ev_if rfl (fun h9 => ?_) (fun h9 => ?_)
    · exact absurd h9 (by rw [hb.2.2.1.trans hv.1.1]; exact nI_ge (by omega) (by omega))
    · iterate 2 refine ev_go rfl ?_
      refine ev_callr rfl rfl rfl (pl_isCandidate (by omega) (hv.2.1 k (by omega)) hb hv.2.2.2.2.2.1) ?_
      refine ev_if rfl (fun h17 => ?_) (fun h17 => ?_)
      · iterate 2 refine ev_go rfl ?_
        refine ev_lo ?_ (ih (k + 1) (by omega))
        rw [nI_1]
        have ea : sm (aq_ca A) (k + 1) = sm (aq_ca A) k + (aq_ca A) k := rfl
        rw [ea]
        first
          | (have ev : (aq_ca A) k = 0 := h17
             rw [ev, Int32.add_zero, mj_upo])
          | (have ev : (aq_ca A) k = 1 := (by rcases aq_ca01 A k with q | q
                                              · exact absurd q h17
                                              · exact q)
             rw [ev]
             exact mj_upn (i := 1) (j := 2) (by decide))
      · iterate 3 refine ev_go rfl ?_
        refine ev_lo ?_ (ih (k + 1) (by omega))
        rw [nI_1]
        have ea : sm (aq_ca A) (k + 1) = sm (aq_ca A) k + (aq_ca A) k := rfl
        rw [ea]
        first
          | (have ev : (aq_ca A) k = 0 := h17
             rw [ev, Int32.add_zero, mj_upo])
          | (have ev : (aq_ca A) k = 1 := (by rcases aq_ca01 A k with q | q
                                              · exact absurd q h17
                                              · exact q)
             rw [ev]
             exact mj_upn (i := 1) (j := 2) (by decide))
theorem pl_candidates (hv : vs_A A) (hb : rc_b A M) : mj_C0 X (d + 3) mt_L_candidates [mv_p 1] M (mv_R (sm (aq_ca A) (aq_n A)) M) := by
  iterate 4 refine ev_go rfl ?_
  exact pl_candidates_l hv hb (aq_n A) 0 (by omega)
theorem pl_actsWith_l {X : Nat × (Nat → Int32)} {d : Nat} {M A : mj_M} {w : Nat} {v : Int32} (hv : vs_A A) (hb : rc_b A M) (hw : w < 8) : ∀ j k, k + j = aq_n A → mj_Ev mj_S0 X mj_P (d) mt_L_actsWith 5 (mj_up (mj_up (fun j => [mv_p 1, mv_i (nI w), mv_i v][j]?) 3 (mv_i (sm (aq_ci A w v) k))) 4 (mv_i (nI k))) [] M 0 (mv_R (sm (aq_ci A w v) (aq_n A)) M) := by
  have hl := hv.1.2
  intro j
  induction j with
  | zero =>
    intro k hk
    iterate 3 refine ev_go rfl ?_
    refine ev_if rfl (fun h11 => ?_) (fun h11 => ?_)
    · refine ev_go rfl ?_
      refine ev_end rfl ?_
      show some _ = some _
      rw [show aq_n A = k by omega]
    · exact absurd (show M.1 1 3 ≤ nI k by rw [hb.2.2.1.trans hv.1.1]; exact nI_le (by omega) (by omega)) h11
  | succ j ih =>
    intro k hk
    iterate 3 refine ev_go rfl ?_
    refine ev_if rfl (fun h11 => ?_) (fun h11 => ?_)
    · exact absurd h11 (by rw [hb.2.2.1.trans hv.1.1]; exact nI_ge (by omega) (by omega))
    · iterate 3 refine ev_go rfl ?_
      refine ev_ok (nI_in (show k < 24 by omega) (by decide)) rfl ?_
      rw [nI_clamp (by omega)]
      refine ev_go rfl ?_
      refine ev_ok ⟨by omega, nI_in hw (by decide)⟩ rfl ?_
      rw [nI_clamp (by omega)]
      rw [hb.1 k (by omega) w hw]
      refine ev_go rfl ?_
      refine ev_if rfl (fun h24 => ?_) (fun h24 => ?_)
      · iterate 3 refine ev_go rfl ?_
        refine ev_lo ?_ (ih (k + 1) (by omega))
        rw [nI_1]
        have ea : sm (aq_ci A w v) (k + 1) = sm (aq_ci A w v) k + (aq_ci A w v) k := rfl
        rw [ea]
        first
          | (have ev : (aq_ci A w v) k = 0 := if_neg h24
             rw [ev, Int32.add_zero, mj_upo])
          | (have ev : (aq_ci A w v) k = 1 := if_pos h24
             rw [ev]
             exact mj_upn (i := 3) (j := 4) (by decide))
      · iterate 2 refine ev_go rfl ?_
        refine ev_lo ?_ (ih (k + 1) (by omega))
        rw [nI_1]
        have ea : sm (aq_ci A w v) (k + 1) = sm (aq_ci A w v) k + (aq_ci A w v) k := rfl
        rw [ea]
        first
          | (have ev : (aq_ci A w v) k = 0 := if_neg h24
             rw [ev, Int32.add_zero, mj_upo])
          | (have ev : (aq_ci A w v) k = 1 := if_pos h24
             rw [ev]
             exact mj_upn (i := 3) (j := 4) (by decide))
theorem pl_actsWith {w : Nat} {v : Int32} (hv : vs_A A) (hb : rc_b A M) (hw : w < 8) : mj_C0 X d mt_L_actsWith [mv_p 1, mv_i (nI w), mv_i v] M (mv_R (sm (aq_ci A w v) (aq_n A)) M) := by
  iterate 4 refine ev_go rfl ?_
  exact pl_actsWith_l hv hb hw (aq_n A) 0 (by omega)
theorem pl_countedCells_l {X : Nat × (Nat → Int32)} {d : Nat} {M A : mj_M} (hb : rc_b A M) (ht : ∀ c, -1 ≤ A.1 21 c) : ∀ j k, k + j = 60 → mj_Ev mj_S0 X mj_P (d + 1) mt_L_countedCells 4 (mj_up (mj_up (fun j => [mv_p 1][j]?) 1 (mv_i (sm (aq_so A) k))) 2 (mv_i (nI k))) [] M 0 (mv_R (sm (aq_so A) 60) M) := by
  intro j
  induction j with
  | zero =>
    intro k hk
    iterate 2 refine ev_go rfl ?_
    refine ev_if rfl (fun h7 => ?_) (fun h7 => ?_)
    · refine ev_go rfl ?_
      refine ev_end rfl ?_
      show some _ = some _
      rw [show k = 60 by omega]
    · exact absurd (show (60 : Int32) ≤ nI k by rw [show (60 : Int32) = nI 60 from rfl]; exact nI_le (by omega) (by omega)) h7
  | succ j ih =>
    intro k hk
    iterate 2 refine ev_go rfl ?_
    refine ev_if rfl (fun h7 => ?_) (fun h7 => ?_)
    · exact absurd h7 (by rw [show (60 : Int32) = nI 60 from rfl]; exact nI_ge (by omega) (by omega))
    · iterate 2 refine ev_go rfl ?_
      refine ev_callr rfl rfl rfl (pl_isCounted (by omega)) ?_
      rw [show pd_ct M k = aq_so A k by unfold pd_ct aq_so; rw [hb.2.1 k (by omega)]; simp only [i_m1 (ht _)]]
      refine ev_if rfl (fun h15 => ?_) (fun h15 => ?_)
      · iterate 2 refine ev_go rfl ?_
        refine ev_lo ?_ (ih (k + 1) (by omega))
        rw [nI_1]
        have ea : sm (aq_so A) (k + 1) = sm (aq_so A) k + (aq_so A) k := rfl
        rw [ea]
        first
          | (have ev : (aq_so A) k = 0 := h15
             rw [ev, Int32.add_zero, mj_upo])
          | (have ev : (aq_so A) k = 1 := (by
               unfold aq_so at h15 ⊢
               split
               · rename_i q
                 exact absurd (if_pos q) h15
               · rfl)
             rw [ev]
             exact mj_upn (i := 1) (j := 2) (by decide))
      · iterate 3 refine ev_go rfl ?_
        refine ev_lo ?_ (ih (k + 1) (by omega))
        rw [nI_1]
        have ea : sm (aq_so A) (k + 1) = sm (aq_so A) k + (aq_so A) k := rfl
        rw [ea]
        first
          | (have ev : (aq_so A) k = 0 := h15
             rw [ev, Int32.add_zero, mj_upo])
          | (have ev : (aq_so A) k = 1 := (by
               unfold aq_so at h15 ⊢
               split
               · rename_i q
                 exact absurd (if_pos q) h15
               · rfl)
             rw [ev]
             exact mj_upn (i := 1) (j := 2) (by decide))
theorem pl_countedCells (hb : rc_b A M) (ht : ∀ c, -1 ≤ A.1 21 c) : mj_C0 X (d + 1) mt_L_countedCells [mv_p 1] M (mv_R (sm (aq_so A) 60) M) := by
  iterate 4 refine ev_go rfl ?_
  exact pl_countedCells_l hb ht 60 0 (by omega)
theorem pd_w {c : Nat} {L : Nat → Int32} (hc : c < 60) (hb : rc_b A M) (hL : rc_L A L M) (ht : ∀ c, -1 ≤ A.1 21 c) : pd_dif M c = aq_w A L c := by
  unfold pd_dif aq_w aq_df
  rw [hb.2.1 c hc, hL.1 c hc]
  have := ht c
  grind
theorem pd_ab {c : Nat} (hc : c < 60) (hb : rc_b A M) (hL : rc_L A (aq_E A) M) (ht : ∀ c, -1 ≤ A.1 21 c) : pd_dif M c * (if 0 ≤ M.1 5 c - M.1 4 c then M.1 5 c - M.1 4 c else 0 - (M.1 5 c - M.1 4 c)) = aq_ab A c := by
  rw [pd_w hc hb hL ht, hb.2.1 c hc, hL.1 c hc]
  unfold aq_ab aq_w aq_df
  have := ht c
  grind
theorem pl_pieces_l {X : Nat × (Nat → Int32)} {d : Nat} {M A : mj_M} (hb : rc_b A M) (hL : rc_L A (aq_E A) M) (ht : ∀ c, -1 ≤ A.1 21 c) : ∀ j k, k + j = 60 → mj_Ev mj_S0 X mj_P (d + 1) mt_L_piecesOfDifferences 4 (mj_up (mj_up (fun j => [mv_p 1][j]?) 1 (mv_i (sm (aq_ab A) k))) 2 (mv_i (nI k))) [] M 0 (mv_R (sm (aq_ab A) 60) M) := by
  intro j
  induction j with
  | zero =>
    intro k hk
    iterate 2 refine ev_go rfl ?_
    refine ev_if rfl (fun h7 => ?_) (fun h7 => ?_)
    · refine ev_go rfl ?_
      refine ev_end rfl ?_
      show some _ = some _
      rw [show k = 60 by omega]
    · exact absurd (show (60 : Int32) ≤ nI k by rw [show (60 : Int32) = nI 60 from rfl]; exact nI_le (by omega) (by omega)) h7
  | succ j ih =>
    intro k hk
    iterate 2 refine ev_go rfl ?_
    refine ev_if rfl (fun h7 => ?_) (fun h7 => ?_)
    · exact absurd h7 (by rw [show (60 : Int32) = nI 60 from rfl]; exact nI_ge (by omega) (by omega))
    · iterate 3 refine ev_go rfl ?_
      refine ev_callr rfl rfl rfl (pl_differs (by omega)) ?_
      iterate 2 refine ev_go rfl ?_
      refine ev_callr rfl rfl rfl (pl_gap (by omega)) ?_
      iterate 6 refine ev_go rfl ?_
      refine ev_lo ?_ (ih (k + 1) (by omega))
      rw [nI_1]
      have ea : sm (aq_ab A) (k + 1) = sm (aq_ab A) k + aq_ab A k := rfl
      rw [ea, ← pd_ab (by omega) hb hL ht]
      exact mj_upn (i := 1) (j := 2) (by decide)
theorem pl_pieces (hb : rc_b A M) (hL : rc_L A (aq_E A) M) (ht : ∀ c, -1 ≤ A.1 21 c) : mj_C0 X (d + 1) mt_L_piecesOfDifferences [mv_p 1] M (mv_R (sm (aq_ab A) 60) M) := by
  iterate 4 refine ev_go rfl ?_
  exact pl_pieces_l hb hL ht 60 0 (by omega)
end
