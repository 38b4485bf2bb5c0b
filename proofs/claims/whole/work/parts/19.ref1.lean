/-! pure walks: what the reference asks of its state -/
theorem mj_upc {lo : mj_L} {i j : Nat} {a b : mj_V} (h : i ≠ j) : mj_up (mj_up lo i a) j b = mj_up (mj_up lo j b) i a := by
  funext k
  unfold mj_up
  by_cases h1 : k = j
  · have : k ≠ i := by omega
    simp [h1, Ne.symm h]
  · simp [h1]
theorem ev_lo {S : mj_S} {X : Nat × (Nat → Int32)} {P : List mj_T} {d : Nat} {T : mj_T} {pc : Nat} {lo lo' : mj_L} {st : List mj_V} {M : mj_M} {k : Nat} {r : mj_R} (h : lo = lo') (e : mj_Ev S X P d T pc lo' st M k r) : mj_Ev S X P d T pc lo st M k r := h ▸ e
theorem aq_ca01 (A : mj_M) (a : Nat) : aq_ca A a = 0 ∨ aq_ca A a = 1 := by
  unfold aq_ca
  split
  · exact Or.inr rfl
  · exact Or.inl rfl
section
variable {X : Nat × (Nat → Int32)} {d : Nat} {M : mj_M}
def pd_no (v a b : Int32) : Int32 := if v < a then 1 else if v ≤ b then 0 else 1
theorem pm_not {v a b : Int32} : mj_C0 X d mt_M_not [mv_i v, mv_i a, mv_i b] M (mv_R (pd_no v a b) M) := by
  iterate 2 refine ev_go rfl ?_
  refine ev_if rfl (fun h2 => ?_) (fun h2 => ?_)
  · iterate 2 refine ev_go rfl ?_
    refine ev_end rfl ?_
    show some _ = some _
    simp [pd_no, *]
  · iterate 2 refine ev_go rfl ?_
    refine ev_if rfl (fun h7 => ?_) (fun h7 => ?_)
    · refine ev_go rfl ?_
      refine ev_end rfl ?_
      show some _ = some _
      simp [pd_no, *]
    · iterate 2 refine ev_go rfl ?_
      refine ev_end rfl ?_
      show some _ = some _
      simp [pd_no, *]
def pd_na (M : mj_M) (a : Int32) : Int32 := if a < 0 then 1 else if a < M.1 12 1 then 0 else 1
theorem pm_noAct {a : Int32} : mj_C0 X d mt_M_noAct [mv_p 12, mv_i a] M (mv_R (pd_na M a) M) := by
  refine ev_go rfl ?_
  refine ev_if rfl (fun h1 => ?_) (fun h1 => ?_)
  · iterate 2 refine ev_go rfl ?_
    refine ev_end rfl ?_
    show some _ = some _
    simp [pd_na, *]
  · iterate 3 refine ev_go rfl ?_
    refine ev_if rfl (fun h9 => ?_) (fun h9 => ?_)
    · refine ev_go rfl ?_
      refine ev_end rfl ?_
      show some _ = some _
      simp [pd_na, *]
    · iterate 2 refine ev_go rfl ?_
      refine ev_end rfl ?_
      show some _ = some _
      simp [pd_na, *]
theorem pm_times {a : Nat} (ha : a < 24) : mj_C0 X d mt_M_times [mv_p 12, mv_i (nI a)] M (mv_R (aq_tm M a) M) := by
  have h1 : mj_in (nI a) 24 := nI_in ha (by decide)
  have h2 : (nI a).toNatClampNeg = a := nI_clamp (by omega)
  iterate 3 refine ev_go rfl ?_
  refine ev_ok h1 rfl ?_
  rw [h2]
  refine ev_if rfl (fun h6 => ?_) (fun h6 => ?_)
  · iterate 2 refine ev_go rfl ?_
    refine ev_end rfl ?_
    show some _ = some _
    simp [aq_tm, aq_ts, *]
  · iterate 3 refine ev_go rfl ?_
    refine ev_ok h1 rfl ?_
    refine ev_go rfl ?_
    rw [h2]
    refine ev_if rfl (fun h20 => ?_) (fun h20 => ?_)
    · iterate 2 refine ev_go rfl ?_
      refine ev_end rfl ?_
      show some _ = some _
      simp [aq_tm, aq_ts, *]
    · refine ev_go rfl ?_
      refine ev_end rfl ?_
      show some _ = some _
      simp [aq_tm, aq_ts, *]
theorem pm_adds {a : Nat} {c : Int32} (ha : a < 24) : mj_C0 X d mt_M_adds [mv_p 12, mv_i (nI a), mv_i c] M (mv_R (aq_ad M a c) M) := by
  have h1 : mj_in (nI a) 24 := nI_in ha (by decide)
  have h2 : (nI a).toNatClampNeg = a := nI_clamp (by omega)
  iterate 7 refine ev_go rfl ?_
  refine ev_ok h1 rfl ?_
  iterate 4 refine ev_go rfl ?_
  refine ev_ok h1 rfl ?_
  refine ev_go rfl ?_
  rw [h2]
  refine ev_if rfl (fun h19 => ?_) (fun h19 => ?_)
  · iterate 3 refine ev_go rfl ?_
    refine ev_ok h1 rfl ?_
    rw [h2]
    refine ev_if rfl (fun h28 => ?_) (fun h28 => ?_)
    · iterate 3 refine ev_go rfl ?_
      refine ev_ok h1 rfl ?_
      rw [h2]
      iterate 5 refine ev_go rfl ?_
      refine ev_ok h1 rfl ?_
      rw [h2]
      refine ev_go rfl ?_
      refine ev_if rfl (fun h55 => ?_) (fun h55 => ?_)
      · iterate 5 refine ev_go rfl ?_
        refine ev_ok h1 rfl ?_
        iterate 4 refine ev_go rfl ?_
        refine ev_ok h1 rfl ?_
        refine ev_go rfl ?_
        rw [h2]
        refine ev_if rfl (fun h75 => ?_) (fun h75 => ?_)
        · iterate 3 refine ev_go rfl ?_
          refine ev_ok h1 rfl ?_
          rw [h2]
          iterate 2 refine ev_go rfl ?_
          refine ev_end rfl ?_
          show some (mv_R _ M) = some (mv_R _ M)
          unfold aq_ad
          grind
        · refine ev_go rfl ?_
          refine ev_end rfl ?_
          show some (mv_R _ M) = some (mv_R _ M)
          unfold aq_ad
          grind
      · refine ev_go rfl ?_
        refine ev_end rfl ?_
        show some (mv_R _ M) = some (mv_R _ M)
        unfold aq_ad
        grind
    · iterate 3 refine ev_go rfl ?_
      refine ev_ok h1 rfl ?_
      rw [h2]
      iterate 5 refine ev_go rfl ?_
      refine ev_ok h1 rfl ?_
      rw [h2]
      refine ev_go rfl ?_
      refine ev_if rfl (fun h55 => ?_) (fun h55 => ?_)
      · iterate 5 refine ev_go rfl ?_
        refine ev_ok h1 rfl ?_
        iterate 4 refine ev_go rfl ?_
        refine ev_ok h1 rfl ?_
        refine ev_go rfl ?_
        rw [h2]
        refine ev_if rfl (fun h75 => ?_) (fun h75 => ?_)
        · iterate 3 refine ev_go rfl ?_
          refine ev_ok h1 rfl ?_
          rw [h2]
          iterate 2 refine ev_go rfl ?_
          refine ev_end rfl ?_
          show some (mv_R _ M) = some (mv_R _ M)
          unfold aq_ad
          grind
        · refine ev_go rfl ?_
          refine ev_end rfl ?_
          show some (mv_R _ M) = some (mv_R _ M)
          unfold aq_ad
          grind
      · refine ev_go rfl ?_
        refine ev_end rfl ?_
        show some (mv_R _ M) = some (mv_R _ M)
        unfold aq_ad
        grind
  · iterate 3 refine ev_go rfl ?_
    refine ev_ok h1 rfl ?_
    rw [h2]
    refine ev_go rfl ?_
    refine ev_if rfl (fun h55 => ?_) (fun h55 => ?_)
    · iterate 5 refine ev_go rfl ?_
      refine ev_ok h1 rfl ?_
      iterate 4 refine ev_go rfl ?_
      refine ev_ok h1 rfl ?_
      refine ev_go rfl ?_
      rw [h2]
      refine ev_if rfl (fun h75 => ?_) (fun h75 => ?_)
      · iterate 3 refine ev_go rfl ?_
        refine ev_ok h1 rfl ?_
        rw [h2]
        iterate 2 refine ev_go rfl ?_
        refine ev_end rfl ?_
        show some (mv_R _ M) = some (mv_R _ M)
        unfold aq_ad
        grind
      · refine ev_go rfl ?_
        refine ev_end rfl ?_
        show some (mv_R _ M) = some (mv_R _ M)
        unfold aq_ad
        grind
    · refine ev_go rfl ?_
      refine ev_end rfl ?_
      show some (mv_R _ M) = some (mv_R _ M)
      unfold aq_ad
      grind
theorem pm_expectedOf_l {c : Nat} (hn : M.1 12 1 = nI (aq_n M)) (hl : aq_n M ≤ 24) : ∀ j k, k + j = aq_n M → mj_Ev mj_S0 X mj_P (d + 1) mt_M_expectedOf 4 (mj_up (mj_up (fun j => [mv_p 12, mv_i (nI c)][j]?) 2 (mv_i (aq_ex M k c))) 3 (mv_i (nI k))) [] M 0 (mv_R (aq_E M c) M) := by
  intro j
  induction j with
  | zero =>
    intro k hk
    iterate 3 refine ev_go rfl ?_
    refine ev_if rfl (fun h => ?_) (fun h => ?_)
    · refine ev_go rfl ?_
      refine ev_end rfl ?_
      show some _ = some _
      rw [aq_E, ← hk]
      rfl
    · exact absurd (by rw [hn, hk.symm]; exact Int32.le_refl _) h
  | succ j ih =>
    intro k hk
    iterate 3 refine ev_go rfl ?_
    refine ev_if rfl (fun h => ?_) (fun h => ?_)
    · rw [hn] at h
      exact absurd h (nI_ge (by omega) (by omega))
    · iterate 3 refine ev_go rfl ?_
      refine ev_callr rfl rfl rfl (pm_times (by omega)) ?_
      iterate 3 refine ev_go rfl ?_
      refine ev_callr rfl rfl rfl (pm_adds (by omega)) ?_
      iterate 5 refine ev_go rfl ?_
      refine ev_lo ?_ (ih (k + 1) (by omega))
      rw [nI_1]
      exact mj_upn (i := 2) (j := 3) (by decide)
theorem pm_expectedOf {c : Nat} (hn : M.1 12 1 = nI (aq_n M)) (hl : aq_n M ≤ 24) : mj_C0 X (d + 1) mt_M_expectedOf [mv_p 12, mv_i (nI c)] M (mv_R (aq_E M c) M) := by
  iterate 4 refine ev_go rfl ?_
  exact pm_expectedOf_l hn hl (aq_n M) 0 (by omega)
theorem pm_differenceOf {c : Nat} (hc : c < 60) (hn : M.1 12 1 = nI (aq_n M)) (hl : aq_n M ≤ 24) : mj_C0 X (d + 2) mt_M_differenceOf [mv_p 12, mv_i (nI c)] M (mv_R (aq_df M (aq_E M) c) M) := by
  have h1 : mj_in (nI c) 60 := nI_in hc (by decide)
  have h2 : (nI c).toNatClampNeg = c := nI_clamp (by omega)
  iterate 3 refine ev_go rfl ?_
  refine ev_ok h1 rfl ?_
  rw [h2]
  refine ev_if rfl (fun h6 => ?_) (fun h6 => ?_)
  · iterate 3 refine ev_go rfl ?_
    refine ev_ok h1 rfl ?_
    rw [h2]
    iterate 2 refine ev_go rfl ?_
    refine ev_callr rfl rfl rfl (pm_expectedOf hn hl) ?_
    refine ev_go rfl ?_
    refine ev_end rfl ?_
    show some _ = some _
    first
      | (have h7 : ¬ M.1 21 c < 0 := by grind
         simp [aq_df, h7]
         done)
      | (have h7 : M.1 21 c < 0 := by grind
         simp [aq_df, h7])
  · iterate 2 refine ev_go rfl ?_
    refine ev_end rfl ?_
    show some _ = some _
    first
      | (have h7 : ¬ M.1 21 c < 0 := by grind
         simp [aq_df, h7]
         done)
      | (have h7 : M.1 21 c < 0 := by grind
         simp [aq_df, h7])
theorem pm_differences_l {X : Nat × (Nat → Int32)} {d : Nat} {M : mj_M} (hn : M.1 12 1 = nI (aq_n M)) (hl : aq_n M ≤ 24) : ∀ j k, k + j = 60 → mj_Ev mj_S0 X mj_P (d + 3) mt_M_differences 4 (mj_up (mj_up (fun j => [mv_p 12][j]?) 1 (mv_i (sm (aq_w M (aq_E M)) k))) 2 (mv_i (nI k))) [] M 0 (mv_R (aq_nd M (aq_E M)) M) := by
  intro j
  induction j with
  | zero =>
    intro k hk
    iterate 2 refine ev_go rfl ?_
    refine ev_if rfl (fun h7 => ?_) (fun h7 => ?_)
    · refine ev_go rfl ?_
      refine ev_end rfl ?_
      show some _ = some _
      rw [show k = 60 by omega]
      rfl
    · exact absurd (show (60 : Int32) ≤ nI k by rw [show (60 : Int32) = nI 60 from rfl]; exact nI_le (by omega) (by omega)) h7
  | succ j ih =>
    intro k hk
    iterate 2 refine ev_go rfl ?_
    refine ev_if rfl (fun h7 => ?_) (fun h7 => ?_)
    · exact absurd h7 (by rw [show (60 : Int32) = nI 60 from rfl]; exact nI_ge (by omega) (by omega))
    · iterate 3 refine ev_go rfl ?_
      refine ev_callr rfl rfl rfl (pm_differenceOf (by omega) hn hl) ?_
      refine ev_if rfl (fun h16 => ?_) (fun h16 => ?_)
      · iterate 5 refine ev_go rfl ?_
        refine ev_lo ?_ (ih (k + 1) (by omega))
        rw [nI_1]
        refine (mj_upn (i := 1) (j := 2) (by decide)).trans ?_
        show mj_up (mj_up _ 1 (mv_i _)) 2 (mv_i _) = mj_up (mj_up _ 1 (mv_i (sm (aq_w M (aq_E M)) k + aq_w M (aq_E M) k))) 2 (mv_i _)
        unfold aq_w
        first
          | rw [if_pos h16]
          | rw [if_neg h16]
      · iterate 6 refine ev_go rfl ?_
        refine ev_lo ?_ (ih (k + 1) (by omega))
        rw [nI_1]
        refine (mj_upn (i := 1) (j := 2) (by decide)).trans ?_
        show mj_up (mj_up _ 1 (mv_i _)) 2 (mv_i _) = mj_up (mj_up _ 1 (mv_i (sm (aq_w M (aq_E M)) k + aq_w M (aq_E M) k))) 2 (mv_i _)
        unfold aq_w
        first
          | rw [if_pos h16]
          | rw [if_neg h16]
theorem pm_differences (hn : M.1 12 1 = nI (aq_n M)) (hl : aq_n M ≤ 24) : mj_C0 X (d + 3) mt_M_differences [mv_p 12] M (mv_R (aq_nd M (aq_E M)) M) := by
  iterate 4 refine ev_go rfl ?_
  exact pm_differences_l hn hl 60 0 (by omega)
theorem pm_touches {a : Nat} {c : Int32} (ha : a < 24) : mj_C0 X (d + 1) mt_M_touches [mv_p 12, mv_i (nI a), mv_i c] M (mv_R (if aq_ad M a c = 0 then 0 else 1) M) := by
  iterate 3 refine ev_go rfl ?_
  refine ev_callr rfl rfl rfl (pm_adds ha) ?_
  refine ev_if rfl (fun h6 => ?_) (fun h6 => ?_)
  · refine ev_go rfl ?_
    refine ev_end rfl ?_
    show some _ = some _
    simp [h6]
  · iterate 2 refine ev_go rfl ?_
    refine ev_end rfl ?_
    show some _ = some _
    simp [h6]
theorem pm_isCandidate {a : Nat} (ha : a < 24) (hr : vs_rw M a) : mj_C0 X d mt_M_isCandidate [mv_p 12, mv_i (nI a)] M (mv_R (aq_ca M a) M) := by
  have h1 : mj_in (nI a) 24 := nI_in ha (by decide)
  have h2 : (nI a).toNatClampNeg = a := nI_clamp (by omega)
  obtain ⟨e1, l1⟩ := hr.c1
  have i1 : mj_in (nI (aq_c1 M a)) 60 := nI_in l1 (by decide)
  have j1 : (nI (aq_c1 M a)).toNatClampNeg = aq_c1 M a := nI_clamp (by omega)
  iterate 3 refine ev_go rfl ?_
  refine ev_ok h1 rfl ?_
  rw [h2]
  refine ev_if rfl (fun h6 => ?_) (fun h6 => ?_)
  · iterate 3 refine ev_go rfl ?_
    refine ev_ok h1 rfl ?_
    rw [h2]
    refine ev_if rfl (fun h15 => ?_) (fun h15 => ?_)
    · iterate 3 refine ev_go rfl ?_
      refine ev_ok h1 rfl ?_
      iterate 2 refine ev_go rfl ?_
      rw [h2]
      refine ev_if rfl (fun h28 => ?_) (fun h28 => ?_)
      · refine ev_go rfl ?_
        refine ev_end rfl ?_
        show some (mv_R _ M) = some (mv_R _ M)
        unfold aq_ca
        grind
      · iterate 3 refine ev_go rfl ?_
        refine ev_ok h1 rfl ?_
        iterate 2 refine ev_go rfl ?_
        rw [h2]
        refine ev_if rfl (fun h41 => ?_) (fun h41 => ?_)
        · iterate 6 refine ev_go rfl ?_
          refine ev_ok h1 rfl ?_
          iterate 4 refine ev_go rfl ?_
          refine ev_ok h1 rfl ?_
          refine ev_go rfl ?_
          rw [h2]
          show mj_Ev _ _ _ _ _ _ _ [mv_i (6 * M.1 14 a + M.1 16 a), _] _ _ _
          rw [e1]
          refine ev_ok i1 rfl ?_
          rw [j1]
          refine ev_if rfl (fun h67 => ?_) (fun h67 => ?_)
          · iterate 3 refine ev_go rfl ?_
            refine ev_ok h1 rfl ?_
            refine ev_go rfl ?_
            rw [h2]
            refine ev_if rfl (fun h79 => ?_) (fun h79 => ?_)
            · iterate 6 refine ev_go rfl ?_
              refine ev_ok h1 rfl ?_
              iterate 4 refine ev_go rfl ?_
              refine ev_ok h1 rfl ?_
              refine ev_go rfl ?_
              have h79 : M.1 13 a = 2 := h79
              obtain ⟨e2, l2, -⟩ := hr.c2 h79
              have i2 : mj_in (nI (aq_c2 M a)) 60 := nI_in l2 (by decide)
              have j2 : (nI (aq_c2 M a)).toNatClampNeg = aq_c2 M a := nI_clamp (by omega)
              rw [h2]
              show mj_Ev _ _ _ _ _ _ _ [mv_i (6 * M.1 15 a + M.1 16 a), _] _ _ _
              rw [e2]
              refine ev_ok i2 rfl ?_
              rw [j2]
              refine ev_if rfl (fun h103 => ?_) (fun h103 => ?_)
              · refine ev_go rfl ?_
                refine ev_end rfl ?_
                show some (mv_R _ M) = some (mv_R _ M)
                unfold aq_ca
                grind
              · iterate 2 refine ev_go rfl ?_
                refine ev_end rfl ?_
                show some (mv_R _ M) = some (mv_R _ M)
                unfold aq_ca
                grind
            · refine ev_go rfl ?_
              refine ev_end rfl ?_
              show some (mv_R _ M) = some (mv_R _ M)
              unfold aq_ca
              grind
          · refine ev_go rfl ?_
            refine ev_end rfl ?_
            show some (mv_R _ M) = some (mv_R _ M)
            unfold aq_ca
            grind
        · refine ev_go rfl ?_
          refine ev_end rfl ?_
          show some (mv_R _ M) = some (mv_R _ M)
          unfold aq_ca
          grind
    · refine ev_go rfl ?_
      refine ev_end rfl ?_
      show some (mv_R _ M) = some (mv_R _ M)
      unfold aq_ca
      grind
  · refine ev_go rfl ?_
    refine ev_end rfl ?_
    show some (mv_R _ M) = some (mv_R _ M)
    unfold aq_ca
    grind
theorem pm_howMany_l {X : Nat × (Nat → Int32)} {d : Nat} {M : mj_M} (hv : vs_A M) : ∀ j k, k + j = aq_n M → mj_Ev mj_S0 X mj_P (d + 1) mt_M_howMany 4 (mj_up (mj_up (fun j => [mv_p 12][j]?) 1 (mv_i (sm (aq_ca M) k))) 2 (mv_i (nI k))) [] M 0 (mv_R (sm (aq_ca M) (aq_n M)) M) := by
  have hl := hv.1.2
  intro j
  induction j with
  | zero =>
    intro k hk
    iterate 3 refine ev_go rfl ?_
    refine ev_if rfl (fun h9 => ?_) (fun h9 => ?_)
    · refine ev_go rfl ?_
      refine ev_end rfl ?_
      show some _ = some _
      rw [show aq_n M = k by omega]
    · exact absurd (show M.1 12 1 ≤ nI k by rw [hv.1.1]; exact nI_le (by omega) (by omega)) h9
  | succ j ih =>
    intro k hk
    iterate 3 refine ev_go rfl ?_
    refine ev_if rfl (fun h9 => ?_) (fun h9 => ?_)
    · exact absurd h9 (by rw [hv.1.1]; exact nI_ge (by omega) (by omega))
    · iterate 3 refine ev_go rfl ?_
      refine ev_callr rfl rfl rfl (pm_isCandidate (by omega) (hv.2.1 k (by omega))) ?_
      refine ev_if rfl (fun h18 => ?_) (fun h18 => ?_)
      · iterate 5 refine ev_go rfl ?_
        refine ev_lo ?_ (ih (k + 1) (by omega))
        rw [nI_1]
        refine (mj_upn (i := 1) (j := 2) (by decide)).trans ?_
        show mj_up (mj_up _ 1 (mv_i _)) 2 (mv_i _) = mj_up (mj_up _ 1 (mv_i (sm (aq_ca M) k + aq_ca M k))) 2 (mv_i _)
        rcases aq_ca01 M k with h | h
        · first
            | exact absurd h h18
            | rw [h]
        · first
            | (exact absurd (h.symm.trans h18) (by decide))
            | rw [h]
      · iterate 6 refine ev_go rfl ?_
        refine ev_lo ?_ (ih (k + 1) (by omega))
        rw [nI_1]
        refine (mj_upn (i := 1) (j := 2) (by decide)).trans ?_
        show mj_up (mj_up _ 1 (mv_i _)) 2 (mv_i _) = mj_up (mj_up _ 1 (mv_i (sm (aq_ca M) k + aq_ca M k))) 2 (mv_i _)
        rcases aq_ca01 M k with h | h
        · first
            | exact absurd h h18
            | rw [h]
        · first
            | (exact absurd (h.symm.trans h18) (by decide))
            | rw [h]
theorem pm_howMany (hv : vs_A M) : mj_C0 X (d + 1) mt_M_howMany [mv_p 12] M (mv_R (sm (aq_ca M) (aq_n M)) M) := by
  iterate 4 refine ev_go rfl ?_
  exact pm_howMany_l hv (aq_n M) 0 (by omega)
end
