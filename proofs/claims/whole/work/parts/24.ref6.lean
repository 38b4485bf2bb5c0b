/-! pure walks: accept and count of the reference -/
def aq_ab (A : mj_M) (c : Nat) : Int32 := if 0 ≤ aq_df A (aq_E A) c then aq_df A (aq_E A) c else -aq_df A (aq_E A) c
def aq_so (A : mj_M) (c : Nat) : Int32 := if A.1 21 c < 0 then 0 else 1
def aq_si (A : mj_M) (s : Int32) (a : Nat) : Int32 := if A.1 19 a = s then 1 else 0
def aq_cn (A : mj_M) (w : Int32) : Int32 := if w = 0 then A.1 12 1 else if w = 1 then aq_nd A (aq_E A) else if w = 2 then sm (aq_ab A) 60 else if w = 3 then sm (aq_ca A) (aq_n A) else if w = 4 then sm (aq_si A 1) (aq_n A) else if w = 5 then sm (aq_si A 2) (aq_n A) else if w = 6 then sm (aq_so A) 60 else if w = 7 then A.1 12 17 else -1
section
variable {X : Nat × (Nat → Int32)} {d : Nat} {M A : mj_M}
theorem pm_accept_lx {m : Nat} (hm : M.1 12 17 = nI m) (h4 : m ≤ 4) (hf : ∀ i, i < m → M.1 23 i / 2 = nI (aq_fa M i) ∧ aq_fa M i < 24) : ∀ j k c, k + j = m → (c = 1 ∨ ∃ i, k ≤ i ∧ i < m ∧ ¬ M.1 19 (aq_fa M i) = 0) → mj_Ev mj_S0 X mj_P d mt_M_accept 18 (mj_up (fun j => [mv_p 12][j]?) 1 (mv_i (nI k))) [] (mj_st M 12 0 c) 0 (mv_R 0 (mj_st M 12 0 1)) := by
  intro j
  induction j with
  | zero =>
    intro k c hk hc
    have e1 : c = 1 := by
      rcases hc with h | ⟨i, h1, h2, -⟩
      · exact h
      · omega
    subst e1
    iterate 3 refine ev_go rfl ?_
    refine ev_if rfl (fun h23 => ?_) (fun h23 => ?_)
    · iterate 4 refine ev_go rfl ?_
      refine ev_end rfl ?_
      rfl
    · exact absurd (show M.1 12 17 ≤ nI k by rw [hm]; exact nI_le (by omega) (by omega)) h23
  | succ j ih =>
    intro k c hk hc
    iterate 3 refine ev_go rfl ?_
    refine ev_if rfl (fun h23 => ?_) (fun h23 => ?_)
    · exact absurd h23 (by show ¬ M.1 12 17 ≤ nI k; rw [hm]; exact nI_ge (by omega) (by omega))
    · iterate 5 refine ev_go rfl ?_
      refine ev_ok (nI_in (show k < 4 by omega) (by decide)) rfl ?_
      rw [nI_clamp (by omega)]
      iterate 2 refine ev_go rfl ?_
      show mj_Ev _ _ _ _ _ _ _ [mv_i (M.1 23 k / 2), _] _ _ _
      rw [(hf k (by omega)).1]
      refine ev_ok (nI_in (hf k (by omega)).2 (by decide)) rfl ?_
      rw [nI_clamp (by have := (hf k (by omega)).2; omega)]
      refine ev_if rfl (fun h39 => ?_) (fun h39 => ?_)
      · iterate 2 refine ev_go rfl ?_
        first
          | (rw [pm_stt]
             refine ev_lo ?_ (ih (k + 1) 1 (by omega) (Or.inl rfl))
             rw [nI_1]
             exact mj_upo)
          | (refine ev_lo ?_ (ih (k + 1) c (by omega) ?_)
             · rw [nI_1]
               exact mj_upo
             · rcases hc with h | ⟨i, h1, h2, h3⟩
               · exact Or.inl h
               · refine Or.inr ⟨i, ?_, h2, h3⟩
                 rcases Nat.lt_or_ge k i with h5 | h5
                 · exact h5
                 · exact absurd h39 (by rw [show i = k by omega] at h3; exact h3))
      · iterate 5 refine ev_go rfl ?_
        first
          | (rw [pm_stt]
             refine ev_lo ?_ (ih (k + 1) 1 (by omega) (Or.inl rfl))
             rw [nI_1]
             exact mj_upo)
          | (refine ev_lo ?_ (ih (k + 1) c (by omega) ?_)
             · rw [nI_1]
               exact mj_upo
             · rcases hc with h | ⟨i, h1, h2, h3⟩
               · exact Or.inl h
               · refine Or.inr ⟨i, ?_, h2, h3⟩
                 rcases Nat.lt_or_ge k i with h5 | h5
                 · exact h5
                 · exact absurd h39 (by rw [show i = k by omega] at h3; exact h3))
theorem pm_accept_x {m : Nat} (hm : M.1 12 17 = nI m) (h4 : m ≤ 4) (hf : ∀ i, i < m → M.1 23 i / 2 = nI (aq_fa M i) ∧ aq_fa M i < 24) (h : m = 0 ∨ ∃ i, i < m ∧ ¬ M.1 19 (aq_fa M i) = 0) : mj_C0 X d mt_M_accept [mv_p 12] M (mv_R 0 (mj_st M 12 0 1)) := by
  iterate 3 refine ev_go rfl ?_
  refine ev_if rfl (fun h5 => ?_) (fun h5 => ?_)
  · iterate 5 refine ev_go rfl ?_
    first
      | exact pm_accept_lx hm h4 hf m 0 1 (by omega) (Or.inl rfl)
      | (refine pm_accept_lx hm h4 hf m 0 0 (by omega) (Or.inr ?_)
         rcases h with h | ⟨i, h1, h2⟩
         · exact absurd (by rw [hm, h]; rfl) h5
         · exact ⟨i, by omega, h1, h2⟩)
  · iterate 4 refine ev_go rfl ?_
    first
      | exact pm_accept_lx hm h4 hf m 0 1 (by omega) (Or.inl rfl)
      | (refine pm_accept_lx hm h4 hf m 0 0 (by omega) (Or.inr ?_)
         rcases h with h | ⟨i, h1, h2⟩
         · exact absurd (by rw [hm, h]; rfl) h5
         · exact ⟨i, by omega, h1, h2⟩)
theorem pm_accept_l1 {m : Nat} {r : mj_R} (hm : M.1 12 17 = nI m) (h4 : m ≤ 4) (hf : ∀ i, i < m → M.1 23 i / 2 = nI (aq_fa M i) ∧ aq_fa M i < 24) (hp : ∀ i, i < m → M.1 19 (aq_fa M i) = 0) (hq : mj_Ev mj_S0 X mj_P d mt_M_accept 53 (mj_up (fun j => [mv_p 12][j]?) 1 (mv_i (nI m))) [] M 0 r) : ∀ j k, k + j = m → mj_Ev mj_S0 X mj_P d mt_M_accept 18 (mj_up (fun j => [mv_p 12][j]?) 1 (mv_i (nI k))) [] M 0 r := by
  intro j
  induction j with
  | zero =>
    intro k hk
    iterate 3 refine ev_go rfl ?_
    refine ev_if rfl (fun h23 => ?_) (fun h23 => ?_)
    · rw [show k = m by omega]
      exact hq
    · exact absurd (show M.1 12 17 ≤ nI k by rw [hm]; exact nI_le (by omega) (by omega)) h23
  | succ j ih =>
    intro k hk
    iterate 3 refine ev_go rfl ?_
    refine ev_if rfl (fun h23 => ?_) (fun h23 => ?_)
    · exact absurd h23 (by show ¬ M.1 12 17 ≤ nI k; rw [hm]; exact nI_ge (by omega) (by omega))
    · iterate 5 refine ev_go rfl ?_
      refine ev_ok (nI_in (show k < 4 by omega) (by decide)) rfl ?_
      rw [nI_clamp (by omega)]
      iterate 2 refine ev_go rfl ?_
      show mj_Ev _ _ _ _ _ _ _ [mv_i (M.1 23 k / 2), _] _ _ _
      rw [(hf k (by omega)).1]
      refine ev_ok (nI_in (hf k (by omega)).2 (by decide)) rfl ?_
      rw [nI_clamp (by have := (hf k (by omega)).2; omega)]
      refine ev_if rfl (fun h39 => ?_) (fun h39 => ?_)
      · iterate 2 refine ev_go rfl ?_
        refine ev_lo ?_ (ih (k + 1) (by omega))
        rw [nI_1]
        exact mj_upo
      · exact absurd (hp k (by omega)) h39
theorem pm_accept_l2 {m : Nat} (hm : M.1 12 17 = nI m) (h4 : m ≤ 4) (hf : ∀ i, i < m → M.1 23 i / 2 = nI (aq_fa M i) ∧ aq_fa M i < 24) (hn : M.1 12 1 = nI (aq_n M)) (hl : aq_n M ≤ 24) : ∀ j k, k + j = m → mj_Ev mj_S0 X mj_P (d + 4) mt_M_accept 64 (mj_up (fun j => [mv_p 12][j]?) 1 (mv_i (nI k))) [] (oa_ M k) 0 (mv_R (aq_nd (mj_st (oa_ M m) 12 17 0) (aq_E (mj_st (oa_ M m) 12 17 0))) (mj_st (oa_ M m) 12 17 0)) := by
  have hm' : ∀ k, (oa_ M k).1 12 17 = nI m := fun k => by rw [oa_q M (by decide)]; exact hm
  have hs : ∀ k, (oa_ M k).1 23 k = M.1 23 k := fun k => oa_q M (by decide) k k
  intro j
  induction j with
  | zero =>
    intro k hk
    iterate 3 refine ev_go rfl ?_
    refine ev_if rfl (fun h69 => ?_) (fun h69 => ?_)
    · rw [show k = m by omega]
      iterate 4 refine ev_go rfl ?_
      refine ev_callr rfl rfl rfl (pm_differences (M := mj_st (oa_ M m) 12 17 0) (by show (oa_ M m).1 12 1 = nI (aq_n (oa_ M m)); rw [oa_n, oa_q M (by decide)]; exact hn) (by show aq_n (oa_ M m) ≤ 24; rw [oa_n]; exact hl)) ?_
      refine ev_end rfl ?_
      rfl
    · exact absurd (show (oa_ M k).1 12 17 ≤ nI k by rw [hm']; exact nI_le (by omega) (by omega)) h69
  | succ j ih =>
    intro k hk
    iterate 3 refine ev_go rfl ?_
    refine ev_if rfl (fun h69 => ?_) (fun h69 => ?_)
    · exact absurd h69 (by show ¬ (oa_ M k).1 12 17 ≤ nI k; rw [hm']; exact nI_ge (by omega) (by omega))
    · iterate 5 refine ev_go rfl ?_
      refine ev_ok (nI_in (show k < 4 by omega) (by decide)) rfl ?_
      rw [nI_clamp (by omega)]
      iterate 6 refine ev_go rfl ?_
      refine ev_ok (nI_in (show k < 4 by omega) (by decide)) rfl ?_
      rw [nI_clamp (by omega)]
      iterate 3 refine ev_go rfl ?_
      show mj_Ev _ _ _ _ _ _ _ [mv_i (1 + ((oa_ M k).1 23 k - (oa_ M k).1 23 k / 2 * 2)), mv_i ((oa_ M k).1 23 k / 2), _] _ _ _
      rw [hs, (hf k (by omega)).1]
      refine ev_ok (nI_in (hf k (by omega)).2 (by decide)) rfl ?_
      rw [nI_clamp (by have := (hf k (by omega)).2; omega), ← (hf k (by omega)).1]
      iterate 2 refine ev_go rfl ?_
      refine ev_lo ?_ (ih (k + 1) (by omega))
      rw [nI_1]
      exact mj_upo
theorem pm_accept {m : Nat} (hm : M.1 12 17 = nI m) (h0 : 0 < m) (h4 : m ≤ 4) (hf : ∀ i, i < m → M.1 23 i / 2 = nI (aq_fa M i) ∧ aq_fa M i < 24) (hp : ∀ i, i < m → M.1 19 (aq_fa M i) = 0) (hn : M.1 12 1 = nI (aq_n M)) (hl : aq_n M ≤ 24) : mj_C0 X (d + 4) mt_M_accept [mv_p 12] M (mv_R (aq_nd (mj_st (oa_ (mj_st M 12 0 0) m) 12 17 0) (aq_E (mj_st (oa_ (mj_st M 12 0 0) m) 12 17 0))) (mj_st (oa_ (mj_st M 12 0 0) m) 12 17 0)) := by
  have key := pm_accept_l2 (X := X) (d := d) (M := mj_st M 12 0 0) (m := m) hm h4 hf hn hl m 0 (by omega)
  iterate 3 refine ev_go rfl ?_
  refine ev_if rfl (fun h5 => ?_) (fun h5 => ?_)
  · exact absurd (hm.symm.trans h5) (nI_ne0 h0 (by omega))
  · iterate 4 refine ev_go rfl ?_
    refine pm_accept_l1 (M := mj_st M 12 0 0) (m := m) hm h4 hf hp ?_ m 0 (by omega)
    refine ev_go rfl ?_
    refine ev_go rfl ?_
    refine ev_go rfl ?_
    refine ev_go rfl ?_
    refine ev_go rfl ?_
    refine ev_lo ?_ key
    exact mj_upo
theorem pm_count_l1 {w : Int32} {r : mj_R} (hn : M.1 12 1 = nI (aq_n M)) (hl : aq_n M ≤ 24) (hq : ∀ lo, mj_Ev mj_S0 X mj_P (d + 3) mt_M_count 67 (mj_up (mj_up (mj_up (mj_up (mj_up lo 0 (mv_p 12)) 1 (mv_i w)) 2 (mv_i (sm (aq_ab M) (60)))) 3 (mv_i (sm (aq_so M) (60)))) 4 (mv_i (nI (60)))) [] M 0 r) : ∀ j k lo, k + j = 60 → mj_Ev mj_S0 X mj_P (d + 3) mt_M_count 12 (mj_up (mj_up (mj_up (mj_up (mj_up lo 0 (mv_p 12)) 1 (mv_i w)) 2 (mv_i (sm (aq_ab M) (k)))) 3 (mv_i (sm (aq_so M) (k)))) 4 (mv_i (nI (k)))) [] M 0 r := by
  intro j
  induction j with
  | zero =>
    intro k lo hk
    have e1 : k = 60 := by omega
    subst e1
    iterate 2 refine ev_go rfl ?_
    refine ev_go rfl ?_
    exact hq lo
  | succ j ih =>
    intro k lo hk
    iterate 2 refine ev_go rfl ?_
    refine ev_if rfl (fun h16 => ?_) (fun h16 => ?_)
    · exact absurd h16 (by rw [show (60 : Int32) = nI 60 from rfl]; exact nI_ge (by omega) (by omega))
    · iterate 2 refine ev_go rfl ?_
      refine ev_callr rfl rfl rfl (pm_differenceOf (by omega) hn hl) ?_
      iterate 3 refine ev_go rfl ?_
      refine ev_if rfl (fun h30 => ?_) (fun h30 => ?_)
      · iterate 7 refine ev_go rfl ?_
        refine ev_ok (nI_in (show k < 60 by omega) (by decide)) rfl ?_
        rw [nI_clamp (by omega)]
        refine ev_if rfl (fun h51 => ?_) (fun h51 => ?_)
        · iterate 5 refine ev_go rfl ?_
          refine ev_lo ?_ (ih (k + 1) (mj_up lo 5 (mv_i (aq_df M (aq_E M) k))) (by omega))
          have ea : sm (aq_ab M) (k + 1) = sm (aq_ab M) k + aq_ab M k := rfl
          have eb : sm (aq_so M) (k + 1) = sm (aq_so M) k + aq_so M k := rfl
          rw [nI_1, ea, eb]
          unfold aq_ab aq_so
          first
            | rw [if_pos h30, if_pos h51]
            | rw [if_pos h30, if_neg h51]
            | rw [if_neg h30, if_pos h51]
            | rw [if_neg h30, if_neg h51]
          funext z
          by_cases z0 : z = 0
          · subst z0
            first
              | rfl
              | simp [mj_up]
          by_cases z1 : z = 1
          · subst z1
            first
              | rfl
              | simp [mj_up]
          by_cases z2 : z = 2
          · subst z2
            first
              | rfl
              | simp [mj_up]
          by_cases z3 : z = 3
          · subst z3
            first
              | rfl
              | simp [mj_up]
          by_cases z4 : z = 4
          · subst z4
            first
              | rfl
              | simp [mj_up]
          by_cases z5 : z = 5
          · subst z5
            first
              | rfl
              | simp [mj_up]
          first
            | (simp [mj_up, z0, z1, z2, z3, z4, z5]; done)
            | (simp [mj_up, z0, z1, z2, z3, z4, z5]; intro q; first | exact absurd q z0 | exact absurd q z1 | exact absurd q z2 | exact absurd q z3 | exact absurd q z4 | exact absurd q z5)
        · iterate 6 refine ev_go rfl ?_
          refine ev_lo ?_ (ih (k + 1) (mj_up lo 5 (mv_i (aq_df M (aq_E M) k))) (by omega))
          have ea : sm (aq_ab M) (k + 1) = sm (aq_ab M) k + aq_ab M k := rfl
          have eb : sm (aq_so M) (k + 1) = sm (aq_so M) k + aq_so M k := rfl
          rw [nI_1, ea, eb]
          unfold aq_ab aq_so
          first
            | rw [if_pos h30, if_pos h51]
            | rw [if_pos h30, if_neg h51]
            | rw [if_neg h30, if_pos h51]
            | rw [if_neg h30, if_neg h51]
          funext z
          by_cases z0 : z = 0
          · subst z0
            first
              | rfl
              | simp [mj_up]
          by_cases z1 : z = 1
          · subst z1
            first
              | rfl
              | simp [mj_up]
          by_cases z2 : z = 2
          · subst z2
            first
              | rfl
              | simp [mj_up]
          by_cases z3 : z = 3
          · subst z3
            first
              | rfl
              | simp [mj_up]
          by_cases z4 : z = 4
          · subst z4
            first
              | rfl
              | simp [mj_up]
          by_cases z5 : z = 5
          · subst z5
            first
              | rfl
              | simp [mj_up]
          first
            | (simp [mj_up, z0, z1, z2, z3, z4, z5]; done)
            | (simp [mj_up, z0, z1, z2, z3, z4, z5]; intro q; first | exact absurd q z0 | exact absurd q z1 | exact absurd q z2 | exact absurd q z3 | exact absurd q z4 | exact absurd q z5)
      · iterate 9 refine ev_go rfl ?_
        refine ev_ok (nI_in (show k < 60 by omega) (by decide)) rfl ?_
        rw [nI_clamp (by omega)]
        refine ev_if rfl (fun h51 => ?_) (fun h51 => ?_)
        · iterate 5 refine ev_go rfl ?_
          refine ev_lo ?_ (ih (k + 1) (mj_up lo 5 (mv_i (aq_df M (aq_E M) k))) (by omega))
          have ea : sm (aq_ab M) (k + 1) = sm (aq_ab M) k + aq_ab M k := rfl
          have eb : sm (aq_so M) (k + 1) = sm (aq_so M) k + aq_so M k := rfl
          rw [nI_1, ea, eb]
          unfold aq_ab aq_so
          first
            | rw [if_pos h30, if_pos h51]
            | rw [if_pos h30, if_neg h51]
            | rw [if_neg h30, if_pos h51]
            | rw [if_neg h30, if_neg h51]
          funext z
          by_cases z0 : z = 0
          · subst z0
            first
              | rfl
              | simp [mj_up]
          by_cases z1 : z = 1
          · subst z1
            first
              | rfl
              | simp [mj_up]
          by_cases z2 : z = 2
          · subst z2
            first
              | rfl
              | simp [mj_up]
          by_cases z3 : z = 3
          · subst z3
            first
              | rfl
              | simp [mj_up]
          by_cases z4 : z = 4
          · subst z4
            first
              | rfl
              | simp [mj_up]
          by_cases z5 : z = 5
          · subst z5
            first
              | rfl
              | simp [mj_up]
          first
            | (simp [mj_up, z0, z1, z2, z3, z4, z5]; done)
            | (simp [mj_up, z0, z1, z2, z3, z4, z5]; intro q; first | exact absurd q z0 | exact absurd q z1 | exact absurd q z2 | exact absurd q z3 | exact absurd q z4 | exact absurd q z5)
        · iterate 6 refine ev_go rfl ?_
          refine ev_lo ?_ (ih (k + 1) (mj_up lo 5 (mv_i (aq_df M (aq_E M) k))) (by omega))
          have ea : sm (aq_ab M) (k + 1) = sm (aq_ab M) k + aq_ab M k := rfl
          have eb : sm (aq_so M) (k + 1) = sm (aq_so M) k + aq_so M k := rfl
          rw [nI_1, ea, eb]
          unfold aq_ab aq_so
          first
            | rw [if_pos h30, if_pos h51]
            | rw [if_pos h30, if_neg h51]
            | rw [if_neg h30, if_pos h51]
            | rw [if_neg h30, if_neg h51]
          funext z
          by_cases z0 : z = 0
          · subst z0
            first
              | rfl
              | simp [mj_up]
          by_cases z1 : z = 1
          · subst z1
            first
              | rfl
              | simp [mj_up]
          by_cases z2 : z = 2
          · subst z2
            first
              | rfl
              | simp [mj_up]
          by_cases z3 : z = 3
          · subst z3
            first
              | rfl
              | simp [mj_up]
          by_cases z4 : z = 4
          · subst z4
            first
              | rfl
              | simp [mj_up]
          by_cases z5 : z = 5
          · subst z5
            first
              | rfl
              | simp [mj_up]
          first
            | (simp [mj_up, z0, z1, z2, z3, z4, z5]; done)
            | (simp [mj_up, z0, z1, z2, z3, z4, z5]; intro q; first | exact absurd q z0 | exact absurd q z1 | exact absurd q z2 | exact absurd q z3 | exact absurd q z4 | exact absurd q z5)
theorem pm_count_l2 {w : Int32} {r : mj_R} (hn : M.1 12 1 = nI (aq_n M)) (hl : aq_n M ≤ 24) (hq : ∀ lo, mj_Ev mj_S0 X mj_P d mt_M_count 133 (mj_up (mj_up (mj_up (mj_up (mj_up (mj_up (mj_up lo 0 (mv_p 12)) 1 (mv_i w)) 2 (mv_i (sm (aq_ab M) 60))) 3 (mv_i (sm (aq_so M) 60))) 4 (mv_i (sm (aq_si M 1) (aq_n M)))) 5 (mv_i (sm (aq_si M 2) (aq_n M)))) 6 (mv_i (nI (aq_n M)))) [] M 0 r) : ∀ j k lo, k + j = aq_n M → mj_Ev mj_S0 X mj_P d mt_M_count 76 (mj_up (mj_up (mj_up (mj_up (mj_up (mj_up (mj_up lo 0 (mv_p 12)) 1 (mv_i w)) 2 (mv_i (sm (aq_ab M) 60))) 3 (mv_i (sm (aq_so M) 60))) 4 (mv_i (sm (aq_si M 1) (k)))) 5 (mv_i (sm (aq_si M 2) (k)))) 6 (mv_i (nI (k)))) [] M 0 r := by
  intro j
  induction j with
  | zero =>
    intro k lo hk
    iterate 3 refine ev_go rfl ?_
    refine ev_if rfl (fun h82 => ?_) (fun h82 => ?_)
    · rw [show k = aq_n M by omega]
      exact hq lo
    · exact absurd (show M.1 12 1 ≤ nI k by rw [hn]; exact nI_le (by omega) (by omega)) h82
  | succ j ih =>
    intro k lo hk
    iterate 3 refine ev_go rfl ?_
    refine ev_if rfl (fun h82 => ?_) (fun h82 => ?_)
    · exact absurd h82 (by rw [hn]; exact nI_ge (by omega) (by omega))
    · iterate 4 refine ev_go rfl ?_
      refine ev_ok (nI_in (show k < 24 by omega) (by decide)) rfl ?_
      rw [nI_clamp (by omega)]
      refine ev_go rfl ?_
      refine ev_if rfl (fun h95 => ?_) (fun h95 => ?_)
      · iterate 8 refine ev_go rfl ?_
        refine ev_ok (nI_in (show k < 24 by omega) (by decide)) rfl ?_
        rw [nI_clamp (by omega)]
        refine ev_go rfl ?_
        refine ev_if rfl (fun h116 => ?_) (fun h116 => ?_)
        · iterate 6 refine ev_go rfl ?_
          refine ev_lo ?_ (ih (k + 1) lo (by omega))
          have ea : sm (aq_si M 1) (k + 1) = sm (aq_si M 1) k + aq_si M 1 k := rfl
          have eb : sm (aq_si M 2) (k + 1) = sm (aq_si M 2) k + aq_si M 2 k := rfl
          rw [nI_1, ea, eb]
          unfold aq_si
          have xx : ¬ (M.1 19 k = 1 ∧ M.1 19 k = 2) := fun q => absurd (q.1.symm.trans q.2) (by decide)
          first
            | (have yy := And.intro h95 h116
               exact absurd yy xx)
            | (first
                | rw [if_pos h95, if_neg h116]
                | rw [if_neg h95, if_pos h116]
                | rw [if_neg h95, if_neg h116]
               funext z
               by_cases z0 : z = 0
               · subst z0
                 first
                   | rfl
                   | simp [mj_up]
               by_cases z1 : z = 1
               · subst z1
                 first
                   | rfl
                   | simp [mj_up]
               by_cases z2 : z = 2
               · subst z2
                 first
                   | rfl
                   | simp [mj_up]
               by_cases z3 : z = 3
               · subst z3
                 first
                   | rfl
                   | simp [mj_up]
               by_cases z4 : z = 4
               · subst z4
                 first
                   | rfl
                   | simp [mj_up]
               by_cases z5 : z = 5
               · subst z5
                 first
                   | rfl
                   | simp [mj_up]
               by_cases z6 : z = 6
               · subst z6
                 first
                   | rfl
                   | simp [mj_up]
               first
                 | (simp [mj_up, z0, z1, z2, z3, z4, z5, z6]; done)
                 | (simp [mj_up, z0, z1, z2, z3, z4, z5, z6]; intro q; first | exact absurd q z0 | exact absurd q z1 | exact absurd q z2 | exact absurd q z3 | exact absurd q z4 | exact absurd q z5 | exact absurd q z6))
        · iterate 5 refine ev_go rfl ?_
          refine ev_lo ?_ (ih (k + 1) lo (by omega))
          have ea : sm (aq_si M 1) (k + 1) = sm (aq_si M 1) k + aq_si M 1 k := rfl
          have eb : sm (aq_si M 2) (k + 1) = sm (aq_si M 2) k + aq_si M 2 k := rfl
          rw [nI_1, ea, eb]
          unfold aq_si
          have xx : ¬ (M.1 19 k = 1 ∧ M.1 19 k = 2) := fun q => absurd (q.1.symm.trans q.2) (by decide)
          first
            | (have yy := And.intro h95 h116
               exact absurd yy xx)
            | (first
                | rw [if_pos h95, if_neg h116]
                | rw [if_neg h95, if_pos h116]
                | rw [if_neg h95, if_neg h116]
               funext z
               by_cases z0 : z = 0
               · subst z0
                 first
                   | rfl
                   | simp [mj_up]
               by_cases z1 : z = 1
               · subst z1
                 first
                   | rfl
                   | simp [mj_up]
               by_cases z2 : z = 2
               · subst z2
                 first
                   | rfl
                   | simp [mj_up]
               by_cases z3 : z = 3
               · subst z3
                 first
                   | rfl
                   | simp [mj_up]
               by_cases z4 : z = 4
               · subst z4
                 first
                   | rfl
                   | simp [mj_up]
               by_cases z5 : z = 5
               · subst z5
                 first
                   | rfl
                   | simp [mj_up]
               by_cases z6 : z = 6
               · subst z6
                 first
                   | rfl
                   | simp [mj_up]
               first
                 | (simp [mj_up, z0, z1, z2, z3, z4, z5, z6]; done)
                 | (simp [mj_up, z0, z1, z2, z3, z4, z5, z6]; intro q; first | exact absurd q z0 | exact absurd q z1 | exact absurd q z2 | exact absurd q z3 | exact absurd q z4 | exact absurd q z5 | exact absurd q z6))
      · iterate 7 refine ev_go rfl ?_
        refine ev_ok (nI_in (show k < 24 by omega) (by decide)) rfl ?_
        rw [nI_clamp (by omega)]
        refine ev_go rfl ?_
        refine ev_if rfl (fun h116 => ?_) (fun h116 => ?_)
        · iterate 6 refine ev_go rfl ?_
          refine ev_lo ?_ (ih (k + 1) lo (by omega))
          have ea : sm (aq_si M 1) (k + 1) = sm (aq_si M 1) k + aq_si M 1 k := rfl
          have eb : sm (aq_si M 2) (k + 1) = sm (aq_si M 2) k + aq_si M 2 k := rfl
          rw [nI_1, ea, eb]
          unfold aq_si
          have xx : ¬ (M.1 19 k = 1 ∧ M.1 19 k = 2) := fun q => absurd (q.1.symm.trans q.2) (by decide)
          first
            | (have yy := And.intro h95 h116
               exact absurd yy xx)
            | (first
                | rw [if_pos h95, if_neg h116]
                | rw [if_neg h95, if_pos h116]
                | rw [if_neg h95, if_neg h116]
               funext z
               by_cases z0 : z = 0
               · subst z0
                 first
                   | rfl
                   | simp [mj_up]
               by_cases z1 : z = 1
               · subst z1
                 first
                   | rfl
                   | simp [mj_up]
               by_cases z2 : z = 2
               · subst z2
                 first
                   | rfl
                   | simp [mj_up]
               by_cases z3 : z = 3
               · subst z3
                 first
                   | rfl
                   | simp [mj_up]
               by_cases z4 : z = 4
               · subst z4
                 first
                   | rfl
                   | simp [mj_up]
               by_cases z5 : z = 5
               · subst z5
                 first
                   | rfl
                   | simp [mj_up]
               by_cases z6 : z = 6
               · subst z6
                 first
                   | rfl
                   | simp [mj_up]
               first
                 | (simp [mj_up, z0, z1, z2, z3, z4, z5, z6]; done)
                 | (simp [mj_up, z0, z1, z2, z3, z4, z5, z6]; intro q; first | exact absurd q z0 | exact absurd q z1 | exact absurd q z2 | exact absurd q z3 | exact absurd q z4 | exact absurd q z5 | exact absurd q z6))
        · iterate 5 refine ev_go rfl ?_
          refine ev_lo ?_ (ih (k + 1) lo (by omega))
          have ea : sm (aq_si M 1) (k + 1) = sm (aq_si M 1) k + aq_si M 1 k := rfl
          have eb : sm (aq_si M 2) (k + 1) = sm (aq_si M 2) k + aq_si M 2 k := rfl
          rw [nI_1, ea, eb]
          unfold aq_si
          have xx : ¬ (M.1 19 k = 1 ∧ M.1 19 k = 2) := fun q => absurd (q.1.symm.trans q.2) (by decide)
          first
            | (have yy := And.intro h95 h116
               exact absurd yy xx)
            | (first
                | rw [if_pos h95, if_neg h116]
                | rw [if_neg h95, if_pos h116]
                | rw [if_neg h95, if_neg h116]
               funext z
               by_cases z0 : z = 0
               · subst z0
                 first
                   | rfl
                   | simp [mj_up]
               by_cases z1 : z = 1
               · subst z1
                 first
                   | rfl
                   | simp [mj_up]
               by_cases z2 : z = 2
               · subst z2
                 first
                   | rfl
                   | simp [mj_up]
               by_cases z3 : z = 3
               · subst z3
                 first
                   | rfl
                   | simp [mj_up]
               by_cases z4 : z = 4
               · subst z4
                 first
                   | rfl
                   | simp [mj_up]
               by_cases z5 : z = 5
               · subst z5
                 first
                   | rfl
                   | simp [mj_up]
               by_cases z6 : z = 6
               · subst z6
                 first
                   | rfl
                   | simp [mj_up]
               first
                 | (simp [mj_up, z0, z1, z2, z3, z4, z5, z6]; done)
                 | (simp [mj_up, z0, z1, z2, z3, z4, z5, z6]; intro q; first | exact absurd q z0 | exact absurd q z1 | exact absurd q z2 | exact absurd q z3 | exact absurd q z4 | exact absurd q z5 | exact absurd q z6))
theorem pm_count_s {w : Int32} {lo : mj_L} (hv : vs_A M) : mj_Ev mj_S0 X mj_P (d + 4) mt_M_count 133 (mj_up (mj_up (mj_up (mj_up (mj_up (mj_up (mj_up lo 0 (mv_p 12)) 1 (mv_i w)) 2 (mv_i (sm (aq_ab M) 60))) 3 (mv_i (sm (aq_so M) 60))) 4 (mv_i (sm (aq_si M 1) (aq_n M)))) 5 (mv_i (sm (aq_si M 2) (aq_n M)))) 6 (mv_i (nI (aq_n M)))) [] M 0 (mv_R (aq_cn M w) M) := by
  have hn := hv.1.1
  have hl := hv.1.2
  refine ev_go rfl ?_
  by_cases g0 : 0 ≤ w ∧ w ≤ 7
  · obtain ⟨j9, g1, g2⟩ := nI_of2 (n := 7) rfl (by grind) g0.2
    have g3 : j9 = 0 ∨ j9 = 1 ∨ j9 = 2 ∨ j9 = 3 ∨ j9 = 4 ∨ j9 = 5 ∨ j9 = 6 ∨ j9 = 7 := by omega
    rcases g3 with g3 | g3 | g3 | g3 | g3 | g3 | g3 | g3 <;> subst g3 <;> subst g2
    · refine ev_go rfl ?_
      iterate 2 refine ev_go rfl ?_
      refine ev_end rfl ?_
      rfl
    · refine ev_go rfl ?_
      refine ev_go rfl ?_
      refine ev_callr rfl rfl rfl (pm_differences hn hl) ?_
      refine ev_end rfl ?_
      rfl
    · refine ev_go rfl ?_
      refine ev_go rfl ?_
      refine ev_end rfl ?_
      rfl
    · refine ev_go rfl ?_
      refine ev_go rfl ?_
      refine ev_callr rfl rfl rfl (pm_howMany hv) ?_
      refine ev_end rfl ?_
      rfl
    · refine ev_go rfl ?_
      refine ev_go rfl ?_
      refine ev_end rfl ?_
      rfl
    · refine ev_go rfl ?_
      refine ev_go rfl ?_
      refine ev_end rfl ?_
      rfl
    · refine ev_go rfl ?_
      refine ev_go rfl ?_
      refine ev_end rfl ?_
      rfl
    · refine ev_go rfl ?_
      iterate 2 refine ev_go rfl ?_
      refine ev_end rfl ?_
      rfl
  · have g4 : w.toInt < 0 ∨ 7 < w.toInt := by
      have g5 : w < 0 ∨ 7 < w := by grind
      rcases g5 with g5 | g5
      · exact Or.inl (Int32.lt_iff_toInt_lt.mp g5)
      · exact Or.inr (Int32.lt_iff_toInt_lt.mp g5)
    refine ev_pos g4 rfl ?_
    refine ev_go rfl ?_
    refine ev_end rfl ?_
    show some (mv_R (-1) M) = some (mv_R (aq_cn M w) M)
    unfold aq_cn
    rw [if_neg (by grind), if_neg (by grind), if_neg (by grind), if_neg (by grind), if_neg (by grind), if_neg (by grind), if_neg (by grind), if_neg (by grind)]
theorem pm_count {w : Int32} (hv : vs_A M) : mj_C0 X (d + 4) mt_M_count [mv_p 12, mv_i w] M (mv_R (aq_cn (mj_st M 12 0 0) w) (mj_st M 12 0 0)) := by
  have hv' : vs_A (mj_st M 12 0 0) := (rm_vA rm_0).2 hv
  iterate 9 refine ev_go rfl ?_
  have key := pm_count_l1 (X := X) (d := d + 1) (M := mj_st M 12 0 0) (w := w) (r := mv_R (aq_cn (mj_st M 12 0 0) w) (mj_st M 12 0 0)) hv'.1.1 hv'.1.2 (fun lo => by
    iterate 6 refine ev_go rfl ?_
    refine ev_lo ?_ (pm_count_l2 (M := mj_st M 12 0 0) (w := w) hv'.1.1 hv'.1.2 (fun lo => pm_count_s hv') (aq_n (mj_st M 12 0 0)) 0 lo (by omega))
    funext z
    by_cases z0 : z = 0
    · subst z0
      first
        | rfl
        | simp [mj_up]
    by_cases z1 : z = 1
    · subst z1
      first
        | rfl
        | simp [mj_up]
    by_cases z2 : z = 2
    · subst z2
      first
        | rfl
        | simp [mj_up]
    by_cases z3 : z = 3
    · subst z3
      first
        | rfl
        | simp [mj_up]
    by_cases z4 : z = 4
    · subst z4
      first
        | rfl
        | simp [mj_up]
    by_cases z5 : z = 5
    · subst z5
      first
        | rfl
        | simp [mj_up]
    by_cases z6 : z = 6
    · subst z6
      first
        | rfl
        | simp [mj_up]
    first
      | (simp [mj_up, z0, z1, z2, z3, z4, z5, z6]; done)
      | (simp [mj_up, z0, z1, z2, z3, z4, z5, z6]; intro q; first | exact absurd q z0 | exact absurd q z1 | exact absurd q z2 | exact absurd q z3 | exact absurd q z4 | exact absurd q z5 | exact absurd q z6)) 60 0 (fun j => [mv_p 12, mv_i w][j]?) (by omega)
  refine ev_lo ?_ key
  funext z
  by_cases z0 : z = 0
  · subst z0
    first
      | rfl
      | simp [mj_up]
  by_cases z1 : z = 1
  · subst z1
    first
      | rfl
      | simp [mj_up]
  by_cases z2 : z = 2
  · subst z2
    first
      | rfl
      | simp [mj_up]
  by_cases z3 : z = 3
  · subst z3
    first
      | rfl
      | simp [mj_up]
  by_cases z4 : z = 4
  · subst z4
    first
      | rfl
      | simp [mj_up]
  first
    | (simp [mj_up, z0, z1, z2, z3, z4]; done)
    | (simp [mj_up, z0, z1, z2, z3, z4]; intro q; first | exact absurd q z0 | exact absurd q z1 | exact absurd q z2 | exact absurd q z3 | exact absurd q z4)
end
