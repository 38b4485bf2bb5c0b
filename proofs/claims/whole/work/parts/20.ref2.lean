/-! pure walks: what the reference does -/
theorem pd_no0 {v a b : Int32} : pd_no v a b = 0 ↔ (a ≤ v ∧ v ≤ b) := by
  unfold pd_no
  grind
/-- the reference, called in state A, tells c, answers v, and comes to A' -/
def rs_ (X : Nat × (Nat → Int32)) (d : Nat) (T : mj_T) (as : List mj_V) (A : mj_M) (c v : Int32) (A' : mj_M) : Prop := ∀ M, rm_ A M → ∃ M', mj_C0 X d T as M (mv_R v M') ∧ rm_ A' M' ∧ fm_ M M' ∧ M'.1 12 0 = c
section
variable {X : Nat × (Nat → Int32)} {d : Nat} {M A : mj_M}
theorem rs_of {T : mj_T} {as : List mj_V} {c v : Int32} (h : ∀ M, rm_ A M → mj_C0 X d T as M (mv_R v (mj_st M 12 0 c))) : rs_ X d T as A c v A := fun M hr => ⟨_, h M hr, hr.sr (by unfold aq_k; omega), (fm_.refl M).st (by decide) (by decide), pm_st0⟩
theorem aq_n0 {c : Int32} : aq_n (mj_st M 12 0 c) = aq_n M := by unfold aq_n; rw [pm_st1 (by decide)]
theorem rm_0 {c : Int32} : rm_ M (mj_st M 12 0 c) := (rm_.refl M).sr (by unfold aq_k; omega)
theorem na_0 {A : mj_M} (hn : A.1 12 1 = nI (aq_n A)) (hl : aq_n A ≤ 24) {a : Int32} : pd_na A a = 0 ↔ ∃ j, j < aq_n A ∧ a = nI j := by
  unfold pd_na
  rw [hn]
  constructor
  · intro h
    by_cases h1 : a < 0
    · rw [if_pos h1] at h
      exact absurd h (by decide)
    · rw [if_neg h1] at h
      obtain ⟨j, hj, e⟩ := nI_of h1
      subst e
      by_cases h2 : nI j < nI (aq_n A)
      · exact ⟨j, (nI_ltI hj (by omega)).1 h2, rfl⟩
      · rw [if_neg h2] at h
        exact absurd h (by decide)
  · rintro ⟨j, hj, e⟩
    subst e
    rw [if_neg (nI_pos (by omega)), if_pos (nI_lt hj (by omega))]
theorem rm_na (h : rm_ A M) (a : Int32) : pd_na M a = pd_na A a := by
  unfold pd_na
  rw [h.s (by decide)]
theorem pm_window_x {a b : Int32} (h : ¬ (0 ≤ a ∧ a ≤ 10000 ∧ 0 ≤ b ∧ b ≤ 10000 ∧ a ≤ b)) : mj_C0 X (d + 1) mt_M_window [mv_p 12, mv_i a, mv_i b] M (mv_R 0 (mj_st M 12 0 1)) := by
  iterate 4 refine ev_go rfl ?_
  refine ev_callr rfl rfl rfl pm_not ?_
  refine ev_if rfl (fun h9 => ?_) (fun h9 => ?_)
  · iterate 3 refine ev_go rfl ?_
    refine ev_callr rfl rfl rfl pm_not ?_
    refine ev_if rfl (fun h20 => ?_) (fun h20 => ?_)
    · iterate 2 refine ev_go rfl ?_
      refine ev_if rfl (fun h25 => ?_) (fun h25 => ?_)
      · exfalso
        grind [pd_no0]
      · iterate 7 refine ev_go rfl ?_
        refine ev_end rfl ?_
        rfl
    · iterate 7 refine ev_go rfl ?_
      refine ev_end rfl ?_
      rfl
  · iterate 7 refine ev_go rfl ?_
    refine ev_end rfl ?_
    rfl
def ow_ (A : mj_M) (a b : Int32) : mj_M := mj_st (mj_st A 12 10 a) 12 11 b
theorem pm_window {a b : Int32} (h : 0 ≤ a ∧ a ≤ 10000 ∧ 0 ≤ b ∧ b ≤ 10000 ∧ a ≤ b) (hv : vs_A (ow_ (mj_st M 12 0 0) a b)) : mj_C0 X (d + 2) mt_M_window [mv_p 12, mv_i a, mv_i b] M (mv_R (sm (aq_ca (ow_ (mj_st M 12 0 0) a b)) (aq_n (ow_ (mj_st M 12 0 0) a b))) (ow_ (mj_st M 12 0 0) a b)) := by
  iterate 4 refine ev_go rfl ?_
  refine ev_callr rfl rfl rfl pm_not ?_
  refine ev_if rfl (fun h9 => ?_) (fun h9 => ?_)
  · iterate 3 refine ev_go rfl ?_
    refine ev_callr rfl rfl rfl pm_not ?_
    refine ev_if rfl (fun h20 => ?_) (fun h20 => ?_)
    · iterate 2 refine ev_go rfl ?_
      refine ev_if rfl (fun h25 => ?_) (fun h25 => ?_)
      · iterate 12 refine ev_go rfl ?_
        refine ev_callr rfl rfl rfl (pm_howMany hv) ?_
        refine ev_end rfl ?_
        rfl
      · exfalso
        grind [pd_no0]
    · exfalso
      grind [pd_no0]
  · exfalso
    grind [pd_no0]
theorem pm_expected_x {p g : Int32} (h : ¬ (0 ≤ p ∧ p ≤ 9 ∧ 0 ≤ g ∧ g ≤ 5)) : mj_C0 X (d + 1) mt_M_expected [mv_p 12, mv_i p, mv_i g] M (mv_R 0 (mj_st M 12 0 1)) := by
  iterate 4 refine ev_go rfl ?_
  refine ev_callr rfl rfl rfl pm_not ?_
  refine ev_if rfl (fun h8 => ?_) (fun h8 => ?_)
  · iterate 3 refine ev_go rfl ?_
    refine ev_callr rfl rfl rfl pm_not ?_
    refine ev_if rfl (fun h17 => ?_) (fun h17 => ?_)
    · exfalso
      grind [pd_no0]
    · iterate 8 refine ev_go rfl ?_
      refine ev_end rfl ?_
      rfl
  · iterate 8 refine ev_go rfl ?_
    refine ev_end rfl ?_
    rfl
theorem pm_expected {p g : Nat} (hp : p < 10) (hg : g < 6) (hn : M.1 12 1 = nI (aq_n M)) (hl : aq_n M ≤ 24) : mj_C0 X (d + 2) mt_M_expected [mv_p 12, mv_i (nI p), mv_i (nI g)] M (mv_R (aq_E M (p * 6 + g)) (mj_st M 12 0 0)) := by
  have h : 0 ≤ nI p ∧ nI p ≤ 9 ∧ 0 ≤ nI g ∧ nI g ≤ 5 := ⟨nI_pos' (by omega), nI_le (b := 9) (by omega) (by decide), nI_pos' (by omega), nI_le (b := 5) (by omega) (by decide)⟩
  iterate 4 refine ev_go rfl ?_
  refine ev_callr rfl rfl rfl pm_not ?_
  refine ev_if rfl (fun h8 => ?_) (fun h8 => ?_)
  · iterate 3 refine ev_go rfl ?_
    refine ev_callr rfl rfl rfl pm_not ?_
    refine ev_if rfl (fun h17 => ?_) (fun h17 => ?_)
    · iterate 11 refine ev_go rfl ?_
      show mj_Ev _ _ _ _ _ _ _ [mv_i (6 * nI p + nI g), _] _ _ _
      rw [Int32.mul_comm, (pd_cell hp hg).1]
      refine ev_callr rfl rfl rfl (pm_expectedOf (c := p * 6 + g) (by rw [aq_n0]; exact hn) (by rw [aq_n0]; exact hl)) ?_
      refine ev_end rfl ?_
      show some _ = some _
      rw [rm_E rm_0]
    · exfalso
      grind [pd_no0]
  · exfalso
    grind [pd_no0]
theorem pm_counted_x {p g n : Int32} (h : ¬ (0 ≤ p ∧ p ≤ 9 ∧ 0 ≤ g ∧ g ≤ 5 ∧ -1 ≤ n ∧ n ≤ 100000)) : mj_C0 X (d + 1) mt_M_counted [mv_p 12, mv_i p, mv_i g, mv_i n] M (mv_R 0 (mj_st M 12 0 1)) := by
  iterate 4 refine ev_go rfl ?_
  refine ev_callr rfl rfl rfl pm_not ?_
  refine ev_if rfl (fun h8 => ?_) (fun h8 => ?_)
  · iterate 3 refine ev_go rfl ?_
    refine ev_callr rfl rfl rfl pm_not ?_
    refine ev_if rfl (fun h17 => ?_) (fun h17 => ?_)
    · iterate 3 refine ev_go rfl ?_
      refine ev_callr rfl rfl rfl pm_not ?_
      refine ev_if rfl (fun h27 => ?_) (fun h27 => ?_)
      · exfalso
        grind [pd_no0]
      · iterate 7 refine ev_go rfl ?_
        refine ev_end rfl ?_
        rfl
    · iterate 7 refine ev_go rfl ?_
      refine ev_end rfl ?_
      rfl
  · iterate 7 refine ev_go rfl ?_
    refine ev_end rfl ?_
    rfl
def oc_ (A : mj_M) (c : Nat) (n : Int32) : mj_M := mj_st A 21 c n
theorem pm_counted {p g : Nat} {n : Int32} (hp : p < 10) (hg : g < 6) (h0 : -1 ≤ n ∧ n ≤ 100000) (hn : M.1 12 1 = nI (aq_n M)) (hl : aq_n M ≤ 24) : mj_C0 X (d + 4) mt_M_counted [mv_p 12, mv_i (nI p), mv_i (nI g), mv_i n] M (mv_R (aq_nd (oc_ (mj_st M 12 0 0) (p * 6 + g) n) (aq_E (oc_ (mj_st M 12 0 0) (p * 6 + g) n))) (oc_ (mj_st M 12 0 0) (p * 6 + g) n)) := by
  have h : 0 ≤ nI p ∧ nI p ≤ 9 ∧ 0 ≤ nI g ∧ nI g ≤ 5 := ⟨nI_pos' (by omega), nI_le (b := 9) (by omega) (by decide), nI_pos' (by omega), nI_le (b := 5) (by omega) (by decide)⟩
  obtain ⟨e1, e2, e3⟩ := pd_cell hp hg
  iterate 4 refine ev_go rfl ?_
  refine ev_callr rfl rfl rfl pm_not ?_
  refine ev_if rfl (fun h8 => ?_) (fun h8 => ?_)
  · iterate 3 refine ev_go rfl ?_
    refine ev_callr rfl rfl rfl pm_not ?_
    refine ev_if rfl (fun h17 => ?_) (fun h17 => ?_)
    · iterate 3 refine ev_go rfl ?_
      refine ev_callr rfl rfl rfl pm_not ?_
      refine ev_if rfl (fun h27 => ?_) (fun h27 => ?_)
      · iterate 12 refine ev_go rfl ?_
        show mj_Ev _ _ _ _ _ _ _ [mv_i (6 * nI p + nI g), _] _ _ _
        rw [Int32.mul_comm, e1]
        refine ev_go rfl ?_
        refine ev_ok (nI_in e3 (by decide)) rfl ?_
        rw [← e1, e2]
        refine ev_go rfl ?_
        refine ev_callr rfl rfl rfl (pm_differences (M := oc_ (mj_st M 12 0 0) (p * 6 + g) n) hn hl) ?_
        refine ev_end rfl ?_
        rfl
      · exfalso
        grind [pd_no0]
    · exfalso
      grind [pd_no0]
  · exfalso
    grind [pd_no0]
theorem pm_often_x {a : Int32} (h : ¬ pd_na M a = 0) : mj_C0 X (d + 1) mt_M_often [mv_p 12, mv_i a] M (mv_R 0 (mj_st M 12 0 1)) := by
  iterate 3 refine ev_go rfl ?_
  refine ev_callr rfl rfl rfl pm_noAct ?_
  refine ev_if rfl (fun h6 => ?_) (fun h6 => ?_)
  · exact absurd h6 h
  · iterate 8 refine ev_go rfl ?_
    refine ev_end rfl ?_
    rfl
theorem pm_often {a : Nat} (ha : a < 24) (h : pd_na M (nI a) = 0) : mj_C0 X (d + 1) mt_M_often [mv_p 12, mv_i (nI a)] M (mv_R (M.1 22 a) (mj_st M 12 0 0)) := by
  have h1 : mj_in (nI a) 24 := nI_in ha (by decide)
  have h2 : (nI a).toNatClampNeg = a := nI_clamp (by omega)
  iterate 3 refine ev_go rfl ?_
  refine ev_callr rfl rfl rfl pm_noAct ?_
  refine ev_if rfl (fun h6 => ?_) (fun h6 => ?_)
  · iterate 8 refine ev_go rfl ?_
    refine ev_ok h1 rfl ?_
    refine ev_end rfl ?_
    show some _ = some _
    rw [h2]
    rfl
  · exact absurd h h6
theorem pm_found_x {i w : Int32} (h : i < 0 ∨ ¬ i < M.1 12 17) : mj_C0 X (d + 1) mt_M_found [mv_p 12, mv_i i, mv_i w] M (mv_R 0 (mj_st M 12 0 1)) := by
  iterate 2 refine ev_go rfl ?_
  refine ev_if rfl (fun h2 => ?_) (fun h2 => ?_)
  · iterate 7 refine ev_go rfl ?_
    refine ev_end rfl ?_
    rfl
  · iterate 3 refine ev_go rfl ?_
    refine ev_if rfl (fun h10 => ?_) (fun h10 => ?_)
    · exfalso
      grind
    · iterate 7 refine ev_go rfl ?_
      refine ev_end rfl ?_
      rfl
theorem pm_found_y {i w : Int32} (h : ¬ i < 0 ∧ i < M.1 12 17) (h' : ¬ (0 ≤ w ∧ w ≤ 1)) : mj_C0 X (d + 1) mt_M_found [mv_p 12, mv_i i, mv_i w] M (mv_R 0 (mj_st M 12 0 2)) := by
  iterate 2 refine ev_go rfl ?_
  refine ev_if rfl (fun h2 => ?_) (fun h2 => ?_)
  · exfalso
    grind
  · iterate 3 refine ev_go rfl ?_
    refine ev_if rfl (fun h10 => ?_) (fun h10 => ?_)
    · iterate 3 refine ev_go rfl ?_
      refine ev_callr rfl rfl rfl pm_not ?_
      refine ev_if rfl (fun h23 => ?_) (fun h23 => ?_)
      · exfalso
        grind [pd_no0]
      · iterate 7 refine ev_go rfl ?_
        refine ev_end rfl ?_
        rfl
    · exfalso
      grind
theorem pm_found {i : Nat} {w : Int32} (hi : i < 4) (h : nI i < M.1 12 17) (h' : 0 ≤ w ∧ w ≤ 1) : mj_C0 X (d + 1) mt_M_found [mv_p 12, mv_i (nI i), mv_i w] M (mv_R (if w = 0 then M.1 23 i / 2 else M.1 23 i - M.1 23 i / 2 * 2) (mj_st M 12 0 0)) := by
  have h0 : ¬ nI i < 0 := nI_pos (by omega)
  have h1 : mj_in (nI i) 4 := nI_in hi (by decide)
  have e2 : (nI i).toNatClampNeg = i := nI_clamp (by omega)
  iterate 2 refine ev_go rfl ?_
  refine ev_if rfl (fun h2 => ?_) (fun h2 => ?_)
  · exfalso
    grind
  · iterate 3 refine ev_go rfl ?_
    refine ev_if rfl (fun h10 => ?_) (fun h10 => ?_)
    · iterate 3 refine ev_go rfl ?_
      refine ev_callr rfl rfl rfl pm_not ?_
      refine ev_if rfl (fun h23 => ?_) (fun h23 => ?_)
      · iterate 6 refine ev_go rfl ?_
        refine ev_if rfl (fun h44 => ?_) (fun h44 => ?_)
        · iterate 3 refine ev_go rfl ?_
          refine ev_ok h1 rfl ?_
          iterate 3 refine ev_go rfl ?_
          refine ev_end rfl ?_
          show some _ = some _
          rw [e2]
          first
            | rw [if_pos h44]
              rfl
            | rw [if_neg h44]
              rfl
        · iterate 3 refine ev_go rfl ?_
          refine ev_ok h1 rfl ?_
          iterate 2 refine ev_go rfl ?_
          refine ev_end rfl ?_
          show some _ = some _
          rw [e2]
          first
            | rw [if_pos h44]
              rfl
            | rw [if_neg h44]
              rfl
      · exfalso
        grind [pd_no0]
    · exfalso
      grind
theorem pm_back_x {a : Int32} (h : ¬ pd_na M a = 0) : mj_C0 X (d + 1) mt_M_back [mv_p 12, mv_i a] M (mv_R 0 (mj_st M 12 0 1)) := by
  iterate 3 refine ev_go rfl ?_
  refine ev_callr rfl rfl rfl pm_noAct ?_
  refine ev_if rfl (fun h6 => ?_) (fun h6 => ?_)
  · exact absurd h6 h
  · iterate 7 refine ev_go rfl ?_
    refine ev_end rfl ?_
    rfl
theorem pm_back_y {a : Nat} (ha : a < 24) (h : pd_na M (nI a) = 0) (h' : M.1 19 a = 0) : mj_C0 X (d + 1) mt_M_back [mv_p 12, mv_i (nI a)] M (mv_R 0 (mj_st M 12 0 2)) := by
  have h1 : mj_in (nI a) 24 := nI_in ha (by decide)
  have h2 : (nI a).toNatClampNeg = a := nI_clamp (by omega)
  iterate 3 refine ev_go rfl ?_
  refine ev_callr rfl rfl rfl pm_noAct ?_
  refine ev_if rfl (fun h6 => ?_) (fun h6 => ?_)
  · iterate 3 refine ev_go rfl ?_
    refine ev_ok h1 rfl ?_
    rw [h2]
    refine ev_if rfl (fun h19 => ?_) (fun h19 => ?_)
    · iterate 7 refine ev_go rfl ?_
      refine ev_end rfl ?_
      rfl
    · exact absurd h' h19
  · exact absurd h h6
theorem pm_back {a : Nat} (ha : a < 24) (h : pd_na M (nI a) = 0) (h' : ¬ M.1 19 a = 0) (hn : M.1 12 1 = nI (aq_n M)) (hl : aq_n M ≤ 24) : mj_C0 X (d + 4) mt_M_back [mv_p 12, mv_i (nI a)] M (mv_R (aq_nd (mj_st (mj_st M 12 0 0) 19 a 0) (aq_E (mj_st (mj_st M 12 0 0) 19 a 0))) (mj_st (mj_st M 12 0 0) 19 a 0)) := by
  have h1 : mj_in (nI a) 24 := nI_in ha (by decide)
  have h2 : (nI a).toNatClampNeg = a := nI_clamp (by omega)
  iterate 3 refine ev_go rfl ?_
  refine ev_callr rfl rfl rfl pm_noAct ?_
  refine ev_if rfl (fun h6 => ?_) (fun h6 => ?_)
  · iterate 3 refine ev_go rfl ?_
    refine ev_ok h1 rfl ?_
    rw [h2]
    refine ev_if rfl (fun h19 => ?_) (fun h19 => ?_)
    · exact absurd h19 h'
    · iterate 9 refine ev_go rfl ?_
      refine ev_ok h1 rfl ?_
      rw [h2]
      refine ev_go rfl ?_
      refine ev_callr rfl rfl rfl (pm_differences (M := mj_st (mj_st M 12 0 0) 19 a 0) hn hl) ?_
      refine ev_end rfl ?_
      rfl
  · exact absurd h h6
theorem pm_share_x {p q : Int32} (h : ¬ (0 ≤ p ∧ p ≤ 1000000 ∧ 0 ≤ q)) : mj_C0 X d mt_M_share [mv_p 12, mv_i p, mv_i q] M (mv_R 0 (mj_st M 12 0 1)) := by
  iterate 2 refine ev_go rfl ?_
  refine ev_if rfl (fun h2 => ?_) (fun h2 => ?_)
  · iterate 8 refine ev_go rfl ?_
    refine ev_end rfl ?_
    rfl
  · refine ev_go rfl ?_
    refine ev_if rfl (fun h6 => ?_) (fun h6 => ?_)
    · iterate 8 refine ev_go rfl ?_
      refine ev_end rfl ?_
      rfl
    · iterate 2 refine ev_go rfl ?_
      refine ev_if rfl (fun h12 => ?_) (fun h12 => ?_)
      · exfalso
        grind
      · iterate 8 refine ev_go rfl ?_
        refine ev_end rfl ?_
        rfl
theorem pm_share_y {p q : Int32} (h : 0 ≤ p ∧ p ≤ 1000000 ∧ 0 ≤ q) (h' : q = 0) : mj_C0 X d mt_M_share [mv_p 12, mv_i p, mv_i q] M (mv_R 0 (mj_st M 12 0 2)) := by
  iterate 2 refine ev_go rfl ?_
  refine ev_if rfl (fun h2 => ?_) (fun h2 => ?_)
  · exfalso
    grind
  · refine ev_go rfl ?_
    refine ev_if rfl (fun h6 => ?_) (fun h6 => ?_)
    · exfalso
      grind
    · iterate 2 refine ev_go rfl ?_
      refine ev_if rfl (fun h12 => ?_) (fun h12 => ?_)
      · refine ev_go rfl ?_
        refine ev_if rfl (fun h20 => ?_) (fun h20 => ?_)
        · iterate 8 refine ev_go rfl ?_
          refine ev_end rfl ?_
          rfl
        · exact absurd h' h20
      · exfalso
        grind
theorem pm_share {p q : Int32} (h : 0 ≤ p ∧ p ≤ 1000000 ∧ 0 ≤ q) (h' : ¬ q = 0) : mj_C0 X d mt_M_share [mv_p 12, mv_i p, mv_i q] M (mv_R (100 * p / q) (mj_st M 12 0 0)) := by
  iterate 2 refine ev_go rfl ?_
  refine ev_if rfl (fun h2 => ?_) (fun h2 => ?_)
  · exfalso
    grind
  · refine ev_go rfl ?_
    refine ev_if rfl (fun h6 => ?_) (fun h6 => ?_)
    · exfalso
      grind
    · iterate 2 refine ev_go rfl ?_
      refine ev_if rfl (fun h12 => ?_) (fun h12 => ?_)
      · refine ev_go rfl ?_
        refine ev_if rfl (fun h20 => ?_) (fun h20 => ?_)
        · exact absurd h20 h'
        · iterate 9 refine ev_go rfl ?_
          refine ev_ok h' rfl ?_
          refine ev_end rfl ?_
          rfl
      · exfalso
        grind
theorem pm_exact (h : M.1 12 13 = 0 ∨ M.1 12 13 = 1) : mj_C0 X d mt_M_exact [mv_p 12] M (mv_R (M.1 12 13) (mj_st M 12 0 0)) := by
  iterate 5 refine ev_go rfl ?_
  refine ev_end rfl ?_
  exact if_pos h
theorem pm_steps : mj_C0 X d mt_M_steps [mv_p 12] M (mv_R (M.1 12 14) (mj_st M 12 0 0)) := by
  iterate 5 refine ev_go rfl ?_
  refine ev_end rfl ?_
  rfl
theorem pm_ties : mj_C0 X d mt_M_ties [mv_p 12] M (mv_R (M.1 12 15) (mj_st M 12 0 0)) := by
  iterate 5 refine ev_go rfl ?_
  refine ev_end rfl ?_
  rfl
theorem pm_thrown : mj_C0 X d mt_M_thrown [mv_p 12] M (mv_R (M.1 12 0) M) := by
  iterate 2 refine ev_go rfl ?_
  refine ev_end rfl ?_
  rfl
end
