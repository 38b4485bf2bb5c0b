/-! pure walks: what the reference does, with loops -/
/-- an act that may be told -/
def on_ok (A : mj_M) (k p o g n w : Int32) : Prop := 0 ≤ p ∧ p ≤ 9 ∧ (k = 2 → 0 ≤ o ∧ o ≤ 9 ∧ ¬ o = p) ∧ 0 ≤ g ∧ g ≤ 5 ∧ 1 ≤ n ∧ n ≤ 1000 ∧ 0 ≤ w ∧ w ≤ 10000 ∧ (0 < aq_n A → A.1 18 (aq_n A - 1) ≤ w)
def on_st (A : mj_M) (k p o g n w : Int32) : mj_M := mj_st (mj_st (mj_st (mj_st (mj_st (mj_st (mj_st A 13 (aq_n A) k) 14 (aq_n A) p) 15 (aq_n A) o) 16 (aq_n A) g) 17 (aq_n A) n) 18 (aq_n A) w) 12 1 (nI (aq_n A + 1))
section
variable {X : Nat × (Nat → Int32)} {d : Nat} {M A : mj_M}
theorem pm_newAct_x {k p o g n w : Int32} (hn : M.1 12 1 = nI (aq_n M)) (hl : aq_n M ≤ 24) (h : ¬ on_ok M k p o g n w) : mj_C0 X (d + 1) mt_M_newAct [mv_p 12, mv_i k, mv_i p, mv_i o, mv_i g, mv_i n, mv_i w] M (mv_R 0 (mj_st M 12 0 1)) := by
  unfold on_ok at h
  have tail : ∀ (st : List mj_V), st = [] → mj_Ev mj_S0 X mj_P (d + 1) mt_M_newAct 87 (fun j => [mv_p 12, mv_i k, mv_i p, mv_i o, mv_i g, mv_i n, mv_i w][j]?) st M 0 (mv_R 0 (mj_st M 12 0 1)) := by
    intro st hst
    subst hst
    iterate 13 refine ev_go rfl ?_
    refine ev_end rfl ?_
    rfl
  iterate 3 refine ev_go rfl ?_
  refine ev_callr rfl rfl rfl pm_not ?_
  refine ev_if rfl (fun h7 => ?_) (fun h7 => ?_)
  · iterate 2 refine ev_go rfl ?_
    refine ev_if rfl (fun h12 => ?_) (fun h12 => ?_)
    · iterate 3 refine ev_go rfl ?_
      refine ev_callr rfl rfl rfl pm_not ?_
      refine ev_if rfl (fun h22 => ?_) (fun h22 => ?_)
      · iterate 2 refine ev_go rfl ?_
        refine ev_if rfl (fun h27 => ?_) (fun h27 => ?_)
        · exact tail _ rfl
        · iterate 3 refine ev_go rfl ?_
          refine ev_callr rfl rfl rfl pm_not ?_
          refine ev_if rfl (fun h37 => ?_) (fun h37 => ?_)
          · iterate 3 refine ev_go rfl ?_
            refine ev_callr rfl rfl rfl pm_not ?_
            refine ev_if rfl (fun h49 => ?_) (fun h49 => ?_)
            · iterate 3 refine ev_go rfl ?_
              refine ev_callr rfl rfl rfl pm_not ?_
              refine ev_if rfl (fun h61 => ?_) (fun h61 => ?_)
              · iterate 2 refine ev_go rfl ?_
                refine ev_if rfl (fun h68 => ?_) (fun h68 => ?_)
                · exfalso
                  first
                    | grind [pd_no0]
                    | (have z8 : ¬ 0 < aq_n M := by
                        intro z
                        exact absurd h68 (by rw [hn]; exact nI_nle z (by omega))
                       grind [pd_no0])
                · have z9 : 0 < aq_n M := by
                    rcases Nat.eq_zero_or_pos (aq_n M) with z | z
                    · exact absurd (by rw [hn, z]; decide) h68
                    · exact z
                  have e9 : M.1 12 1 - 1 = nI (aq_n M - 1) := by
                    rw [hn, show aq_n M = (aq_n M - 1) + 1 by omega, nI_pred]
                    rfl
                  have i9 : mj_in (M.1 12 1 - 1) 24 := by rw [e9]; exact nI_in (by omega) (by decide)
                  have j9 : (M.1 12 1 - 1).toNatClampNeg = aq_n M - 1 := by rw [e9]; exact nI_clamp (by omega)
                  iterate 7 refine ev_go rfl ?_
                  refine ev_ok i9 rfl ?_
                  show mj_Ev _ _ _ _ _ _ _ [mv_i (M.1 18 (M.1 12 1 - 1).toNatClampNeg), _] _ _ _
                  rw [j9]
                  refine ev_if rfl (fun h84 => ?_) (fun h84 => ?_)
                  · exfalso
                    first
                      | grind [pd_no0]
                      | (have z8 : ¬ 0 < aq_n M := by
                          intro z
                          exact absurd h68 (by rw [hn]; exact nI_nle z (by omega))
                         grind [pd_no0])
                  · exact tail _ rfl
              · exact tail _ rfl
            · exact tail _ rfl
          · exact tail _ rfl
      · exact tail _ rfl
    · iterate 3 refine ev_go rfl ?_
      refine ev_callr rfl rfl rfl pm_not ?_
      refine ev_if rfl (fun h37 => ?_) (fun h37 => ?_)
      · iterate 3 refine ev_go rfl ?_
        refine ev_callr rfl rfl rfl pm_not ?_
        refine ev_if rfl (fun h49 => ?_) (fun h49 => ?_)
        · iterate 3 refine ev_go rfl ?_
          refine ev_callr rfl rfl rfl pm_not ?_
          refine ev_if rfl (fun h61 => ?_) (fun h61 => ?_)
          · iterate 2 refine ev_go rfl ?_
            refine ev_if rfl (fun h68 => ?_) (fun h68 => ?_)
            · exfalso
              first
                | grind [pd_no0]
                | (have z8 : ¬ 0 < aq_n M := by
                    intro z
                    exact absurd h68 (by rw [hn]; exact nI_nle z (by omega))
                   grind [pd_no0])
            · have z9 : 0 < aq_n M := by
                rcases Nat.eq_zero_or_pos (aq_n M) with z | z
                · exact absurd (by rw [hn, z]; decide) h68
                · exact z
              have e9 : M.1 12 1 - 1 = nI (aq_n M - 1) := by
                rw [hn, show aq_n M = (aq_n M - 1) + 1 by omega, nI_pred]
                rfl
              have i9 : mj_in (M.1 12 1 - 1) 24 := by rw [e9]; exact nI_in (by omega) (by decide)
              have j9 : (M.1 12 1 - 1).toNatClampNeg = aq_n M - 1 := by rw [e9]; exact nI_clamp (by omega)
              iterate 7 refine ev_go rfl ?_
              refine ev_ok i9 rfl ?_
              show mj_Ev _ _ _ _ _ _ _ [mv_i (M.1 18 (M.1 12 1 - 1).toNatClampNeg), _] _ _ _
              rw [j9]
              refine ev_if rfl (fun h84 => ?_) (fun h84 => ?_)
              · exfalso
                first
                  | grind [pd_no0]
                  | (have z8 : ¬ 0 < aq_n M := by
                      intro z
                      exact absurd h68 (by rw [hn]; exact nI_nle z (by omega))
                     grind [pd_no0])
              · exact tail _ rfl
          · exact tail _ rfl
        · exact tail _ rfl
      · exact tail _ rfl
  · exact tail _ rfl
theorem pm_newAct_y {k p o g n w : Int32} (hn : M.1 12 1 = nI (aq_n M)) (hl : aq_n M = 24) (h : on_ok M k p o g n w) : mj_C0 X (d + 1) mt_M_newAct [mv_p 12, mv_i k, mv_i p, mv_i o, mv_i g, mv_i n, mv_i w] M (mv_R 0 (mj_st M 12 0 2)) := by
  unfold on_ok at h
  have tail : ∀ (st : List mj_V), st = [] → mj_Ev mj_S0 X mj_P (d + 1) mt_M_newAct 91 (fun j => [mv_p 12, mv_i k, mv_i p, mv_i o, mv_i g, mv_i n, mv_i w][j]?) st M 0 (mv_R 0 (mj_st M 12 0 2)) := by
    intro st hst
    subst hst
    iterate 8 refine ev_go rfl ?_
    refine ev_if rfl (fun h110 => ?_) (fun h110 => ?_)
    · iterate 7 refine ev_go rfl ?_
      refine ev_end rfl ?_
      rfl
    · exact absurd (by rw [hn, hl]; rfl) h110
  iterate 3 refine ev_go rfl ?_
  refine ev_callr rfl rfl rfl pm_not ?_
  refine ev_if rfl (fun h7 => ?_) (fun h7 => ?_)
  · iterate 2 refine ev_go rfl ?_
    refine ev_if rfl (fun h12 => ?_) (fun h12 => ?_)
    · iterate 3 refine ev_go rfl ?_
      refine ev_callr rfl rfl rfl pm_not ?_
      refine ev_if rfl (fun h22 => ?_) (fun h22 => ?_)
      · iterate 2 refine ev_go rfl ?_
        refine ev_if rfl (fun h27 => ?_) (fun h27 => ?_)
        · exfalso
          grind [pd_no0]
        · iterate 3 refine ev_go rfl ?_
          refine ev_callr rfl rfl rfl pm_not ?_
          refine ev_if rfl (fun h37 => ?_) (fun h37 => ?_)
          · iterate 3 refine ev_go rfl ?_
            refine ev_callr rfl rfl rfl pm_not ?_
            refine ev_if rfl (fun h49 => ?_) (fun h49 => ?_)
            · iterate 3 refine ev_go rfl ?_
              refine ev_callr rfl rfl rfl pm_not ?_
              refine ev_if rfl (fun h61 => ?_) (fun h61 => ?_)
              · iterate 2 refine ev_go rfl ?_
                refine ev_if rfl (fun h68 => ?_) (fun h68 => ?_)
                · exact tail _ rfl
                · have z9 : 0 < aq_n M := by
                    rcases Nat.eq_zero_or_pos (aq_n M) with z | z
                    · exact absurd (by rw [hn, z]; decide) h68
                    · exact z
                  have e9 : M.1 12 1 - 1 = nI (aq_n M - 1) := by
                    rw [hn, show aq_n M = (aq_n M - 1) + 1 by omega, nI_pred]
                    rfl
                  have i9 : mj_in (M.1 12 1 - 1) 24 := by rw [e9]; exact nI_in (by omega) (by decide)
                  have j9 : (M.1 12 1 - 1).toNatClampNeg = aq_n M - 1 := by rw [e9]; exact nI_clamp (by omega)
                  iterate 7 refine ev_go rfl ?_
                  refine ev_ok i9 rfl ?_
                  show mj_Ev _ _ _ _ _ _ _ [mv_i (M.1 18 (M.1 12 1 - 1).toNatClampNeg), _] _ _ _
                  rw [j9]
                  refine ev_if rfl (fun h84 => ?_) (fun h84 => ?_)
                  · exact tail _ rfl
                  · exfalso
                    grind [pd_no0]
              · exfalso
                grind [pd_no0]
            · exfalso
              grind [pd_no0]
          · exfalso
            grind [pd_no0]
      · exfalso
        grind [pd_no0]
    · iterate 3 refine ev_go rfl ?_
      refine ev_callr rfl rfl rfl pm_not ?_
      refine ev_if rfl (fun h37 => ?_) (fun h37 => ?_)
      · iterate 3 refine ev_go rfl ?_
        refine ev_callr rfl rfl rfl pm_not ?_
        refine ev_if rfl (fun h49 => ?_) (fun h49 => ?_)
        · iterate 3 refine ev_go rfl ?_
          refine ev_callr rfl rfl rfl pm_not ?_
          refine ev_if rfl (fun h61 => ?_) (fun h61 => ?_)
          · iterate 2 refine ev_go rfl ?_
            refine ev_if rfl (fun h68 => ?_) (fun h68 => ?_)
            · exact tail _ rfl
            · have z9 : 0 < aq_n M := by
                rcases Nat.eq_zero_or_pos (aq_n M) with z | z
                · exact absurd (by rw [hn, z]; decide) h68
                · exact z
              have e9 : M.1 12 1 - 1 = nI (aq_n M - 1) := by
                rw [hn, show aq_n M = (aq_n M - 1) + 1 by omega, nI_pred]
                rfl
              have i9 : mj_in (M.1 12 1 - 1) 24 := by rw [e9]; exact nI_in (by omega) (by decide)
              have j9 : (M.1 12 1 - 1).toNatClampNeg = aq_n M - 1 := by rw [e9]; exact nI_clamp (by omega)
              iterate 7 refine ev_go rfl ?_
              refine ev_ok i9 rfl ?_
              show mj_Ev _ _ _ _ _ _ _ [mv_i (M.1 18 (M.1 12 1 - 1).toNatClampNeg), _] _ _ _
              rw [j9]
              refine ev_if rfl (fun h84 => ?_) (fun h84 => ?_)
              · exact tail _ rfl
              · exfalso
                grind [pd_no0]
          · exfalso
            grind [pd_no0]
        · exfalso
          grind [pd_no0]
      · exfalso
        grind [pd_no0]
  · exfalso
    grind [pd_no0]
theorem pm_newAct {k p o g n w : Int32} (hn : M.1 12 1 = nI (aq_n M)) (hl : aq_n M < 24) (h : on_ok M k p o g n w) : mj_C0 X (d + 1) mt_M_newAct [mv_p 12, mv_i k, mv_i p, mv_i o, mv_i g, mv_i n, mv_i w] M (mv_R (nI (aq_n M)) (on_st (mj_st M 12 0 0) k p o g n w)) := by
  unfold on_ok at h
  have i1 : mj_in (M.1 12 1) 24 := by rw [hn]; exact nI_in (by omega) (by decide)
  have tail : ∀ (st : List mj_V), st = [] → mj_Ev mj_S0 X mj_P (d + 1) mt_M_newAct 91 (fun j => [mv_p 12, mv_i k, mv_i p, mv_i o, mv_i g, mv_i n, mv_i w][j]?) st M 0 (mv_R (nI (aq_n M)) (on_st (mj_st M 12 0 0) k p o g n w)) := by
    intro st hst
    subst hst
    iterate 8 refine ev_go rfl ?_
    refine ev_if rfl (fun h110 => ?_) (fun h110 => ?_)
    · exact absurd (hn.symm.trans h110) (by rw [show (24 : Int32) = nI 24 from rfl, nI_eq (by omega) (by decide)]; omega)
    · iterate 10 refine ev_go rfl ?_
      refine ev_ok i1 rfl ?_
      iterate 5 refine ev_go rfl ?_
      refine ev_ok i1 rfl ?_
      iterate 5 refine ev_go rfl ?_
      refine ev_ok i1 rfl ?_
      iterate 5 refine ev_go rfl ?_
      refine ev_ok i1 rfl ?_
      iterate 5 refine ev_go rfl ?_
      refine ev_ok i1 rfl ?_
      iterate 5 refine ev_go rfl ?_
      refine ev_ok i1 rfl ?_
      iterate 10 refine ev_go rfl ?_
      refine ev_end rfl ?_
      show some (mv_R (M.1 12 1 + 1 - 1) (mj_st (mj_st (mj_st (mj_st (mj_st (mj_st (mj_st (mj_st M 12 0 0) 13 (aq_n M) k) 14 (aq_n M) p) 15 (aq_n M) o) 16 (aq_n M) g) 17 (aq_n M) n) 18 (aq_n M) w) 12 1 (M.1 12 1 + 1))) = _
      unfold on_st
      rw [aq_n0, hn, nI_1, nI_pred]
  iterate 3 refine ev_go rfl ?_
  refine ev_callr rfl rfl rfl pm_not ?_
  refine ev_if rfl (fun h7 => ?_) (fun h7 => ?_)
  · iterate 2 refine ev_go rfl ?_
    refine ev_if rfl (fun h12 => ?_) (fun h12 => ?_)
    · iterate 3 refine ev_go rfl ?_
      refine ev_callr rfl rfl rfl pm_not ?_
      refine ev_if rfl (fun h22 => ?_) (fun h22 => ?_)
      · iterate 2 refine ev_go rfl ?_
        refine ev_if rfl (fun h27 => ?_) (fun h27 => ?_)
        · exfalso
          grind [pd_no0]
        · iterate 3 refine ev_go rfl ?_
          refine ev_callr rfl rfl rfl pm_not ?_
          refine ev_if rfl (fun h37 => ?_) (fun h37 => ?_)
          · iterate 3 refine ev_go rfl ?_
            refine ev_callr rfl rfl rfl pm_not ?_
            refine ev_if rfl (fun h49 => ?_) (fun h49 => ?_)
            · iterate 3 refine ev_go rfl ?_
              refine ev_callr rfl rfl rfl pm_not ?_
              refine ev_if rfl (fun h61 => ?_) (fun h61 => ?_)
              · iterate 2 refine ev_go rfl ?_
                refine ev_if rfl (fun h68 => ?_) (fun h68 => ?_)
                · exact tail _ rfl
                · have z9 : 0 < aq_n M := by
                    rcases Nat.eq_zero_or_pos (aq_n M) with z | z
                    · exact absurd (by rw [hn, z]; decide) h68
                    · exact z
                  have e9 : M.1 12 1 - 1 = nI (aq_n M - 1) := by
                    rw [hn, show aq_n M = (aq_n M - 1) + 1 by omega, nI_pred]
                    rfl
                  have i9 : mj_in (M.1 12 1 - 1) 24 := by rw [e9]; exact nI_in (by omega) (by decide)
                  have j9 : (M.1 12 1 - 1).toNatClampNeg = aq_n M - 1 := by rw [e9]; exact nI_clamp (by omega)
                  iterate 7 refine ev_go rfl ?_
                  refine ev_ok i9 rfl ?_
                  show mj_Ev _ _ _ _ _ _ _ [mv_i (M.1 18 (M.1 12 1 - 1).toNatClampNeg), _] _ _ _
                  rw [j9]
                  refine ev_if rfl (fun h84 => ?_) (fun h84 => ?_)
                  · exact tail _ rfl
                  · exfalso
                    grind [pd_no0]
              · exfalso
                grind [pd_no0]
            · exfalso
              grind [pd_no0]
          · exfalso
            grind [pd_no0]
      · exfalso
        grind [pd_no0]
    · iterate 3 refine ev_go rfl ?_
      refine ev_callr rfl rfl rfl pm_not ?_
      refine ev_if rfl (fun h37 => ?_) (fun h37 => ?_)
      · iterate 3 refine ev_go rfl ?_
        refine ev_callr rfl rfl rfl pm_not ?_
        refine ev_if rfl (fun h49 => ?_) (fun h49 => ?_)
        · iterate 3 refine ev_go rfl ?_
          refine ev_callr rfl rfl rfl pm_not ?_
          refine ev_if rfl (fun h61 => ?_) (fun h61 => ?_)
          · iterate 2 refine ev_go rfl ?_
            refine ev_if rfl (fun h68 => ?_) (fun h68 => ?_)
            · exact tail _ rfl
            · have z9 : 0 < aq_n M := by
                rcases Nat.eq_zero_or_pos (aq_n M) with z | z
                · exact absurd (by rw [hn, z]; decide) h68
                · exact z
              have e9 : M.1 12 1 - 1 = nI (aq_n M - 1) := by
                rw [hn, show aq_n M = (aq_n M - 1) + 1 by omega, nI_pred]
                rfl
              have i9 : mj_in (M.1 12 1 - 1) 24 := by rw [e9]; exact nI_in (by omega) (by decide)
              have j9 : (M.1 12 1 - 1).toNatClampNeg = aq_n M - 1 := by rw [e9]; exact nI_clamp (by omega)
              iterate 7 refine ev_go rfl ?_
              refine ev_ok i9 rfl ?_
              show mj_Ev _ _ _ _ _ _ _ [mv_i (M.1 18 (M.1 12 1 - 1).toNatClampNeg), _] _ _ _
              rw [j9]
              refine ev_if rfl (fun h84 => ?_) (fun h84 => ?_)
              · exact tail _ rfl
              · exfalso
                grind [pd_no0]
          · exfalso
            grind [pd_no0]
        · exfalso
          grind [pd_no0]
      · exfalso
        grind [pd_no0]
  · exfalso
    grind [pd_no0]
end
