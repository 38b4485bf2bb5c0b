/-! the class's own calls: back, share, told, of, count; the law's wrappers -/
section
variable {X : Nat × (Nat → Int32)} {d : Nat} {M A : mj_M}
theorem px_back {a : Int32} (hv : vs_A A) (h : a < 0 ∨ ¬ a < nI (aq_n A)) : ex_ X (d + 4) mt_E_back [mv_p 0, mv_i a] A 2 := by
  intro M hM
  have e := rc_n hv hM
  have hl := hv.1.2
  iterate 4 refine ev_go rfl ?_
  rw [e]
  exact ev_callx rfl rfl rfl (pe_needThere_x (by omega) h) rfl
theorem pz_back {a : Nat} (hv : vs_A A) (ha : a < aq_n A) (h' : A.1 19 a = 0) : ex_ X (d + 4) mt_E_back [mv_p 0, mv_i (nI a)] A 3 := by
  intro M hM
  have e := rc_n hv hM
  have hl := hv.1.2
  have h1 : mj_in (nI a) 24 := nI_in (by omega) (by decide)
  have h2 : (nI a).toNatClampNeg = a := nI_clamp (by omega)
  have a24 : a < 24 := by omega
  have e6 : M.1 (pr_ a) 6 = A.1 19 a := hM.1.1 a (by omega) 6 (by decide)
  iterate 4 refine ev_go rfl ?_
  rw [e]
  refine ev_callv rfl rfl rfl (pe_needThere ha (by omega)) ?_
  iterate 4 refine ev_go rfl ?_
  refine ev_ok h1 rfl ?_
  rw [h2]
  refine ev_go rfl ?_
  refine ev_ok ⟨a24, by decide⟩ rfl ?_
  simp only [tn_6]
  rw [e6]
  refine ev_if rfl (fun h23 => ?_) (fun h23 => ?_)
  · refine ev_end rfl ?_
    rfl
  · exact absurd h' h23
theorem py_back {a : Nat} (hv : vs_A A) (ha : a < aq_n A) (h' : ¬ A.1 19 a = 0) : ey_ X (d + 4) mt_E_back [mv_p 0, mv_i (nI a)] A (aq_nd (mj_st A 19 a 0) (aq_E (mj_st A 19 a 0))) (mj_st A 19 a 0) := by
  intro M hM
  have e := rc_n hv hM
  have hl := hv.1.2
  have h1 : mj_in (nI a) 24 := nI_in (by omega) (by decide)
  have h2 : (nI a).toNatClampNeg = a := nI_clamp (by omega)
  have a24 : a < 24 := by omega
  have e6 : M.1 (pr_ a) 6 = A.1 19 a := hM.1.1 a (by omega) 6 (by decide)
  have hp : ∀ a, pr_ a = 30 + a := pr_e
  have rw1 := hv.2.1 a ha
  obtain ⟨u1, u2⟩ := rc_tu (v := 0) ha hl rw1 hM.1 hM.2.1 hv.2.2.2.2.2.1 (Or.inl rfl) (hv.2.2.1 a)
  have rcN : rc_ (mj_st A 19 a 0) (pm_tu M a 0) := ⟨u1, u2, (hM.2.2.1.A (fun q j hq => pm_st1 (by omega))).M (fun q j hq => fu_tu _ _ _ (by rw [hp]; omega)), by rw [fu_tu _ _ _ (by rw [hp]; omega), pm_st1 (by omega)]; exact hM.2.2.2⟩
  refine ⟨pm_tu M a 0, ?_, rcN, fc_tu _ _ _⟩
  iterate 4 refine ev_go rfl ?_
  rw [e]
  refine ev_callv rfl rfl rfl (pe_needThere ha (by omega)) ?_
  iterate 4 refine ev_go rfl ?_
  refine ev_ok h1 rfl ?_
  rw [h2]
  refine ev_go rfl ?_
  refine ev_ok ⟨a24, by decide⟩ rfl ?_
  simp only [tn_6]
  rw [e6]
  refine ev_if rfl (fun h23 => ?_) (fun h23 => ?_)
  · exact absurd h23 h'
  · iterate 4 refine ev_go rfl ?_
    refine ev_callv rfl rfl rfl (pl_turn a24 (hM.1.pv a24 rw1).1) ?_
    iterate 3 refine ev_go rfl ?_
    refine ev_end rfl ?_
    show some (mv_R ((pm_tu M a 0).1 1 4) _) = some (mv_R _ _)
    rw [rcN.2.1.2]
theorem px_share {p q : Int32} (h : ¬ (0 ≤ p ∧ p ≤ 1000000 ∧ 0 ≤ q)) : ex_ X (d + 4) mt_E_share [mv_p 0, mv_i p, mv_i q] A 0 := by
  intro M hM
  iterate 3 refine ev_go rfl ?_
  refine ev_callr rfl rfl rfl pe_isWithin ?_
  refine ev_if rfl (fun h7 => ?_) (fun h7 => ?_)
  · refine ev_go rfl ?_
    exact ev_callx rfl rfl rfl (pe_need_x rfl) rfl
  · refine ev_go rfl ?_
    refine ev_if rfl (fun h11 => ?_) (fun h11 => ?_)
    · refine ev_go rfl ?_
      exact ev_callx rfl rfl rfl (pe_need_x rfl) rfl
    · exfalso
      grind [pd_wi1]
theorem pz_share {p q : Int32} (h : 0 ≤ p ∧ p ≤ 1000000 ∧ 0 ≤ q) (h' : q = 0) : ex_ X (d + 4) mt_E_share [mv_p 0, mv_i p, mv_i q] A 4 := by
  intro M hM
  iterate 3 refine ev_go rfl ?_
  refine ev_callr rfl rfl rfl pe_isWithin ?_
  refine ev_if rfl (fun h7 => ?_) (fun h7 => ?_)
  · exfalso
    grind [pd_wi1]
  · refine ev_go rfl ?_
    refine ev_if rfl (fun h11 => ?_) (fun h11 => ?_)
    · exfalso
      grind [pd_wi1]
    · iterate 2 refine ev_go rfl ?_
      refine ev_callv rfl rfl rfl (pe_need (by decide)) ?_
      refine ev_go rfl ?_
      refine ev_if rfl (fun h23 => ?_) (fun h23 => ?_)
      · refine ev_end rfl ?_
        rfl
      · exact absurd h' h23
theorem py_share {p q : Int32} (h : 0 ≤ p ∧ p ≤ 1000000 ∧ 0 ≤ q) (h' : ¬ q = 0) : ey_ X (d + 4) mt_E_share [mv_p 0, mv_i p, mv_i q] A (100 * p / q) A := by
  intro M hM
  refine ⟨M, ?_, hM, fc_.refl M⟩
  iterate 3 refine ev_go rfl ?_
  refine ev_callr rfl rfl rfl pe_isWithin ?_
  refine ev_if rfl (fun h7 => ?_) (fun h7 => ?_)
  · exfalso
    grind [pd_wi1]
  · refine ev_go rfl ?_
    refine ev_if rfl (fun h11 => ?_) (fun h11 => ?_)
    · exfalso
      grind [pd_wi1]
    · iterate 2 refine ev_go rfl ?_
      refine ev_callv rfl rfl rfl (pe_need (by decide)) ?_
      refine ev_go rfl ?_
      refine ev_if rfl (fun h23 => ?_) (fun h23 => ?_)
      · exact absurd h23 h'
      · iterate 4 refine ev_go rfl ?_
        refine ev_ok h' rfl ?_
        refine ev_end rfl ?_
        show some (mv_R (p * 100 / q) M) = _
        rw [Int32.mul_comm]
theorem px_told {a w : Int32} (hv : vs_A A) (h : a < 0 ∨ ¬ a < nI (aq_n A)) : ex_ X (d + 4) mt_E_told [mv_p 0, mv_i a, mv_i w] A 2 := by
  intro M hM
  have e := rc_n hv hM
  have hl := hv.1.2
  iterate 4 refine ev_go rfl ?_
  rw [e]
  exact ev_callx rfl rfl rfl (pe_needThere_x (by omega) h) rfl
theorem pz_told {a : Nat} {w : Int32} (hv : vs_A A) (ha : a < aq_n A) (h' : ¬ (0 ≤ w ∧ w ≤ 8)) : ex_ X (d + 4) mt_E_told [mv_p 0, mv_i (nI a), mv_i w] A 0 := by
  intro M hM
  have e := rc_n hv hM
  have hl := hv.1.2
  iterate 4 refine ev_go rfl ?_
  rw [e]
  refine ev_callv rfl rfl rfl (pe_needThere ha (by omega)) ?_
  iterate 3 refine ev_go rfl ?_
  refine ev_callr rfl rfl rfl pe_isWithin ?_
  exact ev_callx rfl rfl rfl (pe_need_x (pd_wi1.2 h')) rfl
theorem py_told {a w : Nat} (hv : vs_A A) (ha : a < aq_n A) (hw : w ≤ 8) : ey_ X (d + 4) mt_E_told [mv_p 0, mv_i (nI a), mv_i (nI w)] A (aq_to A a w) A := by
  intro M hM
  have e := rc_n hv hM
  have hl := hv.1.2
  have h1 : mj_in (nI a) 24 := nI_in (by omega) (by decide)
  have h2 : (nI a).toNatClampNeg = a := nI_clamp (by omega)
  have a24 : a < 24 := by omega
  have e6 : M.1 (pr_ a) 6 = A.1 19 a := hM.1.1 a (by omega) 6 (by decide)
  have h' : 0 ≤ nI w ∧ nI w ≤ 8 := ⟨nI_pos' (by omega), nI_le (b := 8) hw (by decide)⟩
  refine ⟨M, ?_, hM, fc_.refl M⟩
  iterate 4 refine ev_go rfl ?_
  rw [e]
  refine ev_callv rfl rfl rfl (pe_needThere ha (by omega)) ?_
  iterate 3 refine ev_go rfl ?_
  refine ev_callr rfl rfl rfl pe_isWithin ?_
  refine ev_callv rfl rfl rfl (pe_need (by rw [pd_wi1]; exact fun q => q h')) ?_
  iterate 2 refine ev_go rfl ?_
  refine ev_if rfl (fun h24 => ?_) (fun h24 => ?_)
  · have w8 : w = 8 := (nI_eq (b := 8) (by omega) (by decide)).1 h24
    iterate 3 refine ev_go rfl ?_
    refine ev_callr rfl rfl rfl (pl_isCandidate a24 (hv.2.1 a ha) hM.1 hv.2.2.2.2.2.1) ?_
    refine ev_if rfl (fun h35 => ?_) (fun h35 => ?_)
    · refine ev_go rfl ?_
      refine ev_end rfl ?_
      show some _ = some (mv_R _ M)
      rw [show aq_to A a w = aq_ca A a from if_pos w8]
      rcases aq_ca01 A a with q | q
      · first
          | exact absurd q h35
          | rw [q]
      · first
          | exact absurd (q.symm.trans h35) (by decide)
          | rw [q]
    · iterate 2 refine ev_go rfl ?_
      refine ev_end rfl ?_
      show some _ = some (mv_R _ M)
      rw [show aq_to A a w = aq_ca A a from if_pos w8]
      rcases aq_ca01 A a with q | q
      · first
          | exact absurd q h35
          | rw [q]
      · first
          | exact absurd (q.symm.trans h35) (by decide)
          | rw [q]
  · have w8 : w ≠ 8 := fun q => h24 (by rw [q]; rfl)
    have k8 : w < 8 := by omega
    iterate 4 refine ev_go rfl ?_
    refine ev_ok h1 rfl ?_
    rw [h2]
    refine ev_go rfl ?_
    refine ev_ok ⟨a24, nI_in k8 (by decide)⟩ rfl ?_
    rw [nI_clamp (by omega), hM.1.1 a a24 w k8]
    refine ev_end rfl ?_
    show some (mv_R (A.1 (13 + w) a) M) = some (mv_R _ M)
    unfold aq_to
    rw [if_neg w8]
    by_cases w7 : w = 7
    · rw [if_pos w7, w7]
      show some (mv_R (A.1 20 a) M) = _
      rcases hv.2.2.2.1 a with q | q
      · rw [if_pos q, q]
      · rw [if_neg (by rw [q]; decide), q]
    · rw [if_neg w7]
theorem px_of {p g i : Int32} (h : ¬ (0 ≤ p ∧ p ≤ 9 ∧ 0 ≤ g ∧ g ≤ 5 ∧ 0 ≤ i)) : ex_ X (d + 4) mt_E_of [mv_p 0, mv_i p, mv_i g, mv_i i] A 0 := by
  intro M hM
  by_cases h1 : 0 ≤ p ∧ p ≤ 9 ∧ 0 ≤ g ∧ g ≤ 5
  · have h2 : ¬ 0 ≤ i := by grind
    iterate 2 refine ev_go rfl ?_
    refine ev_callv rfl rfl rfl (pe_needCell h1) ?_
    refine ev_go rfl ?_
    refine ev_if rfl (fun h6 => ?_) (fun h6 => ?_)
    · refine ev_go rfl ?_
      exact ev_callx rfl rfl rfl (pe_need_x rfl) rfl
    · exfalso
      grind
  · iterate 2 refine ev_go rfl ?_
    exact ev_callx rfl rfl rfl (pe_needCell_x h1) rfl
theorem py_of {p g i : Int32} (hv : vs_A A) (h : 0 ≤ p ∧ p ≤ 9 ∧ 0 ≤ g ∧ g ≤ 5 ∧ 0 ≤ i) : ey_ X (d + 4) mt_E_of [mv_p 0, mv_i p, mv_i g, mv_i i] A (aq_fo (fun a => aq_ad A a (6 * p + g)) i (aq_n A) 0 0) A := by
  intro M hM
  refine ⟨M, ?_, hM, fc_.refl M⟩
  iterate 2 refine ev_go rfl ?_
  refine ev_callv rfl rfl rfl (pe_needCell (by grind)) ?_
  refine ev_go rfl ?_
  refine ev_if rfl (fun h6 => ?_) (fun h6 => ?_)
  · exfalso
    grind
  · iterate 2 refine ev_go rfl ?_
    refine ev_callv rfl rfl rfl (pe_need (by decide)) ?_
    iterate 4 refine ev_go rfl ?_
    refine ev_callr rfl rfl rfl pe_cellOf ?_
    rw [Int32.mul_comm]
    refine ev_go rfl ?_
    refine ev_callr rfl rfl rfl (pl_actAt hv hM.1) ?_
    refine ev_end rfl ?_
    rfl
theorem py_count {w : Int32} (hv : vs_A A) : ey_ X (d + 4) mt_E_count [mv_p 0, mv_i w] A (aq_cn A w) A := by
  intro M hM
  refine ⟨M, ?_, hM, fc_.refl M⟩
  refine ev_go rfl ?_
  by_cases g0 : 0 ≤ w ∧ w ≤ 7
  · obtain ⟨j9, g1, g2⟩ := nI_of2 (n := 7) rfl (by grind) g0.2
    have g3 : j9 = 0 ∨ j9 = 1 ∨ j9 = 2 ∨ j9 = 3 ∨ j9 = 4 ∨ j9 = 5 ∨ j9 = 6 ∨ j9 = 7 := by omega
    rcases g3 with g3 | g3 | g3 | g3 | g3 | g3 | g3 | g3 <;> subst g3 <;> subst g2
    · refine ev_go rfl ?_
      iterate 3 refine ev_go rfl ?_
      refine ev_end rfl ?_
      show some (mv_R (M.1 1 3) M) = some (mv_R _ M)
      rw [hM.1.2.2.1]
      rfl
    · refine ev_go rfl ?_
      iterate 3 refine ev_go rfl ?_
      refine ev_end rfl ?_
      show some (mv_R (M.1 1 4) M) = some (mv_R _ M)
      rw [hM.2.1.2]
      rfl
    · refine ev_go rfl ?_
      iterate 2 refine ev_go rfl ?_
      refine ev_callr rfl rfl rfl (pl_pieces hM.1 hM.2.1 hv.2.2.2.2.2.1) ?_
      refine ev_end rfl ?_
      rfl
    · refine ev_go rfl ?_
      iterate 2 refine ev_go rfl ?_
      refine ev_callr rfl rfl rfl (pl_candidates hv hM.1) ?_
      refine ev_end rfl ?_
      rfl
    · refine ev_go rfl ?_
      iterate 4 refine ev_go rfl ?_
      refine ev_callr rfl rfl rfl (pl_actsWith (w := 6) hv hM.1 (by decide)) ?_
      refine ev_end rfl ?_
      rfl
    · refine ev_go rfl ?_
      iterate 4 refine ev_go rfl ?_
      refine ev_callr rfl rfl rfl (pl_actsWith (w := 6) hv hM.1 (by decide)) ?_
      refine ev_end rfl ?_
      rfl
    · refine ev_go rfl ?_
      iterate 2 refine ev_go rfl ?_
      refine ev_callr rfl rfl rfl (pl_countedCells hM.1 hv.2.2.2.2.2.1) ?_
      refine ev_end rfl ?_
      rfl
    · refine ev_go rfl ?_
      iterate 3 refine ev_go rfl ?_
      refine ev_end rfl ?_
      show some (mv_R (M.1 2 11) M) = some (mv_R _ M)
      rw [hM.2.2.1.2.2.1]
      rfl
  · have g4 : w.toInt < 0 ∨ 7 < w.toInt := by
      have g5 : w < 0 ∨ 7 < w := by grind
      rcases g5 with g5 | g5
      · exact Or.inl (Int32.lt_iff_toInt_lt.mp g5)
      · exact Or.inr (Int32.lt_iff_toInt_lt.mp g5)
    refine ev_pos g4 rfl ?_
    refine ev_go rfl ?_
    refine ev_end rfl ?_
    show some (mv_R (-1) M) = some (mv_R (aq_cn A w) M)
    unfold aq_cn
    rw [if_neg (by grind), if_neg (by grind), if_neg (by grind), if_neg (by grind), if_neg (by grind), if_neg (by grind), if_neg (by grind), if_neg (by grind)]
/-- the law's wrapper, called in state A, tells c (and leaves v), and comes to A' -/
def cs_ (X : Nat × (Nat → Int32)) (d : Nat) (T : mj_T) (as : List mj_V) (A : mj_M) (c v : Int32) (A' : mj_M) : Prop := ∀ M, rc_ A M → ∃ M' k, mj_C0 X d T as M (.inr (some (.inl c)), M', k) ∧ k ≤ 1 ∧ rc_ A' M' ∧ fc_ M M' ∧ (c = 0 → M'.2 = v.toInt64)
theorem pw_put {p0 p1 p2 p3 : Int32} {v : Int32} {A' : mj_M} (h : ey_ X d mt_E_put [mv_p 0, mv_i p0, mv_i p1, mv_i p2, mv_i p3] A v A') : cs_ X (d + 1) mt_W_put [mv_p 0, mv_i p0, mv_i p1, mv_i p2, mv_i p3, mv_p 28] A 0 v A' := by
  intro M hM
  obtain ⟨M', e1, e2, e3⟩ := h M hM
  refine ⟨(M'.1, v.toInt64), 0, ?_, by decide, e2, e3, fun _ => rfl⟩
  iterate 7 refine ev_go rfl ?_
  refine ev_callr rfl rfl rfl e1 ?_
  iterate 4 refine ev_go rfl ?_
  refine ev_end rfl ?_
  rfl
theorem pw_put_1 {p0 p1 p2 p3 : Int32} (h : ex_ X d mt_E_put [mv_p 0, mv_i p0, mv_i p1, mv_i p2, mv_i p3] A 0) : cs_ X (d + 1) mt_W_put [mv_p 0, mv_i p0, mv_i p1, mv_i p2, mv_i p3, mv_p 28] A 1 0 A := by
  intro M hM
  refine ⟨M, 1, ?_, by decide, hM, fc_.refl M, fun q => absurd q (by decide)⟩
  iterate 7 refine ev_go rfl ?_
  refine ev_callh rfl rfl rfl (h M hM) rfl ?_
  refine ev_go rfl ?_
  refine ev_end rfl ?_
  rfl
theorem pw_put_2 {p0 p1 p2 p3 : Int32} (h : ex_ X d mt_E_put [mv_p 0, mv_i p0, mv_i p1, mv_i p2, mv_i p3] A 1) : cs_ X (d + 1) mt_W_put [mv_p 0, mv_i p0, mv_i p1, mv_i p2, mv_i p3, mv_p 28] A 2 0 A := by
  intro M hM
  refine ⟨M, 1, ?_, by decide, hM, fc_.refl M, fun q => absurd q (by decide)⟩
  iterate 7 refine ev_go rfl ?_
  refine ev_callh rfl rfl rfl (h M hM) rfl ?_
  refine ev_go rfl ?_
  refine ev_end rfl ?_
  rfl
theorem pw_take {p0 p1 p2 p3 : Int32} {v : Int32} {A' : mj_M} (h : ey_ X d mt_E_take [mv_p 0, mv_i p0, mv_i p1, mv_i p2, mv_i p3] A v A') : cs_ X (d + 1) mt_W_take [mv_p 0, mv_i p0, mv_i p1, mv_i p2, mv_i p3, mv_p 28] A 0 v A' := by
  intro M hM
  obtain ⟨M', e1, e2, e3⟩ := h M hM
  refine ⟨(M'.1, v.toInt64), 0, ?_, by decide, e2, e3, fun _ => rfl⟩
  iterate 7 refine ev_go rfl ?_
  refine ev_callr rfl rfl rfl e1 ?_
  iterate 4 refine ev_go rfl ?_
  refine ev_end rfl ?_
  rfl
theorem pw_take_1 {p0 p1 p2 p3 : Int32} (h : ex_ X d mt_E_take [mv_p 0, mv_i p0, mv_i p1, mv_i p2, mv_i p3] A 0) : cs_ X (d + 1) mt_W_take [mv_p 0, mv_i p0, mv_i p1, mv_i p2, mv_i p3, mv_p 28] A 1 0 A := by
  intro M hM
  refine ⟨M, 1, ?_, by decide, hM, fc_.refl M, fun q => absurd q (by decide)⟩
  iterate 7 refine ev_go rfl ?_
  refine ev_callh rfl rfl rfl (h M hM) rfl ?_
  refine ev_go rfl ?_
  refine ev_end rfl ?_
  rfl
theorem pw_take_2 {p0 p1 p2 p3 : Int32} (h : ex_ X d mt_E_take [mv_p 0, mv_i p0, mv_i p1, mv_i p2, mv_i p3] A 1) : cs_ X (d + 1) mt_W_take [mv_p 0, mv_i p0, mv_i p1, mv_i p2, mv_i p3, mv_p 28] A 2 0 A := by
  intro M hM
  refine ⟨M, 1, ?_, by decide, hM, fc_.refl M, fun q => absurd q (by decide)⟩
  iterate 7 refine ev_go rfl ?_
  refine ev_callh rfl rfl rfl (h M hM) rfl ?_
  refine ev_go rfl ?_
  refine ev_end rfl ?_
  rfl
theorem pw_move {p0 p1 p2 p3 p4 : Int32} {v : Int32} {A' : mj_M} (h : ey_ X d mt_E_move [mv_p 0, mv_i p0, mv_i p1, mv_i p2, mv_i p3, mv_i p4] A v A') : cs_ X (d + 1) mt_W_move [mv_p 0, mv_i p0, mv_i p1, mv_i p2, mv_i p3, mv_i p4, mv_p 28] A 0 v A' := by
  intro M hM
  obtain ⟨M', e1, e2, e3⟩ := h M hM
  refine ⟨(M'.1, v.toInt64), 0, ?_, by decide, e2, e3, fun _ => rfl⟩
  iterate 8 refine ev_go rfl ?_
  refine ev_callr rfl rfl rfl e1 ?_
  iterate 4 refine ev_go rfl ?_
  refine ev_end rfl ?_
  rfl
theorem pw_move_1 {p0 p1 p2 p3 p4 : Int32} (h : ex_ X d mt_E_move [mv_p 0, mv_i p0, mv_i p1, mv_i p2, mv_i p3, mv_i p4] A 0) : cs_ X (d + 1) mt_W_move [mv_p 0, mv_i p0, mv_i p1, mv_i p2, mv_i p3, mv_i p4, mv_p 28] A 1 0 A := by
  intro M hM
  refine ⟨M, 1, ?_, by decide, hM, fc_.refl M, fun q => absurd q (by decide)⟩
  iterate 8 refine ev_go rfl ?_
  refine ev_callh rfl rfl rfl (h M hM) rfl ?_
  refine ev_go rfl ?_
  refine ev_end rfl ?_
  rfl
theorem pw_move_2 {p0 p1 p2 p3 p4 : Int32} (h : ex_ X d mt_E_move [mv_p 0, mv_i p0, mv_i p1, mv_i p2, mv_i p3, mv_i p4] A 1) : cs_ X (d + 1) mt_W_move [mv_p 0, mv_i p0, mv_i p1, mv_i p2, mv_i p3, mv_i p4, mv_p 28] A 2 0 A := by
  intro M hM
  refine ⟨M, 1, ?_, by decide, hM, fc_.refl M, fun q => absurd q (by decide)⟩
  iterate 8 refine ev_go rfl ?_
  refine ev_callh rfl rfl rfl (h M hM) rfl ?_
  refine ev_go rfl ?_
  refine ev_end rfl ?_
  rfl
theorem pw_closed {p0 p1 : Int32} {v : Int32} {A' : mj_M} (h : ey_ X d mt_E_closed [mv_p 0, mv_i p0, mv_i p1] A v A') : cs_ X (d + 1) mt_W_closed [mv_p 0, mv_i p0, mv_i p1, mv_p 28] A 0 v A' := by
  intro M hM
  obtain ⟨M', e1, e2, e3⟩ := h M hM
  refine ⟨(M'.1, v.toInt64), 0, ?_, by decide, e2, e3, fun _ => rfl⟩
  iterate 5 refine ev_go rfl ?_
  refine ev_callr rfl rfl rfl e1 ?_
  iterate 4 refine ev_go rfl ?_
  refine ev_end rfl ?_
  rfl
theorem pw_closed_1 {p0 p1 : Int32} (h : ex_ X d mt_E_closed [mv_p 0, mv_i p0, mv_i p1] A 2) : cs_ X (d + 1) mt_W_closed [mv_p 0, mv_i p0, mv_i p1, mv_p 28] A 1 0 A := by
  intro M hM
  refine ⟨M, 1, ?_, by decide, hM, fc_.refl M, fun q => absurd q (by decide)⟩
  iterate 5 refine ev_go rfl ?_
  refine ev_callh rfl rfl rfl (h M hM) rfl ?_
  refine ev_go rfl ?_
  refine ev_end rfl ?_
  rfl
theorem pw_window {p0 p1 : Int32} {v : Int32} {A' : mj_M} (h : ey_ X d mt_E_window [mv_p 0, mv_i p0, mv_i p1] A v A') : cs_ X (d + 1) mt_W_window [mv_p 0, mv_i p0, mv_i p1, mv_p 28] A 0 v A' := by
  intro M hM
  obtain ⟨M', e1, e2, e3⟩ := h M hM
  refine ⟨(M'.1, v.toInt64), 0, ?_, by decide, e2, e3, fun _ => rfl⟩
  iterate 5 refine ev_go rfl ?_
  refine ev_callr rfl rfl rfl e1 ?_
  iterate 4 refine ev_go rfl ?_
  refine ev_end rfl ?_
  rfl
theorem pw_window_1 {p0 p1 : Int32} (h : ex_ X d mt_E_window [mv_p 0, mv_i p0, mv_i p1] A 0) : cs_ X (d + 1) mt_W_window [mv_p 0, mv_i p0, mv_i p1, mv_p 28] A 1 0 A := by
  intro M hM
  refine ⟨M, 1, ?_, by decide, hM, fc_.refl M, fun q => absurd q (by decide)⟩
  iterate 5 refine ev_go rfl ?_
  refine ev_callh rfl rfl rfl (h M hM) rfl ?_
  refine ev_go rfl ?_
  refine ev_end rfl ?_
  rfl
theorem pw_counted {p0 p1 p2 : Int32} {v : Int32} {A' : mj_M} (h : ey_ X d mt_E_counted [mv_p 0, mv_i p0, mv_i p1, mv_i p2] A v A') : cs_ X (d + 1) mt_W_counted [mv_p 0, mv_i p0, mv_i p1, mv_i p2, mv_p 28] A 0 v A' := by
  intro M hM
  obtain ⟨M', e1, e2, e3⟩ := h M hM
  refine ⟨(M'.1, v.toInt64), 0, ?_, by decide, e2, e3, fun _ => rfl⟩
  iterate 6 refine ev_go rfl ?_
  refine ev_callr rfl rfl rfl e1 ?_
  iterate 4 refine ev_go rfl ?_
  refine ev_end rfl ?_
  rfl
theorem pw_counted_1 {p0 p1 p2 : Int32} (h : ex_ X d mt_E_counted [mv_p 0, mv_i p0, mv_i p1, mv_i p2] A 0) : cs_ X (d + 1) mt_W_counted [mv_p 0, mv_i p0, mv_i p1, mv_i p2, mv_p 28] A 1 0 A := by
  intro M hM
  refine ⟨M, 1, ?_, by decide, hM, fc_.refl M, fun q => absurd q (by decide)⟩
  iterate 6 refine ev_go rfl ?_
  refine ev_callh rfl rfl rfl (h M hM) rfl ?_
  refine ev_go rfl ?_
  refine ev_end rfl ?_
  rfl
theorem pw_expected {p0 p1 : Int32} {v : Int32} {A' : mj_M} (h : ey_ X d mt_E_expected [mv_p 0, mv_i p0, mv_i p1] A v A') : cs_ X (d + 1) mt_W_expected [mv_p 0, mv_i p0, mv_i p1, mv_p 28] A 0 v A' := by
  intro M hM
  obtain ⟨M', e1, e2, e3⟩ := h M hM
  refine ⟨(M'.1, v.toInt64), 0, ?_, by decide, e2, e3, fun _ => rfl⟩
  iterate 5 refine ev_go rfl ?_
  refine ev_callr rfl rfl rfl e1 ?_
  iterate 4 refine ev_go rfl ?_
  refine ev_end rfl ?_
  rfl
theorem pw_expected_1 {p0 p1 : Int32} (h : ex_ X d mt_E_expected [mv_p 0, mv_i p0, mv_i p1] A 0) : cs_ X (d + 1) mt_W_expected [mv_p 0, mv_i p0, mv_i p1, mv_p 28] A 1 0 A := by
  intro M hM
  refine ⟨M, 1, ?_, by decide, hM, fc_.refl M, fun q => absurd q (by decide)⟩
  iterate 5 refine ev_go rfl ?_
  refine ev_callh rfl rfl rfl (h M hM) rfl ?_
  refine ev_go rfl ?_
  refine ev_end rfl ?_
  rfl
theorem pw_differ {p0 p1 : Int32} {v : Int32} {A' : mj_M} (h : ey_ X d mt_E_differ [mv_p 0, mv_i p0, mv_i p1] A v A') : cs_ X (d + 1) mt_W_differ [mv_p 0, mv_i p0, mv_i p1, mv_p 28] A 0 v A' := by
  intro M hM
  obtain ⟨M', e1, e2, e3⟩ := h M hM
  refine ⟨(M'.1, v.toInt64), 0, ?_, by decide, e2, e3, fun _ => rfl⟩
  iterate 5 refine ev_go rfl ?_
  refine ev_callr rfl rfl rfl e1 ?_
  iterate 4 refine ev_go rfl ?_
  refine ev_end rfl ?_
  rfl
theorem pw_differ_1 {p0 p1 : Int32} (h : ex_ X d mt_E_differ [mv_p 0, mv_i p0, mv_i p1] A 2) : cs_ X (d + 1) mt_W_differ [mv_p 0, mv_i p0, mv_i p1, mv_p 28] A 1 0 A := by
  intro M hM
  refine ⟨M, 1, ?_, by decide, hM, fc_.refl M, fun q => absurd q (by decide)⟩
  iterate 5 refine ev_go rfl ?_
  refine ev_callh rfl rfl rfl (h M hM) rfl ?_
  refine ev_go rfl ?_
  refine ev_end rfl ?_
  rfl
theorem pw_differ_2 {p0 p1 : Int32} (h : ex_ X d mt_E_differ [mv_p 0, mv_i p0, mv_i p1] A 0) : cs_ X (d + 1) mt_W_differ [mv_p 0, mv_i p0, mv_i p1, mv_p 28] A 2 0 A := by
  intro M hM
  refine ⟨M, 1, ?_, by decide, hM, fc_.refl M, fun q => absurd q (by decide)⟩
  iterate 5 refine ev_go rfl ?_
  refine ev_callh rfl rfl rfl (h M hM) rfl ?_
  refine ev_go rfl ?_
  refine ev_end rfl ?_
  rfl
theorem pw_search {p0 p1 : Int32} {v : Int32} {A' : mj_M} (h : ey_ X d mt_E_search [mv_p 0, mv_i p0, mv_i p1] A v A') : cs_ X (d + 1) mt_W_search [mv_p 0, mv_i p0, mv_i p1, mv_p 28] A 0 v A' := by
  intro M hM
  obtain ⟨M', e1, e2, e3⟩ := h M hM
  refine ⟨(M'.1, v.toInt64), 0, ?_, by decide, e2, e3, fun _ => rfl⟩
  iterate 5 refine ev_go rfl ?_
  refine ev_callr rfl rfl rfl e1 ?_
  iterate 4 refine ev_go rfl ?_
  refine ev_end rfl ?_
  rfl
theorem pw_search_1 {p0 p1 : Int32} (h : ex_ X d mt_E_search [mv_p 0, mv_i p0, mv_i p1] A 0) : cs_ X (d + 1) mt_W_search [mv_p 0, mv_i p0, mv_i p1, mv_p 28] A 1 0 A := by
  intro M hM
  refine ⟨M, 1, ?_, by decide, hM, fc_.refl M, fun q => absurd q (by decide)⟩
  iterate 5 refine ev_go rfl ?_
  refine ev_callh rfl rfl rfl (h M hM) rfl ?_
  refine ev_go rfl ?_
  refine ev_end rfl ?_
  rfl
theorem pw_often {p0 : Int32} {v : Int32} {A' : mj_M} (h : ey_ X d mt_E_often [mv_p 0, mv_i p0] A v A') : cs_ X (d + 1) mt_W_often [mv_p 0, mv_i p0, mv_p 28] A 0 v A' := by
  intro M hM
  obtain ⟨M', e1, e2, e3⟩ := h M hM
  refine ⟨(M'.1, v.toInt64), 0, ?_, by decide, e2, e3, fun _ => rfl⟩
  iterate 4 refine ev_go rfl ?_
  refine ev_callr rfl rfl rfl e1 ?_
  iterate 4 refine ev_go rfl ?_
  refine ev_end rfl ?_
  rfl
theorem pw_often_1 {p0 : Int32} (h : ex_ X d mt_E_often [mv_p 0, mv_i p0] A 2) : cs_ X (d + 1) mt_W_often [mv_p 0, mv_i p0, mv_p 28] A 1 0 A := by
  intro M hM
  refine ⟨M, 1, ?_, by decide, hM, fc_.refl M, fun q => absurd q (by decide)⟩
  iterate 4 refine ev_go rfl ?_
  refine ev_callh rfl rfl rfl (h M hM) rfl ?_
  refine ev_go rfl ?_
  refine ev_end rfl ?_
  rfl
theorem pw_found {p0 p1 : Int32} {v : Int32} {A' : mj_M} (h : ey_ X d mt_E_found [mv_p 0, mv_i p0, mv_i p1] A v A') : cs_ X (d + 1) mt_W_found [mv_p 0, mv_i p0, mv_i p1, mv_p 28] A 0 v A' := by
  intro M hM
  obtain ⟨M', e1, e2, e3⟩ := h M hM
  refine ⟨(M'.1, v.toInt64), 0, ?_, by decide, e2, e3, fun _ => rfl⟩
  iterate 5 refine ev_go rfl ?_
  refine ev_callr rfl rfl rfl e1 ?_
  iterate 4 refine ev_go rfl ?_
  refine ev_end rfl ?_
  rfl
theorem pw_found_1 {p0 p1 : Int32} (h : ex_ X d mt_E_found [mv_p 0, mv_i p0, mv_i p1] A 2) : cs_ X (d + 1) mt_W_found [mv_p 0, mv_i p0, mv_i p1, mv_p 28] A 1 0 A := by
  intro M hM
  refine ⟨M, 1, ?_, by decide, hM, fc_.refl M, fun q => absurd q (by decide)⟩
  iterate 5 refine ev_go rfl ?_
  refine ev_callh rfl rfl rfl (h M hM) rfl ?_
  refine ev_go rfl ?_
  refine ev_end rfl ?_
  rfl
theorem pw_found_2 {p0 p1 : Int32} (h : ex_ X d mt_E_found [mv_p 0, mv_i p0, mv_i p1] A 0) : cs_ X (d + 1) mt_W_found [mv_p 0, mv_i p0, mv_i p1, mv_p 28] A 2 0 A := by
  intro M hM
  refine ⟨M, 1, ?_, by decide, hM, fc_.refl M, fun q => absurd q (by decide)⟩
  iterate 5 refine ev_go rfl ?_
  refine ev_callh rfl rfl rfl (h M hM) rfl ?_
  refine ev_go rfl ?_
  refine ev_end rfl ?_
  rfl
theorem pw_accept {v : Int32} {A' : mj_M} (h : ey_ X d mt_E_accept [mv_p 0] A v A') : cs_ X (d + 1) mt_W_accept [mv_p 0, mv_p 28] A 0 v A' := by
  intro M hM
  obtain ⟨M', e1, e2, e3⟩ := h M hM
  refine ⟨(M'.1, v.toInt64), 0, ?_, by decide, e2, e3, fun _ => rfl⟩
  iterate 3 refine ev_go rfl ?_
  refine ev_callr rfl rfl rfl e1 ?_
  iterate 4 refine ev_go rfl ?_
  refine ev_end rfl ?_
  rfl
theorem pw_accept_1 (h : ex_ X d mt_E_accept [mv_p 0] A 3) : cs_ X (d + 1) mt_W_accept [mv_p 0, mv_p 28] A 1 0 A := by
  intro M hM
  refine ⟨M, 1, ?_, by decide, hM, fc_.refl M, fun q => absurd q (by decide)⟩
  iterate 3 refine ev_go rfl ?_
  refine ev_callh rfl rfl rfl (h M hM) rfl ?_
  refine ev_go rfl ?_
  refine ev_end rfl ?_
  rfl
theorem pw_back {p0 : Int32} {v : Int32} {A' : mj_M} (h : ey_ X d mt_E_back [mv_p 0, mv_i p0] A v A') : cs_ X (d + 1) mt_W_back [mv_p 0, mv_i p0, mv_p 28] A 0 v A' := by
  intro M hM
  obtain ⟨M', e1, e2, e3⟩ := h M hM
  refine ⟨(M'.1, v.toInt64), 0, ?_, by decide, e2, e3, fun _ => rfl⟩
  iterate 4 refine ev_go rfl ?_
  refine ev_callr rfl rfl rfl e1 ?_
  iterate 4 refine ev_go rfl ?_
  refine ev_end rfl ?_
  rfl
theorem pw_back_1 {p0 : Int32} (h : ex_ X d mt_E_back [mv_p 0, mv_i p0] A 2) : cs_ X (d + 1) mt_W_back [mv_p 0, mv_i p0, mv_p 28] A 1 0 A := by
  intro M hM
  refine ⟨M, 1, ?_, by decide, hM, fc_.refl M, fun q => absurd q (by decide)⟩
  iterate 4 refine ev_go rfl ?_
  refine ev_callh rfl rfl rfl (h M hM) rfl ?_
  refine ev_go rfl ?_
  refine ev_end rfl ?_
  rfl
theorem pw_back_2 {p0 : Int32} (h : ex_ X d mt_E_back [mv_p 0, mv_i p0] A 3) : cs_ X (d + 1) mt_W_back [mv_p 0, mv_i p0, mv_p 28] A 2 0 A := by
  intro M hM
  refine ⟨M, 1, ?_, by decide, hM, fc_.refl M, fun q => absurd q (by decide)⟩
  iterate 4 refine ev_go rfl ?_
  refine ev_callh rfl rfl rfl (h M hM) rfl ?_
  refine ev_go rfl ?_
  refine ev_end rfl ?_
  rfl
theorem pw_share {p0 p1 : Int32} {v : Int32} {A' : mj_M} (h : ey_ X d mt_E_share [mv_p 0, mv_i p0, mv_i p1] A v A') : cs_ X (d + 1) mt_W_share [mv_p 0, mv_i p0, mv_i p1, mv_p 28] A 0 v A' := by
  intro M hM
  obtain ⟨M', e1, e2, e3⟩ := h M hM
  refine ⟨(M'.1, v.toInt64), 0, ?_, by decide, e2, e3, fun _ => rfl⟩
  iterate 5 refine ev_go rfl ?_
  refine ev_callr rfl rfl rfl e1 ?_
  iterate 4 refine ev_go rfl ?_
  refine ev_end rfl ?_
  rfl
theorem pw_share_1 {p0 p1 : Int32} (h : ex_ X d mt_E_share [mv_p 0, mv_i p0, mv_i p1] A 0) : cs_ X (d + 1) mt_W_share [mv_p 0, mv_i p0, mv_i p1, mv_p 28] A 1 0 A := by
  intro M hM
  refine ⟨M, 1, ?_, by decide, hM, fc_.refl M, fun q => absurd q (by decide)⟩
  iterate 5 refine ev_go rfl ?_
  refine ev_callh rfl rfl rfl (h M hM) rfl ?_
  refine ev_go rfl ?_
  refine ev_end rfl ?_
  rfl
theorem pw_share_2 {p0 p1 : Int32} (h : ex_ X d mt_E_share [mv_p 0, mv_i p0, mv_i p1] A 4) : cs_ X (d + 1) mt_W_share [mv_p 0, mv_i p0, mv_i p1, mv_p 28] A 2 0 A := by
  intro M hM
  refine ⟨M, 1, ?_, by decide, hM, fc_.refl M, fun q => absurd q (by decide)⟩
  iterate 5 refine ev_go rfl ?_
  refine ev_callh rfl rfl rfl (h M hM) rfl ?_
  refine ev_go rfl ?_
  refine ev_end rfl ?_
  rfl
theorem pw_told {p0 p1 : Int32} {v : Int32} {A' : mj_M} (h : ey_ X d mt_E_told [mv_p 0, mv_i p0, mv_i p1] A v A') : cs_ X (d + 1) mt_W_told [mv_p 0, mv_i p0, mv_i p1, mv_p 28] A 0 v A' := by
  intro M hM
  obtain ⟨M', e1, e2, e3⟩ := h M hM
  refine ⟨(M'.1, v.toInt64), 0, ?_, by decide, e2, e3, fun _ => rfl⟩
  iterate 5 refine ev_go rfl ?_
  refine ev_callr rfl rfl rfl e1 ?_
  iterate 4 refine ev_go rfl ?_
  refine ev_end rfl ?_
  rfl
theorem pw_told_1 {p0 p1 : Int32} (h : ex_ X d mt_E_told [mv_p 0, mv_i p0, mv_i p1] A 2) : cs_ X (d + 1) mt_W_told [mv_p 0, mv_i p0, mv_i p1, mv_p 28] A 1 0 A := by
  intro M hM
  refine ⟨M, 1, ?_, by decide, hM, fc_.refl M, fun q => absurd q (by decide)⟩
  iterate 5 refine ev_go rfl ?_
  refine ev_callh rfl rfl rfl (h M hM) rfl ?_
  refine ev_go rfl ?_
  refine ev_end rfl ?_
  rfl
theorem pw_told_2 {p0 p1 : Int32} (h : ex_ X d mt_E_told [mv_p 0, mv_i p0, mv_i p1] A 0) : cs_ X (d + 1) mt_W_told [mv_p 0, mv_i p0, mv_i p1, mv_p 28] A 2 0 A := by
  intro M hM
  refine ⟨M, 1, ?_, by decide, hM, fc_.refl M, fun q => absurd q (by decide)⟩
  iterate 5 refine ev_go rfl ?_
  refine ev_callh rfl rfl rfl (h M hM) rfl ?_
  refine ev_go rfl ?_
  refine ev_end rfl ?_
  rfl
theorem pw_of {p0 p1 p2 : Int32} {v : Int32} {A' : mj_M} (h : ey_ X d mt_E_of [mv_p 0, mv_i p0, mv_i p1, mv_i p2] A v A') : cs_ X (d + 1) mt_W_of [mv_p 0, mv_i p0, mv_i p1, mv_i p2, mv_p 28] A 0 v A' := by
  intro M hM
  obtain ⟨M', e1, e2, e3⟩ := h M hM
  refine ⟨(M'.1, v.toInt64), 0, ?_, by decide, e2, e3, fun _ => rfl⟩
  iterate 6 refine ev_go rfl ?_
  refine ev_callr rfl rfl rfl e1 ?_
  iterate 4 refine ev_go rfl ?_
  refine ev_end rfl ?_
  rfl
theorem pw_of_1 {p0 p1 p2 : Int32} (h : ex_ X d mt_E_of [mv_p 0, mv_i p0, mv_i p1, mv_i p2] A 0) : cs_ X (d + 1) mt_W_of [mv_p 0, mv_i p0, mv_i p1, mv_i p2, mv_p 28] A 1 0 A := by
  intro M hM
  refine ⟨M, 1, ?_, by decide, hM, fc_.refl M, fun q => absurd q (by decide)⟩
  iterate 6 refine ev_go rfl ?_
  refine ev_callh rfl rfl rfl (h M hM) rfl ?_
  refine ev_go rfl ?_
  refine ev_end rfl ?_
  rfl
end
