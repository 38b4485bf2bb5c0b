/-! the class's own calls, on -/
section
variable {X : Nat × (Nat → Int32)} {d : Nat} {M A : mj_M}
theorem rc_n (hv : vs_A A) (h : rc_ A M) : M.1 1 3 = nI (aq_n A) := h.1.2.2.1.trans hv.1.1
/-- another change of the state that leaves what is expected alone -/
theorem rc_ac {A' M' : mj_M} (h : rc_ A M) (h1 : rc_b A' M') (e1 : A'.1 12 1 = A.1 12 1) (e2 : ∀ a, a < aq_n A → ∀ q, (13 ≤ q ∧ q ≤ 17) ∨ q = 19 → A'.1 q a = A.1 q a) (e3 : ∀ c, A'.1 21 c = A.1 21 c) (e4 : ∀ q j, (q = 12 ∧ (j = 14 ∨ j = 15 ∨ j = 17 ∨ j = 13)) ∨ q = 22 ∨ q = 23 → A'.1 q j = A.1 q j) (e5 : ∀ q j, (q = 2 ∧ (j = 9 ∨ j = 10 ∨ j = 11 ∨ j = 12)) ∨ (9 ≤ q ∧ q ≤ 11) ∨ q = 4 ∨ (q = 1 ∧ j = 4) → M'.1 q j = M.1 q j) : rc_ A' M' := by
  obtain ⟨-, hL, hs, hf⟩ := h
  refine ⟨h1, ⟨fun c hc => ?_, ?_⟩, (hs.A (fun q j hq => e4 q j (by omega))).M (fun q j hq => e5 q j (by omega)), ?_⟩
  · rw [e5 _ _ (by omega), aq_E_c e1 e2]; exact hL.1 c hc
  · rw [e5 _ _ (by omega), aq_E_c e1 e2, aq_nd_A e3]; exact hL.2
  · rw [e5 _ _ (by omega), e4 _ _ (by omega)]; exact hf
theorem px_closed {a b : Int32} (hv : vs_A A) (h : a < 0 ∨ ¬ a < nI (aq_n A)) : ex_ X (d + 4) mt_E_closed [mv_p 0, mv_i a, mv_i b] A 2 := by
  intro M hM
  have e := rc_n hv hM
  have hl := hv.1.2
  iterate 4 refine ev_go rfl ?_
  rw [e]
  exact ev_callx rfl rfl rfl (pe_needThere_x (by omega) h) rfl
theorem py_closed {a : Nat} {b : Int32} (hv : vs_A A) (ha : a < aq_n A) (hb : b = 0 ∨ b = 1) (hv' : vs_A (mj_st A 20 a b)) : ey_ X (d + 4) mt_E_closed [mv_p 0, mv_i (nI a), mv_i b] A (sm (aq_ci (mj_st A 20 a b) 7 1) (aq_n A)) (mj_st A 20 a b) := by
  intro M hM
  have e := rc_n hv hM
  have hl := hv.1.2
  have hp : ∀ a, pr_ a = 30 + a := pr_e
  have h1 : mj_in (nI a) 24 := nI_in (by omega) (by decide)
  have h2 : (nI a).toNatClampNeg = a := nI_clamp (by omega)
  have b1 : rc_b (mj_st A 20 a b) (mj_st M (pr_ a) 7 b) := by
    obtain ⟨⟨a1, a2, a3, a4, a5⟩, -⟩ := hM
    refine ⟨fun z hz j hj => ?_, fun c hc => ?_, ?_, ?_, ?_⟩
    · by_cases q : z = a ∧ j = 7
      · obtain ⟨q1, q2⟩ := q
        subst q1 q2
        rw [pm_st0, pm_st0]
      · rw [pm_st1 (by rw [hp, hp]; omega), pm_st1 (by omega)]
        exact a1 z hz j hj
    · rw [pm_st1 (by rw [hp]; omega), pm_st1 (by omega)]; exact a2 c hc
    · rw [pm_st1 (by rw [hp]; omega), pm_st1 (by omega)]; exact a3
    · rw [pm_st1 (by rw [hp]; omega), pm_st1 (by omega)]; exact a4
    · rw [pm_st1 (by rw [hp]; omega), pm_st1 (by omega)]; exact a5
  refine ⟨mj_st M (pr_ a) 7 b, ?_, rc_ac hM b1 (pm_st1 (by omega)) (fun z _ q hq => pm_st1 (by omega)) (fun c => pm_st1 (by omega)) (fun q j hq => pm_st1 (by omega)) (fun q j hq => pm_st1 (by rw [hp]; omega)), (fc_.refl M).st (by rw [hp]; omega)⟩
  have en : aq_n (mj_st A 20 a b) = aq_n A := by unfold aq_n; rw [pm_st1 (by omega)]
  have key := pl_actsWith (X := X) (d := d + 3) (w := 7) (v := 1) hv' b1 (by decide)
  rw [en] at key
  rcases hb with q | q <;> subst q
  · iterate 4 refine ev_go rfl ?_
    rw [e]
    refine ev_callv rfl rfl rfl (pe_needThere ha (by omega)) ?_
    iterate 4 refine ev_go rfl ?_
    refine ev_ok h1 rfl ?_
    rw [h2]
    iterate 4 refine ev_go rfl ?_
    refine ev_ok ⟨by omega, by decide⟩ rfl ?_
    simp only [tn_7]
    iterate 4 refine ev_go rfl ?_
    refine ev_callr rfl rfl rfl key ?_
    refine ev_end rfl ?_
    rfl
  · iterate 4 refine ev_go rfl ?_
    rw [e]
    refine ev_callv rfl rfl rfl (pe_needThere ha (by omega)) ?_
    iterate 4 refine ev_go rfl ?_
    refine ev_ok h1 rfl ?_
    rw [h2]
    iterate 5 refine ev_go rfl ?_
    refine ev_ok ⟨by omega, by decide⟩ rfl ?_
    simp only [tn_7]
    iterate 4 refine ev_go rfl ?_
    refine ev_callr rfl rfl rfl key ?_
    refine ev_end rfl ?_
    rfl
theorem px_window {a b : Int32} (h : ¬ (0 ≤ a ∧ a ≤ 10000 ∧ 0 ≤ b ∧ b ≤ 10000 ∧ a ≤ b)) : ex_ X (d + 4) mt_E_window [mv_p 0, mv_i a, mv_i b] A 0 := by
  intro M hM
  iterate 3 refine ev_go rfl ?_
  refine ev_callr rfl rfl rfl pe_isWithin ?_
  refine ev_if rfl (fun h8 => ?_) (fun h8 => ?_)
  · refine ev_go rfl ?_
    exact ev_callx rfl rfl rfl (pe_need_x rfl) rfl
  · iterate 3 refine ev_go rfl ?_
    refine ev_callr rfl rfl rfl pe_isWithin ?_
    refine ev_if rfl (fun h19 => ?_) (fun h19 => ?_)
    · refine ev_go rfl ?_
      exact ev_callx rfl rfl rfl (pe_need_x rfl) rfl
    · exfalso
      grind [pd_wi1]
theorem py_window {a b : Int32} (h : 0 ≤ a ∧ a ≤ 10000 ∧ 0 ≤ b ∧ b ≤ 10000 ∧ a ≤ b) (hv' : vs_A (ow_ A a b)) : ey_ X (d + 4) mt_E_window [mv_p 0, mv_i a, mv_i b] A (sm (aq_ca (ow_ A a b)) (aq_n (ow_ A a b))) (ow_ A a b) := by
  intro M hM
  have hp : ∀ a, pr_ a = 30 + a := pr_e
  have qA : ∀ q j, ¬ (q = 12 ∧ (j = 10 ∨ j = 11)) → (ow_ A a b).1 q j = A.1 q j := fun q j hq => by
    unfold ow_
    rw [pm_st1 (by omega), pm_st1 (by omega)]
  have b1 : rc_b (ow_ A a b) (mj_st (mj_st M 1 5 a) 1 6 b) := by
    obtain ⟨⟨a1, a2, a3, a4, a5⟩, -⟩ := hM
    refine ⟨fun z hz j hj => ?_, fun c hc => ?_, ?_, ?_, ?_⟩
    · rw [pm_st1 (by rw [hp]; omega), pm_st1 (by rw [hp]; omega), qA _ _ (by omega)]; exact a1 z hz j hj
    · rw [pm_st1 (by omega), pm_st1 (by omega), qA _ _ (by omega)]; exact a2 c hc
    · rw [pm_st1 (by omega), pm_st1 (by omega), qA _ _ (by omega)]; exact a3
    · unfold ow_
      rw [pm_st1 (by omega), pm_st0, pm_st1 (by omega), pm_st0]
    · unfold ow_
      rw [pm_st0, pm_st0]
  refine ⟨mj_st (mj_st M 1 5 a) 1 6 b, ?_, rc_ac hM b1 (qA _ _ (by omega)) (fun z _ q hq => qA _ _ (by omega)) (fun c => qA _ _ (by omega)) (fun q j hq => qA _ _ (by omega)) (fun q j hq => by rw [pm_st1 (by omega), pm_st1 (by omega)]), ((fc_.refl M).st (by omega)).st (by omega)⟩
  iterate 3 refine ev_go rfl ?_
  refine ev_callr rfl rfl rfl pe_isWithin ?_
  refine ev_if rfl (fun h8 => ?_) (fun h8 => ?_)
  · exfalso
    grind [pd_wi1]
  · iterate 3 refine ev_go rfl ?_
    refine ev_callr rfl rfl rfl pe_isWithin ?_
    refine ev_if rfl (fun h19 => ?_) (fun h19 => ?_)
    · exfalso
      grind [pd_wi1]
    · iterate 2 refine ev_go rfl ?_
      refine ev_callv rfl rfl rfl (pe_need (by decide)) ?_
      iterate 10 refine ev_go rfl ?_
      refine ev_callr rfl rfl rfl (pl_candidates hv' b1) ?_
      refine ev_end rfl ?_
      rfl
theorem px_counted {p g n : Int32} (h : ¬ (0 ≤ p ∧ p ≤ 9 ∧ 0 ≤ g ∧ g ≤ 5 ∧ -1 ≤ n ∧ n ≤ 100000)) : ex_ X (d + 4) mt_E_counted [mv_p 0, mv_i p, mv_i g, mv_i n] A 0 := by
  intro M hM
  by_cases h1 : 0 ≤ p ∧ p ≤ 9 ∧ 0 ≤ g ∧ g ≤ 5
  · have h2 : ¬ (-1 ≤ n ∧ n ≤ 100000) := by grind
    iterate 2 refine ev_go rfl ?_
    refine ev_callv rfl rfl rfl (pe_needCell h1) ?_
    iterate 3 refine ev_go rfl ?_
    refine ev_callr rfl rfl rfl pe_isWithin ?_
    exact ev_callx rfl rfl rfl (pe_need_x (pd_wi1.2 h2)) rfl
  · iterate 2 refine ev_go rfl ?_
    exact ev_callx rfl rfl rfl (pe_needCell_x h1) rfl
theorem py_counted {p g : Nat} {n : Int32} (hv : vs_A A) (hp : p < 10) (hg : g < 6) (h0 : -1 ≤ n ∧ n ≤ 100000) : ey_ X (d + 4) mt_E_counted [mv_p 0, mv_i (nI p), mv_i (nI g), mv_i n] A (aq_nd (oc_ A (p * 6 + g) n) (aq_E (oc_ A (p * 6 + g) n))) (oc_ A (p * 6 + g) n) := by
  intro M hM
  have h1 : 0 ≤ nI p ∧ nI p ≤ 9 ∧ 0 ≤ nI g ∧ nI g ≤ 5 := ⟨nI_pos' (by omega), nI_le (b := 9) (by omega) (by decide), nI_pos' (by omega), nI_le (b := 5) (by omega) (by decide)⟩
  obtain ⟨e1, e2, e3⟩ := pd_cell hp hg
  obtain ⟨r1, r2⟩ := rc_te e3 hM hv.2.2.2.2.2.1 h0.1
  refine ⟨pm_te M (p * 6 + g) n, ?_, r1, r2⟩
  iterate 2 refine ev_go rfl ?_
  refine ev_callv rfl rfl rfl (pe_needCell h1) ?_
  iterate 3 refine ev_go rfl ?_
  refine ev_callr rfl rfl rfl pe_isWithin ?_
  refine ev_callv rfl rfl rfl (pe_need (by rw [pd_wi1]; exact fun q => q h0)) ?_
  iterate 4 refine ev_go rfl ?_
  refine ev_callr rfl rfl rfl pe_cellOf ?_
  rw [e1]
  refine ev_go rfl ?_
  refine ev_callv rfl rfl rfl (pl_tell e3) ?_
  iterate 3 refine ev_go rfl ?_
  refine ev_end rfl ?_
  show some (mv_R ((pm_te M (p * 6 + g) n).1 1 4) _) = some (mv_R _ _)
  rw [r1.2.1.2]
  rfl
theorem px_expected {p g : Int32} (h : ¬ (0 ≤ p ∧ p ≤ 9 ∧ 0 ≤ g ∧ g ≤ 5)) : ex_ X (d + 4) mt_E_expected [mv_p 0, mv_i p, mv_i g] A 0 := by
  intro M hM
  iterate 2 refine ev_go rfl ?_
  exact ev_callx rfl rfl rfl (pe_needCell_x h) rfl
theorem py_expected {p g : Nat} (hp : p < 10) (hg : g < 6) : ey_ X (d + 4) mt_E_expected [mv_p 0, mv_i (nI p), mv_i (nI g)] A (aq_E A (p * 6 + g)) A := by
  intro M hM
  have h1 : 0 ≤ nI p ∧ nI p ≤ 9 ∧ 0 ≤ nI g ∧ nI g ≤ 5 := ⟨nI_pos' (by omega), nI_le (b := 9) (by omega) (by decide), nI_pos' (by omega), nI_le (b := 5) (by omega) (by decide)⟩
  obtain ⟨e1, e2, e3⟩ := pd_cell hp hg
  refine ⟨M, ?_, hM, fc_.refl M⟩
  iterate 2 refine ev_go rfl ?_
  refine ev_callv rfl rfl rfl (pe_needCell h1) ?_
  iterate 5 refine ev_go rfl ?_
  refine ev_callr rfl rfl rfl pe_cellOf ?_
  rw [e1]
  refine ev_ok (nI_in e3 (by decide)) rfl ?_
  rw [nI_clamp (by omega), hM.2.1.1 _ e3]
  refine ev_end rfl ?_
  rfl
theorem rc_nd (h : rc_ A M) : M.1 1 4 = nI (ct (aq_df A (aq_E A)) 60) := h.2.1.2.trans (aq_wct _ _ _)
theorem px_differ {i w : Int32} (h : i < 0 ∨ ¬ i < aq_nd A (aq_E A)) : ex_ X (d + 4) mt_E_differ [mv_p 0, mv_i i, mv_i w] A 2 := by
  intro M hM
  have e := rc_nd hM
  have u := ct_le (aq_df A (aq_E A)) 60
  have h' : i < 0 ∨ ¬ i < nI (ct (aq_df A (aq_E A)) 60) := by rw [← aq_wct]; exact h
  iterate 4 refine ev_go rfl ?_
  rw [e]
  exact ev_callx rfl rfl rfl (pe_needThere_x (by omega) h') rfl
theorem pz_differ {i : Nat} {w : Int32} (h : i < ct (aq_df A (aq_E A)) 60) (h' : ¬ (0 ≤ w ∧ w ≤ 2)) : ex_ X (d + 4) mt_E_differ [mv_p 0, mv_i (nI i), mv_i w] A 0 := by
  intro M hM
  have e := rc_nd hM
  have u := ct_le (aq_df A (aq_E A)) 60
  iterate 4 refine ev_go rfl ?_
  rw [e]
  refine ev_callv rfl rfl rfl (pe_needThere h (by omega)) ?_
  iterate 3 refine ev_go rfl ?_
  refine ev_callr rfl rfl rfl pe_isWithin ?_
  exact ev_callx rfl rfl rfl (pe_need_x (pd_wi1.2 h')) rfl
theorem py_differ {i c : Nat} {w : Int32} (hv : vs_A A) (hc : c < 60) (h1 : ct (aq_df A (aq_E A)) c = i) (h2 : ¬ aq_df A (aq_E A) c = 0) (h' : 0 ≤ w ∧ w ≤ 2) : ey_ X (d + 4) mt_E_differ [mv_p 0, mv_i (nI i), mv_i w] A (if w = 0 then nI c / 6 else if w = 1 then nI c - nI c / 6 * 6 else aq_df A (aq_E A) c) A := by
  intro M hM
  have e := rc_nd hM
  have u := ct_le (aq_df A (aq_E A)) 60
  have h3 : i < ct (aq_df A (aq_E A)) 60 := by
    have := ct_1 h2
    have := ct_mono (aq_df A (aq_E A)) (show c + 1 ≤ 60 by omega)
    omega
  have eg : M.1 5 c - M.1 4 c = aq_df A (aq_E A) c := by
    rw [hM.1.2.1 c hc, hM.2.1.1 c hc]
    unfold aq_df at h2 ⊢
    grind
  refine ⟨M, ?_, hM, fc_.refl M⟩
  iterate 4 refine ev_go rfl ?_
  rw [e]
  refine ev_callv rfl rfl rfl (pe_needThere h3 (by omega)) ?_
  iterate 3 refine ev_go rfl ?_
  refine ev_callr rfl rfl rfl pe_isWithin ?_
  refine ev_callv rfl rfl rfl (pe_need (by rw [pd_wi1]; exact fun q => q h')) ?_
  iterate 3 refine ev_go rfl ?_
  refine ev_callr rfl rfl rfl (pl_differingCell hM.1 hM.2.1 hv.2.2.2.2.2.1 hc h1 h2) ?_
  iterate 2 refine ev_go rfl ?_
  refine ev_if rfl (fun h30 => ?_) (fun h30 => ?_)
  · iterate 3 refine ev_go rfl ?_
    refine ev_end rfl ?_
    show some _ = some (mv_R _ M)
    first
      | (rw [if_pos h30]; done)
      | (rw [if_pos h30]; rfl)
      | (rw [if_neg h30, if_pos h40]; done)
      | (rw [if_neg h30, if_pos h40]; rfl)
      | (rw [if_neg h30, if_neg h40]; done)
  · iterate 2 refine ev_go rfl ?_
    refine ev_if rfl (fun h40 => ?_) (fun h40 => ?_)
    · iterate 4 refine ev_go rfl ?_
      try rw [eg]
      refine ev_end rfl ?_
      show some _ = some (mv_R _ M)
      first
        | (rw [if_pos h30]; done)
        | (rw [if_pos h30]; rfl)
        | (rw [if_neg h30, if_pos h40]; done)
        | (rw [if_neg h30, if_pos h40]; rfl)
        | (rw [if_neg h30, if_neg h40]; done)
    · iterate 3 refine ev_go rfl ?_
      refine ev_callr rfl rfl rfl (pl_gap hc) ?_
      try rw [eg]
      refine ev_end rfl ?_
      show some _ = some (mv_R _ M)
      first
        | (rw [if_pos h30]; done)
        | (rw [if_pos h30]; rfl)
        | (rw [if_neg h30, if_pos h40]; done)
        | (rw [if_neg h30, if_pos h40]; rfl)
        | (rw [if_neg h30, if_neg h40]; done)
theorem px_search {a b : Int32} (h : ¬ (1 ≤ a ∧ a ≤ 4 ∧ 0 ≤ b ∧ b ≤ 20000)) : ex_ X (d + 12) mt_E_search [mv_p 0, mv_i a, mv_i b] A 0 := by
  intro M hM
  iterate 3 refine ev_go rfl ?_
  refine ev_callr rfl rfl rfl pe_isWithin ?_
  refine ev_if rfl (fun h6 => ?_) (fun h6 => ?_)
  · refine ev_go rfl ?_
    exact ev_callx rfl rfl rfl (pe_need_x rfl) rfl
  · iterate 3 refine ev_go rfl ?_
    refine ev_callr rfl rfl rfl pe_isWithin ?_
    refine ev_if rfl (fun h17 => ?_) (fun h17 => ?_)
    · refine ev_go rfl ?_
      exact ev_callx rfl rfl rfl (pe_need_x rfl) rfl
    · exfalso
      grind [pd_wi1]
theorem py_search {mo : Nat} {b : Int32} (hv : vs_A A) (h0 : 0 < mo) (h4 : mo ≤ 4) (hb : 0 ≤ b ∧ b ≤ 20000) : ey_ X (d + 12) mt_E_search [mv_p 0, mv_i (nI mo), mv_i b] A (sv_ A b mo) (sr_ A b mo) := by
  intro M hM
  have hmm : 1 ≤ nI mo ∧ nI mo ≤ 4 := ⟨nI_le (a := 1) (by omega) (by omega), nI_le (b := 4) (by omega) (by decide)⟩
  obtain ⟨M', s1, s2, s3⟩ := pk_seek (X := X) (d := d) hv hM h0 h4 hb.1
  refine ⟨M', ?_, s2, s3⟩
  iterate 3 refine ev_go rfl ?_
  refine ev_callr rfl rfl rfl pe_isWithin ?_
  refine ev_if rfl (fun h6 => ?_) (fun h6 => ?_)
  · exfalso
    grind [pd_wi1]
  · iterate 3 refine ev_go rfl ?_
    refine ev_callr rfl rfl rfl pe_isWithin ?_
    refine ev_if rfl (fun h17 => ?_) (fun h17 => ?_)
    · exfalso
      grind [pd_wi1]
    · iterate 2 refine ev_go rfl ?_
      refine ev_callv rfl rfl rfl (pe_need (by decide)) ?_
      iterate 6 refine ev_go rfl ?_
      refine ev_callr rfl rfl rfl s1 ?_
      refine ev_end rfl ?_
      rfl
theorem py_exact (h : A.1 12 13 = 0 ∨ A.1 12 13 = 1) : ey_ X d mt_E_exact [mv_p 0] A (A.1 12 13) A := by
  intro M hM
  refine ⟨M, ?_, hM, fc_.refl M⟩
  iterate 3 refine ev_go rfl ?_
  rw [hM.2.2.2]
  refine ev_end rfl ?_
  exact if_pos h
theorem py_steps : ey_ X d mt_E_steps [mv_p 0] A (A.1 12 14) A := by
  intro M hM
  refine ⟨M, ?_, hM, fc_.refl M⟩
  iterate 3 refine ev_go rfl ?_
  rw [hM.2.2.1.1]
  refine ev_end rfl ?_
  rfl
theorem py_ties : ey_ X d mt_E_ties [mv_p 0] A (A.1 12 15) A := by
  intro M hM
  refine ⟨M, ?_, hM, fc_.refl M⟩
  iterate 3 refine ev_go rfl ?_
  rw [hM.2.2.1.2.1]
  refine ev_end rfl ?_
  rfl
theorem px_often {a : Int32} (hv : vs_A A) (h : a < 0 ∨ ¬ a < nI (aq_n A)) : ex_ X (d + 4) mt_E_often [mv_p 0, mv_i a] A 2 := by
  intro M hM
  have e := rc_n hv hM
  have hl := hv.1.2
  iterate 4 refine ev_go rfl ?_
  rw [e]
  exact ev_callx rfl rfl rfl (pe_needThere_x (by omega) h) rfl
theorem py_often {a : Nat} (hv : vs_A A) (ha : a < aq_n A) : ey_ X (d + 4) mt_E_often [mv_p 0, mv_i (nI a)] A (A.1 22 a) A := by
  intro M hM
  have e := rc_n hv hM
  have hl := hv.1.2
  refine ⟨M, ?_, hM, fc_.refl M⟩
  iterate 4 refine ev_go rfl ?_
  rw [e]
  refine ev_callv rfl rfl rfl (pe_needThere ha (by omega)) ?_
  iterate 4 refine ev_go rfl ?_
  refine ev_ok (nI_in (show a < 24 by omega) (by decide)) rfl ?_
  rw [nI_clamp (by omega), hM.2.2.1.2.2.2.1 a (by omega)]
  refine ev_end rfl ?_
  rfl
end
