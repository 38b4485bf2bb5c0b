/-! the class's ledger: telling, turning, adding keep the relation -/
theorem aq_ad_c {A M : mj_M} {a : Nat} (h : ∀ q, 13 ≤ q → q ≤ 17 → M.1 q a = A.1 q a) (c : Int32) : aq_ad M a c = aq_ad A a c := by
  unfold aq_ad
  rw [h 13 (by decide) (by decide), h 14 (by decide) (by decide), h 15 (by decide) (by decide), h 16 (by decide) (by decide), h 17 (by decide) (by decide)]
theorem aq_E_c {A M : mj_M} (h1 : M.1 12 1 = A.1 12 1) (h2 : ∀ a, a < aq_n A → ∀ q, (13 ≤ q ∧ q ≤ 17) ∨ q = 19 → M.1 q a = A.1 q a) : aq_E M = aq_E A := by
  funext c
  unfold aq_E aq_ex
  have e : aq_n M = aq_n A := by unfold aq_n; rw [h1]
  rw [e]
  refine sm_congr (fun a ha => ?_)
  rw [aq_ad_c (fun q h3 h4 => h2 a ha q (Or.inl ⟨h3, h4⟩))]
  unfold aq_tm
  rw [h2 a ha 19 (Or.inr rfl)]
theorem aq_nd_A {A A' : mj_M} {L : Nat → Int32} (h : ∀ c, A'.1 21 c = A.1 21 c) : aq_nd A' L = aq_nd A L := sm_congr (fun c _ => by unfold aq_w aq_df; rw [h c])
theorem aq_nd_21 {A : mj_M} {L : Nat → Int32} {c : Nat} {v : Int32} (hc : c < 60) : aq_nd (mj_st A 21 c v) L = aq_nd A L + (aq_w (mj_st A 21 c v) L c - aq_w A L c) := by
  have h := sm_one (f := aq_w A L) (g := aq_w (mj_st A 21 c v) L) (c := c) (fun k hk => by unfold aq_w aq_df; rw [pm_st1 (Or.inr hk)]) 60
  rw [if_pos hc] at h
  exact h
/-- the class's search fields and flag come along -/
theorem rc_s.A {A A' M : mj_M} (h : rc_s A M) (e : ∀ q j, (q = 12 ∧ (j = 14 ∨ j = 15 ∨ j = 17)) ∨ q = 22 ∨ q = 23 → A'.1 q j = A.1 q j) : rc_s A' M := by
  obtain ⟨c1, c2, c3, c4, c5⟩ := h
  refine ⟨?_, ?_, ?_, fun a ha => ?_, fun i hi => ?_⟩
  · rw [e _ _ (by omega)]; exact c1
  · rw [e _ _ (by omega)]; exact c2
  · rw [e _ _ (by omega)]; exact c3
  · rw [e _ _ (by omega)]; exact c4 a ha
  · rw [e _ _ (by omega)] at hi ⊢; exact c5 i hi
theorem rc_s.M {A M M' : mj_M} (h : rc_s A M) (e : ∀ q j, (q = 2 ∧ (j = 9 ∨ j = 10 ∨ j = 11)) ∨ (9 ≤ q ∧ q ≤ 11) → M'.1 q j = M.1 q j) : rc_s A M' := by
  obtain ⟨c1, c2, c3, c4, c5⟩ := h
  refine ⟨?_, ?_, ?_, fun a ha => ?_, fun i hi => ?_⟩
  · rw [e _ _ (by omega)]; exact c1
  · rw [e _ _ (by omega)]; exact c2
  · rw [e _ _ (by omega)]; exact c3
  · rw [e _ _ (by omega)]; exact c4 a ha
  · rw [e _ _ (by omega), e _ _ (by omega)]; exact c5 i hi
section
variable {X : Nat × (Nat → Int32)} {d : Nat} {M A s : mj_M} {L : Nat → Int32}
theorem rc_te {c : Nat} {v : Int32} (hc : c < 60) (h : rc_ A M) (ht : ∀ c, -1 ≤ A.1 21 c) (hv : -1 ≤ v) : rc_ (mj_st A 21 c v) (pm_te M c v) ∧ fc_ M (pm_te M c v) := by
  obtain ⟨hb, hL, hs, hf⟩ := h
  have eE : aq_E (mj_st A 21 c v) = aq_E A := aq_E_c (pm_st1 (by omega)) (fun a _ q hq => pm_st1 (by omega))
  have f : fc_ M (pm_te M c v) := ((fc_.refl M).st (by omega)).st (by omega)
  have ed : pd_dif (mj_st M 5 c v) c = aq_w (mj_st A 21 c v) (aq_E A) c := by
    unfold pd_dif aq_w aq_df
    rw [pm_st0, pm_st0, pm_st1 (by omega), hL.1 c hc]
    grind
  refine ⟨⟨⟨fun a ha j hj => ?_, fun z hz => ?_, ?_, ?_, ?_⟩, ⟨fun z hz => ?_, ?_⟩, ?_, ?_⟩, f⟩
  · unfold pm_te
    rw [pm_st1 (by rw [pr_e]; omega), pm_st1 (by rw [pr_e]; omega), pm_st1 (by omega)]
    exact hb.1 a ha j hj
  · unfold pm_te
    rw [pm_st1 (by omega)]
    by_cases q : z = c
    · rw [q, pm_st0, pm_st0]
    · rw [pm_st1 (by omega), pm_st1 (by omega)]
      exact hb.2.1 z hz
  · unfold pm_te
    rw [pm_st1 (by omega), pm_st1 (by omega), pm_st1 (by omega)]
    exact hb.2.2.1
  · unfold pm_te
    rw [pm_st1 (by omega), pm_st1 (by omega), pm_st1 (by omega)]
    exact hb.2.2.2.1
  · unfold pm_te
    rw [pm_st1 (by omega), pm_st1 (by omega), pm_st1 (by omega)]
    exact hb.2.2.2.2
  · rw [eE]
    unfold pm_te
    rw [pm_st1 (by omega), pm_st1 (by omega)]
    exact hL.1 z hz
  · rw [eE, aq_nd_21 hc]
    unfold pm_te
    rw [pm_st0, ed, pd_w hc hb hL ht, hL.2]
  · refine (hs.A (A' := mj_st A 21 c v) (fun q j hq => pm_st1 (by omega))).M (fun q j hq => ?_)
    unfold pm_te
    rw [pm_st1 (by omega), pm_st1 (by omega)]
  · unfold pm_te
    rw [pm_st1 (by omega), pm_st1 (by omega), pm_st1 (by omega)]
    exact hf
theorem pd_td_ts {x : Int32} (h : x = 0 ∨ x = 1 ∨ x = 2) : pd_td x = aq_ts x := by
  unfold pd_td aq_ts
  rcases h with h | h | h <;> subst h <;> decide
theorem aq_E_tu {a : Nat} {v : Int32} (ha : a < aq_n A) (c : Nat) : aq_E (mj_st A 19 a v) c = aq_E A c + (aq_ts v - aq_ts (A.1 19 a)) * aq_ad A a (nI c) := by
  unfold aq_E aq_ex
  have en : aq_n (mj_st A 19 a v) = aq_n A := by unfold aq_n; rw [pm_st1 (by omega)]
  have ead : ∀ k, aq_ad (mj_st A 19 a v) k (nI c) = aq_ad A k (nI c) := fun k => aq_ad_c (fun q h1 h2 => pm_st1 (by omega)) _
  rw [en]
  have h := sm_one (f := fun k => aq_tm A k * aq_ad A k (nI c)) (g := fun k => aq_tm (mj_st A 19 a v) k * aq_ad (mj_st A 19 a v) k (nI c)) (c := a) (fun k hk => by
    simp only [ead]
    unfold aq_tm
    rw [pm_st1 (Or.inr hk)]) (aq_n A)
  rw [if_pos ha] at h
  rw [h]
  simp only [ead]
  unfold aq_tm
  rw [pm_st0]
  grind
theorem rc_tu {a : Nat} {v : Int32} (ha : a < aq_n A) (hl : aq_n A ≤ 24) (hr : vs_rw A a) (hb : rc_b A M) (hL : rc_L A (aq_E A) M) (ht : ∀ c, -1 ≤ A.1 21 c) (hv : v = 0 ∨ v = 1 ∨ v = 2) (h0 : A.1 19 a = 0 ∨ A.1 19 a = 1 ∨ A.1 19 a = 2) : rc_b (mj_st A 19 a v) (pm_tu M a v) ∧ rc_L (mj_st A 19 a v) (aq_E (mj_st A 19 a v)) (pm_tu M a v) := by
  have a24 : a < 24 := by omega
  have e6 : M.1 (pr_ a) 6 = A.1 19 a := hb.1 a a24 6 (by decide)
  have b1 : rc_b (mj_st A 19 a v) (mj_st M (pr_ a) 6 v) := by
    refine ⟨fun z hz j hj => ?_, fun z hz => ?_, ?_, ?_, ?_⟩
    · by_cases q : z = a ∧ j = 6
      · obtain ⟨q1, q2⟩ := q
        subst q1 q2
        rw [pm_st0, pm_st0]
      · rw [pm_st1 (by rw [pr_e, pr_e]; omega), pm_st1 (by omega)]
        exact hb.1 z hz j hj
    · rw [pm_st1 (by rw [pr_e]; omega), pm_st1 (by omega)]
      exact hb.2.1 z hz
    · rw [pm_st1 (by rw [pr_e]; omega), pm_st1 (by omega)]
      exact hb.2.2.1
    · rw [pm_st1 (by rw [pr_e]; omega), pm_st1 (by omega)]
      exact hb.2.2.2.1
    · rw [pm_st1 (by rw [pr_e]; omega), pm_st1 (by omega)]
      exact hb.2.2.2.2
  have l1 : rc_L (mj_st A 19 a v) (aq_E A) (mj_st M (pr_ a) 6 v) := by
    refine ⟨fun z hz => ?_, ?_⟩
    · rw [pm_st1 (by rw [pr_e]; omega)]
      exact hL.1 z hz
    · rw [pm_st1 (by rw [pr_e]; omega), aq_nd_A (fun c => pm_st1 (by omega))]
      exact hL.2
  have r1 : vs_rw (mj_st A 19 a v) a := by
    unfold vs_rw
    rw [pm_st1 (by omega), pm_st1 (by omega), pm_st1 (by omega), pm_st1 (by omega), pm_st1 (by omega), pm_st1 (by omega)]
    exact hr
  have t1 : ∀ c, -1 ≤ (mj_st A 19 a v).1 21 c := fun c => by rw [pm_st1 (by omega)]; exact ht c
  unfold pm_tu
  refine ⟨(fl_ca _ _ _).rb b1, (rc_ca (t := pd_td v - pd_td (M.1 (pr_ a) 6)) a24 r1 b1 l1 t1).congr (fun c _ => ?_)⟩
  show aq_E A c + (pd_td v - pd_td (M.1 (pr_ a) 6)) * aq_ad (mj_st A 19 a v) a (nI c) = _
  rw [e6, pd_td_ts hv, pd_td_ts h0, aq_E_tu ha, aq_ad_c (fun q h1 h2 => pm_st1 (by omega))]
theorem fu_tu (M : mj_M) (a : Nat) (v : Int32) {q j : Nat} (h : ¬ (q = 4 ∨ (q = 1 ∧ j = 4)) ∧ q ≠ pr_ a) : (pm_tu M a v).1 q j = M.1 q j := by
  unfold pm_tu
  rw [(fl_ca _ _ _).2 q j h.1, pm_st1 (Or.inl h.2)]
theorem fc_tu (M : mj_M) (a : Nat) (v : Int32) : fc_ M (pm_tu M a v) := fun q j h1 h2 => fu_tu M a v (by rw [pr_e]; omega)
theorem tu_2 (M : mj_M) (a : Nat) (v : Int32) : (pm_tu M a v).2 = M.2 := by
  unfold pm_tu
  rw [(fl_ca _ _ _).1]
  rfl
/-- a new row -/
def pm_ar (M : mj_M) (N : Nat) (k p o g n w : Int32) : mj_M := mj_st (mj_st (mj_st (mj_st (mj_st (mj_st (mj_st M (pr_ N) 0 k) (pr_ N) 1 p) (pr_ N) 2 o) (pr_ N) 3 g) (pr_ N) 4 n) (pr_ N) 5 w) 1 3 (nI (N + 1))
theorem pl_add {N : Nat} {k p o g n w : Int32} (hn : M.1 1 3 = nI N) (hN : N < 24) (hr : pv_row (pm_ar M N k p o g n w) N) : mj_C0 X (d + 3) mt_L_add [mv_p 1, mv_i k, mv_i p, mv_i o, mv_i g, mv_i n, mv_i w] M (mv_R (nI N) (pm_ca (pm_ar M N k p o g n w) N 1)) := by
  have h1 : mj_in (nI N) 24 := nI_in hN (by decide)
  have h2 : (nI N).toNatClampNeg = N := nI_clamp (by omega)
  iterate 2 refine ev_go rfl ?_
  rw [hn]
  iterate 4 refine ev_go rfl ?_
  refine ev_ok h1 rfl ?_
  rw [h2]
  iterate 4 refine ev_go rfl ?_
  refine ev_ok ⟨hN, by decide⟩ rfl ?_
  iterate 3 refine ev_go rfl ?_
  refine ev_ok ⟨hN, by decide⟩ rfl ?_
  iterate 3 refine ev_go rfl ?_
  refine ev_ok ⟨hN, by decide⟩ rfl ?_
  iterate 3 refine ev_go rfl ?_
  refine ev_ok ⟨hN, by decide⟩ rfl ?_
  iterate 3 refine ev_go rfl ?_
  refine ev_ok ⟨hN, by decide⟩ rfl ?_
  iterate 3 refine ev_go rfl ?_
  refine ev_ok ⟨hN, by decide⟩ rfl ?_
  simp only [tn_0, tn_1, tn_2, tn_3, tn_4, tn_5]
  iterate 5 refine ev_go rfl ?_
  show mj_Ev _ _ _ _ _ _ _ [mv_i ((mj_st (mj_st (mj_st (mj_st (mj_st (mj_st M (pr_ N) 0 k) (pr_ N) 1 p) (pr_ N) 2 o) (pr_ N) 3 g) (pr_ N) 4 n) (pr_ N) 5 w).1 1 3 + 1), _] _ _ _
  rw [pm_st1 (by rw [pr_e]; omega), pm_st1 (by rw [pr_e]; omega), pm_st1 (by rw [pr_e]; omega), pm_st1 (by rw [pr_e]; omega), pm_st1 (by rw [pr_e]; omega), pm_st1 (by rw [pr_e]; omega), hn, nI_1]
  iterate 4 refine ev_go rfl ?_
  refine ev_callv rfl rfl rfl (pl_carry (M := pm_ar M N k p o g n w) hN hr) ?_
  refine ev_go rfl ?_
  refine ev_end rfl ?_
  rfl
theorem aq_n_on {k p o g n w : Int32} (hl : aq_n A < 24) : aq_n (on_st A k p o g n w) = aq_n A + 1 := by
  show ((on_st A k p o g n w).1 12 1).toNatClampNeg = _
  unfold on_st
  rw [pm_st0, nI_clamp (by omega)]
theorem on_q {k p o g n w : Int32} {q j : Nat} (h : (q < 13 ∨ 18 < q ∨ j ≠ aq_n A) ∧ (q ≠ 12 ∨ j ≠ 1)) : (on_st A k p o g n w).1 q j = A.1 q j := by
  unfold on_st
  rw [pm_st1 (by omega), pm_st1 (by omega), pm_st1 (by omega), pm_st1 (by omega), pm_st1 (by omega), pm_st1 (by omega), pm_st1 (by omega)]
theorem on_n {k p o g n w : Int32} : (on_st A k p o g n w).1 13 (aq_n A) = k ∧ (on_st A k p o g n w).1 14 (aq_n A) = p ∧ (on_st A k p o g n w).1 15 (aq_n A) = o ∧ (on_st A k p o g n w).1 16 (aq_n A) = g ∧ (on_st A k p o g n w).1 17 (aq_n A) = n ∧ (on_st A k p o g n w).1 18 (aq_n A) = w := by
  unfold on_st
  refine ⟨?_, ?_, ?_, ?_, ?_, ?_⟩
  · rw [pm_st1 (by omega), pm_st1 (by omega), pm_st1 (by omega), pm_st1 (by omega), pm_st1 (by omega), pm_st1 (by omega), pm_st0]
  · rw [pm_st1 (by omega), pm_st1 (by omega), pm_st1 (by omega), pm_st1 (by omega), pm_st1 (by omega), pm_st0]
  · rw [pm_st1 (by omega), pm_st1 (by omega), pm_st1 (by omega), pm_st1 (by omega), pm_st0]
  · rw [pm_st1 (by omega), pm_st1 (by omega), pm_st1 (by omega), pm_st0]
  · rw [pm_st1 (by omega), pm_st1 (by omega), pm_st0]
  · rw [pm_st1 (by omega), pm_st0]
theorem ar_q {N : Nat} {k p o g n w : Int32} {q j : Nat} (h : (q ≠ pr_ N ∨ 5 < j) ∧ (q ≠ 1 ∨ j ≠ 3)) : (pm_ar M N k p o g n w).1 q j = M.1 q j := by
  unfold pm_ar
  rw [pm_st1 (by omega), pm_st1 (by omega), pm_st1 (by omega), pm_st1 (by omega), pm_st1 (by omega), pm_st1 (by omega), pm_st1 (by omega)]
theorem ar_n {N : Nat} {k p o g n w : Int32} : (pm_ar M N k p o g n w).1 (pr_ N) 0 = k ∧ (pm_ar M N k p o g n w).1 (pr_ N) 1 = p ∧ (pm_ar M N k p o g n w).1 (pr_ N) 2 = o ∧ (pm_ar M N k p o g n w).1 (pr_ N) 3 = g ∧ (pm_ar M N k p o g n w).1 (pr_ N) 4 = n ∧ (pm_ar M N k p o g n w).1 (pr_ N) 5 = w := by
  have hp := pr_e N
  unfold pm_ar
  refine ⟨?_, ?_, ?_, ?_, ?_, ?_⟩
  · rw [pm_st1 (by omega), pm_st1 (by omega), pm_st1 (by omega), pm_st1 (by omega), pm_st1 (by omega), pm_st1 (by omega), pm_st0]
  · rw [pm_st1 (by omega), pm_st1 (by omega), pm_st1 (by omega), pm_st1 (by omega), pm_st1 (by omega), pm_st0]
  · rw [pm_st1 (by omega), pm_st1 (by omega), pm_st1 (by omega), pm_st1 (by omega), pm_st0]
  · rw [pm_st1 (by omega), pm_st1 (by omega), pm_st1 (by omega), pm_st0]
  · rw [pm_st1 (by omega), pm_st1 (by omega), pm_st0]
  · rw [pm_st1 (by omega), pm_st0]
theorem aq_E_on {k p o g n w : Int32} (hv : vs_A A) (hl : aq_n A < 24) (c : Nat) : aq_E (on_st A k p o g n w) c = aq_E A c + 1 * aq_ad (on_st A k p o g n w) (aq_n A) (nI c) := by
  unfold aq_E
  rw [aq_n_on hl]
  show aq_ex (on_st A k p o g n w) (aq_n A) c + aq_tm (on_st A k p o g n w) (aq_n A) * aq_ad (on_st A k p o g n w) (aq_n A) (nI c) = _
  have e1 : aq_ex (on_st A k p o g n w) (aq_n A) c = aq_ex A (aq_n A) c := sm_congr (fun a ha => by
    rw [aq_ad_c (fun q h1 h2 => on_q (by omega))]
    unfold aq_tm
    rw [on_q (by omega)])
  have e2 : aq_tm (on_st A k p o g n w) (aq_n A) = 1 := by
    unfold aq_tm
    rw [on_q (by omega), hv.2.2.2.2.1 _ (Nat.le_refl _)]
    rfl
  rw [e1, e2]
theorem rc_on {k p o g n w : Int32} (hv : vs_A A) (hl : aq_n A < 24) (hr : vs_rw (on_st A k p o g n w) (aq_n A)) (h : rc_ A M) : rc_ (on_st A k p o g n w) (pm_ca (pm_ar M (aq_n A) k p o g n w) (aq_n A) 1) ∧ fc_ M (pm_ca (pm_ar M (aq_n A) k p o g n w) (aq_n A) 1) ∧ pv_row (pm_ar M (aq_n A) k p o g n w) (aq_n A) := by
  obtain ⟨hb, hL, hs, hf⟩ := h
  have hp : ∀ a, pr_ a = 30 + a := pr_e
  obtain ⟨g1, g2, g3, g4, g5, g6⟩ := on_n (A := A) (k := k) (p := p) (o := o) (g := g) (n := n) (w := w)
  obtain ⟨r1, r2, r3, r4, r5, r6⟩ := ar_n (M := M) (N := aq_n A) (k := k) (p := p) (o := o) (g := g) (n := n) (w := w)
  have b1 : rc_b (on_st A k p o g n w) (pm_ar M (aq_n A) k p o g n w) := by
    refine ⟨fun a ha j hj => ?_, fun c hc => ?_, ?_, ?_, ?_⟩
    · by_cases qa : a = aq_n A
      · rw [qa]
        by_cases qj : 5 < j
        · rw [ar_q (by rw [hp]; omega), on_q (by omega)]
          exact hb.1 _ hl j hj
        · have hj6 : j = 0 ∨ j = 1 ∨ j = 2 ∨ j = 3 ∨ j = 4 ∨ j = 5 := by omega
          rcases hj6 with q | q | q | q | q | q <;> subst q
          · exact r1.trans g1.symm
          · exact r2.trans g2.symm
          · exact r3.trans g3.symm
          · exact r4.trans g4.symm
          · exact r5.trans g5.symm
          · exact r6.trans g6.symm
      · rw [ar_q (by rw [hp, hp]; omega), on_q (by omega)]
        exact hb.1 a ha j hj
    · rw [ar_q (by rw [hp]; omega), on_q (by omega)]
      exact hb.2.1 c hc
    · unfold pm_ar on_st
      rw [pm_st0, pm_st0]
    · rw [ar_q (by rw [hp]; omega), on_q (by omega)]
      exact hb.2.2.2.1
    · rw [ar_q (by rw [hp]; omega), on_q (by omega)]
      exact hb.2.2.2.2
  have l1 : rc_L (on_st A k p o g n w) (aq_E A) (pm_ar M (aq_n A) k p o g n w) := by
    refine ⟨fun c hc => ?_, ?_⟩
    · rw [ar_q (by rw [hp]; omega)]
      exact hL.1 c hc
    · rw [ar_q (by rw [hp]; omega), aq_nd_A (fun c => on_q (by omega))]
      exact hL.2
  have t1 : ∀ c, -1 ≤ (on_st A k p o g n w).1 21 c := fun c => by rw [on_q (by omega)]; exact hv.2.2.2.2.2.1 c
  refine ⟨⟨(fl_ca _ _ _).rb b1, (rc_ca hl hr b1 l1 t1).congr (fun c _ => (aq_E_on hv hl c).symm), (fl_ca _ _ _).rs ((hs.A (fun q j hq => on_q (by omega))).M (fun q j hq => ar_q (by rw [hp]; omega))), ?_⟩, ?_, (b1.pv hl hr).1⟩
  · rw [(fl_ca _ _ _).2 _ _ (by omega), ar_q (by rw [hp]; omega), on_q (by omega)]
    exact hf
  · refine fc_.trans ?_ (fl_ca _ _ _).fc
    intro q j h1 h2
    exact ar_q (by rw [hp]; omega)
end
