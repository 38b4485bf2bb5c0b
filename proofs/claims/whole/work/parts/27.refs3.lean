/-! the reference goes through the sets of one size -/
def fz_ (M M' : mj_M) : Prop := fm_ M M' ∧ M'.1 12 0 = M.1 12 0
theorem fz_.refl (M : mj_M) : fz_ M M := ⟨fm_.refl M, rfl⟩
theorem fz_.trans {M M' M'' : mj_M} (h : fz_ M M') (h' : fz_ M' M'') : fz_ M M'' := ⟨h.1.trans h'.1, h'.2.trans h.2⟩
theorem fz_.st {M M' : mj_M} (h : fz_ M M') {q j : Nat} {x : Int32} (h1 : 12 ≤ q ∧ (q ≠ 12 ∨ j ≠ 0)) (h2 : q < 28) : fz_ M (mj_st M' q j x) := ⟨h.1.st h1.1 h2, by rw [pm_st1 (by omega)]; exact h.2⟩
theorem fs_.fz {M M' : mj_M} (h : fs_ M M') : fz_ M M' := ⟨h.fm, h.2 12 0 (by omega)⟩
def gs_ (A : mj_M) (cs : Nat → Nat) (m : Nat) (x : Nat → Nat) (n : Nat) (M : mj_M) : Prop := rl_ A (aq_L A cs x n) M ∧ M.1 12 21 = nI m ∧ (∀ i, i < m → M.1 25 i = nI (cs i)) ∧ (∀ i, i < n → (M.1 26 i = nI (x i) ∧ x i < 2 * m) ∧ M.1 27 i = 1)
theorem gs_.st {A M : mj_M} {cs x : Nat → Nat} {m n q j : Nat} {v : Int32} (h : gs_ A cs m x n M) (h1 : q ≠ 24 ∧ q ≠ 25 ∧ ((q ≠ 26 ∧ q ≠ 27) ∨ n ≤ j) ∧ (q ≠ 12 ∨ (j ≠ 20 ∧ j ≠ 21))) : gs_ A cs m x n (mj_st M q j v) := by
  obtain ⟨⟨a1, a2⟩, a3, a4, a5⟩ := h
  refine ⟨⟨fun c hc => ?_, ?_⟩, ?_, fun i hi => ?_, fun i hi => ⟨⟨?_, (a5 i hi).1.2⟩, ?_⟩⟩
  · rw [pm_st1 (by omega)]; exact a1 c hc
  · rw [pm_st1 (by omega)]; exact a2
  · rw [pm_st1 (by omega)]; exact a3
  · rw [pm_st1 (by omega)]; exact a4 i hi
  · rw [pm_st1 (by omega)]; exact (a5 i hi).1.1
  · rw [pm_st1 (by omega)]; exact (a5 i hi).2
theorem gs_.fs {A M M' : mj_M} {cs x : Nat → Nat} {m n n' : Nat} (h : gs_ A cs m x n M) (f : fs_ M M') (hn : n' ≤ n) (hr : rl_ A (aq_L A cs x n') M') : gs_ A cs m x n' M' := by
  obtain ⟨-, a3, a4, a5⟩ := h
  refine ⟨hr, ?_, fun i hi => ?_, fun i hi => ⟨⟨?_, (a5 i (by omega)).1.2⟩, ?_⟩⟩
  · rw [f.2 _ _ (by omega)]; exact a3
  · rw [f.2 _ _ (by omega)]; exact a4 i hi
  · rw [f.2 _ _ (by omega)]; exact (a5 i (by omega)).1.1
  · rw [f.2 _ _ (by omega)]; exact (a5 i (by omega)).2
theorem gs_.cx {A M : mj_M} {cs x y : Nat → Nat} {m n : Nat} (h : gs_ A cs m x n M) (e : ∀ i, i < n → x i = y i) : gs_ A cs m y n M := by
  obtain ⟨a1, a3, a4, a5⟩ := h
  refine ⟨?_, a3, a4, fun i hi => ?_⟩
  · rw [← aq_L_c e]; exact a1
  · rw [← e i hi]; exact a5 i hi
theorem upN_s {x : Nat → Nat} {n c : Nat} : upN x n c n = c := if_pos rfl
theorem upN_n {x : Nat → Nat} {n c i : Nat} (h : i ≠ n) : upN x n c i = x i := if_neg h
section
variable {X : Nat × (Nat → Int32)} {d : Nat} {M A s : mj_M} {cs x : Nat → Nat} {m n c size : Nat} {lim : Int32}
theorem gt_lim (hn : n < 4) (hm : m ≤ 24) (hc : c < 2 * m) (h : gs_ A cs m x n M) (h2 : M.1 26 n = nI c - 1) (hs : rm_ s M) (hl : s.1 12 14 = lim) : ∃ M', rm_ s M' ∧ fz_ M M' ∧ mj_Ev mj_S0 X mj_P (d + 2) mt_M_goThrough 40 (mj_up (fun j => [mv_p 12, mv_i (nI size), mv_i lim][j]?) 3 (mv_i (nI n))) [] M 0 (mv_R 0 M') := by
  have i5 : mj_in (nI n) 5 := nI_in (by omega) (by decide)
  have j5 : (nI n).toNatClampNeg = n := nI_clamp (by omega)
  refine ⟨mj_st (mj_st M 27 n 0) 26 n (nI c), (hs.sr (by unfold aq_k; omega)).sr (by unfold aq_k; omega), ((fz_.refl M).st (by omega) (by omega)).st (by omega) (by omega), ?_⟩
  iterate 4 refine ev_go rfl ?_
  refine ev_ok ⟨i5, Or.inl rfl⟩ rfl ?_
  rw [j5]
  iterate 6 refine ev_go rfl ?_
  refine ev_ok i5 rfl ?_
  rw [j5]
  iterate 2 refine ev_go rfl ?_
  show mj_Ev _ _ _ _ _ _ _ [mv_i (M.1 26 n + 1), _, _] _ _ _
  rw [h2, Int32.sub_add_cancel]
  refine ev_ok i5 rfl ?_
  rw [j5]
  iterate 3 refine ev_go rfl ?_
  refine ev_ok i5 rfl ?_
  rw [j5, pm_st0]
  iterate 4 refine ev_go rfl ?_
  show mj_Ev _ _ _ _ _ _ _ [mv_i (2 * M.1 12 21), _] _ _ _
  rw [h.2.1, show (2 : Int32) = nI 2 from rfl, pk_mul]
  refine ev_if rfl (fun h73 => ?_) (fun h73 => ?_)
  · iterate 3 refine ev_go rfl ?_
    refine ev_if rfl (fun h87 => ?_) (fun h87 => ?_)
    · refine ev_go rfl ?_
      refine ev_end rfl ?_
      rfl
    · exact absurd (show M.1 12 14 = lim by rw [hs.s (by decide)]; exact hl) h87
  · exact absurd (nI_lt hc (by omega)) h73
theorem gt_end (hn : n < 4) (hm : m ≤ 24) (h : gs_ A cs m x n M) (h2 : M.1 26 n = nI (2 * m) - 1) (hs : rm_ s M) : ∃ M', gs_ A cs m x n M' ∧ rm_ s M' ∧ fz_ M M' ∧ ∀ R, mj_Ev mj_S0 X mj_P (d + 2) mt_M_goThrough 16 (mj_up (fun j => [mv_p 12, mv_i (nI size), mv_i lim][j]?) 3 (mv_i (nI n + -1))) [] M' 0 R → mj_Ev mj_S0 X mj_P (d + 2) mt_M_goThrough 40 (mj_up (fun j => [mv_p 12, mv_i (nI size), mv_i lim][j]?) 3 (mv_i (nI n))) [] M 0 R := by
  have i5 : mj_in (nI n) 5 := nI_in (by omega) (by decide)
  have j5 : (nI n).toNatClampNeg = n := nI_clamp (by omega)
  refine ⟨mj_st (mj_st M 27 n 0) 26 n (nI (2 * m)), (h.st (by omega)).st (by omega), (hs.sr (by unfold aq_k; omega)).sr (by unfold aq_k; omega), ((fz_.refl M).st (by omega) (by omega)).st (by omega) (by omega), fun R hR => ?_⟩
  iterate 4 refine ev_go rfl ?_
  refine ev_ok ⟨i5, Or.inl rfl⟩ rfl ?_
  rw [j5]
  iterate 6 refine ev_go rfl ?_
  refine ev_ok i5 rfl ?_
  rw [j5]
  iterate 2 refine ev_go rfl ?_
  show mj_Ev _ _ _ _ _ _ _ [mv_i (M.1 26 n + 1), _, _] _ _ _
  rw [h2, Int32.sub_add_cancel]
  refine ev_ok i5 rfl ?_
  rw [j5]
  iterate 3 refine ev_go rfl ?_
  refine ev_ok i5 rfl ?_
  rw [j5, pm_st0]
  iterate 4 refine ev_go rfl ?_
  show mj_Ev _ _ _ _ _ _ _ [mv_i (2 * M.1 12 21), _] _ _ _
  rw [h.2.1, show (2 : Int32) = nI 2 from rfl, pk_mul]
  refine ev_if rfl (fun h73 => ?_) (fun h73 => ?_)
  · exact absurd h73 (nI_nlt (Nat.le_refl _) (by omega))
  · iterate 2 refine ev_go rfl ?_
    refine ev_lo ?_ hR
    exact mj_upo
theorem gt_step (hn : n < 4) (hm : m ≤ 24) (hcs : ∀ i, i < m → cs i < 24 ∧ vs_rw A (cs i)) (hc : c < 2 * m) (h : gs_ A cs m x n M) (h2 : M.1 26 n = nI c - 1) (hs : rm_ s M) (hb : rb_ A s) (hl : ¬ s.1 12 14 = lim) : ∃ M', gs_ A cs m (upN x n c) (n + 1) M' ∧ rm_ (mj_st s 12 14 (s.1 12 14 + 1)) M' ∧ fz_ M M' ∧ ∀ R, mj_Ev mj_S0 X mj_P (d + 2) mt_M_goThrough 120 (mj_up (fun j => [mv_p 12, mv_i (nI size), mv_i lim][j]?) 3 (mv_i (nI n))) [] M' 0 R → mj_Ev mj_S0 X mj_P (d + 2) mt_M_goThrough 40 (mj_up (fun j => [mv_p 12, mv_i (nI size), mv_i lim][j]?) 3 (mv_i (nI n))) [] M 0 R := by
  have i5 : mj_in (nI n) 5 := nI_in (by omega) (by decide)
  have j5 : (nI n).toNatClampNeg = n := nI_clamp (by omega)
  have e14 : M.1 12 14 = s.1 12 14 := hs.s (by decide)
  have gB : gs_ A cs m x n (mj_st (mj_st (mj_st M 27 n 0) 26 n (nI c)) 12 14 (s.1 12 14 + 1)) := ((h.st (by omega)).st (by omega)).st (by omega)
  have sB : rm_ (mj_st s 12 14 (s.1 12 14 + 1)) (mj_st (mj_st (mj_st M 27 n 0) 26 n (nI c)) 12 14 (s.1 12 14 + 1)) := ((hs.sr (by unfold aq_k; omega)).sr (by unfold aq_k; omega)).st _ _ _
  have fB : fz_ M (mj_st (mj_st (mj_st M 27 n 0) 26 n (nI c)) 12 14 (s.1 12 14 + 1)) := (((fz_.refl M).st (by omega) (by omega)).st (by omega) (by omega)).st (by omega) (by omega)
  have bB : rb_ A (mj_st (mj_st (mj_st M 27 n 0) 26 n (nI c)) 12 14 (s.1 12 14 + 1)) := (hb.st (by omega)).trans sB.rb
  have e26 : (mj_st (mj_st (mj_st M 27 n 0) 26 n (nI c)) 12 14 (s.1 12 14 + 1)).1 26 n = nI c := by rw [pm_st1 (by omega), pm_st0]
  obtain ⟨c1, c2⟩ := hcs (c / 2) (by omega)
  obtain ⟨Md, ev, rd, fd⟩ := pm_apply (X := X) (d := d) (x := c) (a := cs (c / 2)) (s := 1) (by omega) (gB.2.2.1 _ (by omega)) c1 c2 bB gB.1
  refine ⟨mj_st Md 27 n 1, ⟨⟨fun z hz => ?_, ?_⟩, ?_, fun i hi => ?_, fun i hi => ?_⟩, (fd.rm sB).sr (by unfold aq_k; omega), (fB.trans fd.fz).st (by omega) (by omega), fun R hR => ?_⟩
  · rw [pm_st1 (by omega), rd.1 z hz]
    unfold aq_df
    show (if A.1 21 z < 0 then 0 else A.1 21 z - (aq_L A cs x n z - aq_sg c * 1 * aq_ad A (cs (c / 2)) (nI z))) = (if A.1 21 z < 0 then 0 else A.1 21 z - (aq_L A cs (upN x n c) n z - aq_sg (upN x n c n) * aq_ad A (cs (upN x n c n / 2)) (nI z)))
    rw [upN_s, aq_L_c (x := upN x n c) (y := x) (fun i hi => upN_n (by omega)), Int32.mul_one]
  · rw [pm_st1 (by omega), rd.2]
    refine aq_nd_c (fun z _ => ?_)
    show aq_L A cs x n z - aq_sg c * 1 * aq_ad A (cs (c / 2)) (nI z) = aq_L A cs (upN x n c) n z - aq_sg (upN x n c n) * aq_ad A (cs (upN x n c n / 2)) (nI z)
    rw [upN_s, aq_L_c (x := upN x n c) (y := x) (fun i hi => upN_n (by omega)), Int32.mul_one]
  · rw [pm_st1 (by omega), fd.2 _ _ (by omega)]
    exact gB.2.1
  · rw [pm_st1 (by omega), fd.2 _ _ (by omega)]
    exact gB.2.2.1 i hi
  · by_cases hin : i = n
    · subst hin
      rw [upN_s, pm_st0, pm_st1 (by omega), fd.2 _ _ (by omega)]
      exact ⟨⟨e26, hc⟩, rfl⟩
    · rw [upN_n hin, pm_st1 (by omega), pm_st1 (by omega), fd.2 _ _ (by omega), fd.2 _ _ (by omega)]
      exact gB.2.2.2 i (by omega)
  · iterate 4 refine ev_go rfl ?_
    refine ev_ok ⟨i5, Or.inl rfl⟩ rfl ?_
    rw [j5]
    iterate 6 refine ev_go rfl ?_
    refine ev_ok i5 rfl ?_
    rw [j5]
    iterate 2 refine ev_go rfl ?_
    show mj_Ev _ _ _ _ _ _ _ [mv_i (M.1 26 n + 1), _, _] _ _ _
    rw [h2, Int32.sub_add_cancel]
    refine ev_ok i5 rfl ?_
    rw [j5]
    iterate 3 refine ev_go rfl ?_
    refine ev_ok i5 rfl ?_
    rw [j5, pm_st0]
    iterate 4 refine ev_go rfl ?_
    show mj_Ev _ _ _ _ _ _ _ [mv_i (2 * M.1 12 21), _] _ _ _
    rw [h.2.1, show (2 : Int32) = nI 2 from rfl, pk_mul]
    refine ev_if rfl (fun h73 => ?_) (fun h73 => ?_)
    · iterate 3 refine ev_go rfl ?_
      rw [show (mj_st (mj_st M 27 n 0) 26 n (nI c)).1 12 14 = s.1 12 14 from e14]
      refine ev_if rfl (fun h87 => ?_) (fun h87 => ?_)
      · exact absurd h87 hl
      · iterate 5 refine ev_go rfl ?_
        show mj_Ev _ _ _ _ _ _ _ [mv_i (M.1 12 14 + 1), _] _ _ _
        rw [e14]
        iterate 5 refine ev_go rfl ?_
        refine ev_ok i5 rfl ?_
        rw [j5, e26]
        refine ev_go rfl ?_
        refine ev_callv rfl rfl rfl ev ?_
        iterate 4 refine ev_go rfl ?_
        refine ev_ok ⟨i5, Or.inr rfl⟩ rfl ?_
        rw [j5]
        exact hR
    · exact absurd (nI_lt hc (by omega)) h73
theorem gt_undo (hn : n < 4) (hm : m ≤ 24) (hcs : ∀ i, i < m → cs i < 24 ∧ vs_rw A (cs i)) (h : gs_ A cs m (upN x n c) (n + 1) M) (hb : rb_ A M) : ∃ M', gs_ A cs m x n M' ∧ M'.1 26 n = nI c ∧ fs_ M M' ∧ ∀ R, mj_Ev mj_S0 X mj_P (d + 2) mt_M_goThrough 40 (mj_up (fun j => [mv_p 12, mv_i (nI size), mv_i lim][j]?) 3 (mv_i (nI n))) [] M' 0 R → mj_Ev mj_S0 X mj_P (d + 2) mt_M_goThrough 16 (mj_up (fun j => [mv_p 12, mv_i (nI size), mv_i lim][j]?) 3 (mv_i (nI n))) [] M 0 R := by
  have i5 : mj_in (nI n) 5 := nI_in (by omega) (by decide)
  have j5 : (nI n).toNatClampNeg = n := nI_clamp (by omega)
  obtain ⟨⟨e26, lc⟩, e27⟩ := h.2.2.2 n (by omega)
  rw [upN_s] at e26 lc
  obtain ⟨c1, c2⟩ := hcs (c / 2) (by omega)
  obtain ⟨Md, ev, rd, fd⟩ := pm_apply (X := X) (d := d) (x := c) (a := cs (c / 2)) (s := -1) (by omega) (h.2.2.1 _ (by omega)) c1 c2 hb h.1
  refine ⟨Md, (h.fs fd (by omega) ?_).cx (fun i hi => upN_n (by omega)), by rw [fd.2 _ _ (by omega)]; exact e26, fd, fun R hR => ?_⟩
  · refine rd.congr (fun z _ => ?_)
    show aq_L A cs (upN x n c) n z - aq_sg (upN x n c n) * aq_ad A (cs (upN x n c n / 2)) (nI z) - aq_sg c * -1 * aq_ad A (cs (c / 2)) (nI z) = aq_L A cs (upN x n c) n z
    rw [upN_s]
    grind
  · refine ev_go rfl ?_
    refine ev_if rfl (fun h17 => ?_) (fun h17 => ?_)
    · exact absurd h17 (nI_pos (by omega))
    · iterate 3 refine ev_go rfl ?_
      refine ev_ok i5 rfl ?_
      rw [j5, e27]
      iterate 5 refine ev_go rfl ?_
      refine ev_ok i5 rfl ?_
      rw [j5, e26]
      refine ev_go rfl ?_
      refine ev_callv rfl rfl rfl ev ?_
      exact hR
theorem gt_down (hn : n + 1 < size) (hz : size ≤ 4) (hm : m ≤ 24) (h : gs_ A cs m (upN x n c) (n + 1) M) (hs : rm_ s M) : ∃ M', gs_ A cs m (upN x n c) (n + 1) M' ∧ M'.1 26 (n + 1) = nI ((c / 2 + 1) * 2) - 1 ∧ rm_ s M' ∧ fz_ M M' ∧ ∀ R, mj_Ev mj_S0 X mj_P (d + 2) mt_M_goThrough 40 (mj_up (fun j => [mv_p 12, mv_i (nI size), mv_i lim][j]?) 3 (mv_i (nI (n + 1)))) [] M' 0 R → mj_Ev mj_S0 X mj_P (d + 2) mt_M_goThrough 120 (mj_up (fun j => [mv_p 12, mv_i (nI size), mv_i lim][j]?) 3 (mv_i (nI n))) [] M 0 R := by
  have i5 : mj_in (nI (n + 1)) 5 := nI_in (by omega) (by decide)
  have j5 : (nI (n + 1)).toNatClampNeg = n + 1 := nI_clamp (by omega)
  have i4 : mj_in (nI n) 5 := nI_in (by omega) (by decide)
  have j4 : (nI n).toNatClampNeg = n := nI_clamp (by omega)
  obtain ⟨⟨e26, lc⟩, e27⟩ := h.2.2.2 n (by omega)
  rw [upN_s] at e26 lc
  have ev : nI c / 2 * 2 + 1 = nI (c / 2 * 2 + 1) := by
    rw [show (2 : Int32) = nI 2 from rfl, pk_div (by omega) (by decide) (by decide), pk_mul, nI_1]
  refine ⟨mj_st (mj_st M 27 (n + 1) 0) 26 (n + 1) (nI (c / 2 * 2 + 1)), (h.st (by omega)).st (by omega), ?_, (hs.sr (by unfold aq_k; omega)).sr (by unfold aq_k; omega), ((fz_.refl M).st (by omega) (by omega)).st (by omega) (by omega), fun R hR => ?_⟩
  · rw [pm_st0, show (c / 2 + 1) * 2 = (c / 2 * 2 + 1) + 1 by omega, nI_pred]
  · iterate 4 refine ev_go rfl ?_
    show mj_Ev _ _ _ _ _ _ _ [_, mv_i (nI n + 1)] _ _ _
    rw [nI_1]
    refine ev_if rfl (fun h124 => ?_) (fun h124 => ?_)
    · exact absurd h124 (nI_ge (by omega) (by omega))
    · refine ev_go rfl ?_
      rw [nI_1]
      iterate 4 refine ev_go rfl ?_
      refine ev_ok ⟨i5, Or.inl rfl⟩ rfl ?_
      rw [j5]
      iterate 8 refine ev_go rfl ?_
      show mj_Ev _ _ _ _ _ _ _ [mv_i (nI (n + 1) - 1), _, _, _] _ _ _
      rw [nI_pred]
      refine ev_ok i4 rfl ?_
      rw [j4, show (mj_st M 27 (n + 1) 0).1 26 n = nI c from e26]
      iterate 6 refine ev_go rfl ?_
      show mj_Ev _ _ _ _ _ _ _ [mv_i (nI c / 2 * 2 + 1), _, _] _ _ _
      rw [ev]
      refine ev_ok i5 rfl ?_
      rw [j5]
      iterate 2 refine ev_go rfl ?_
      refine ev_if rfl (fun h17 => ?_) (fun h17 => ?_)
      · exact absurd h17 (nI_pos (by omega))
      · iterate 3 refine ev_go rfl ?_
        refine ev_ok i5 rfl ?_
        rw [j5, pm_st1 (by omega), pm_st0]
        refine ev_go rfl ?_
        rw [mj_upo]
        exact hR
theorem gt_leaf (hn : n + 1 = size) (hz : size ≤ 4) (hm : m ≤ 24) (hcs : ∀ i, i < m → cs i < 24 ∧ vs_rw A (cs i)) (h : gs_ A cs m x (n + 1) M) (hs : rm_ s M) : ∃ M', gs_ A cs m x (n + 1) M' ∧ rm_ (if aq_nd A (aq_L A cs x (n + 1)) = 0 then no_ cs x (n + 1) s else s) M' ∧ fz_ M M' ∧ ∀ R, mj_Ev mj_S0 X mj_P (d + 2) mt_M_goThrough 16 (mj_up (fun j => [mv_p 12, mv_i (nI size), mv_i lim][j]?) 3 (mv_i (nI n))) [] M' 0 R → mj_Ev mj_S0 X mj_P (d + 2) mt_M_goThrough 120 (mj_up (fun j => [mv_p 12, mv_i (nI size), mv_i lim][j]?) 3 (mv_i (nI n))) [] M 0 R := by
  subst hn
  have e20 := h.1.2
  by_cases hw : aq_nd A (aq_L A cs x (n + 1)) = 0
  · refine ⟨no_ cs x (n + 1) M, ?_, ?_, ?_, fun R hR => ?_⟩
    · obtain ⟨⟨a1, a2⟩, a3, a4, a5⟩ := h
      refine ⟨⟨fun z hz => ?_, ?_⟩, ?_, fun i hi => ?_, fun i hi => ⟨⟨?_, (a5 i hi).1.2⟩, ?_⟩⟩
      · rw [no_q (by omega) (by omega) (by omega)]; exact a1 z hz
      · rw [no_q (by omega) (by omega) (by omega)]; exact a2
      · rw [no_q (by omega) (by omega) (by omega)]; exact a3
      · rw [no_q (by omega) (by omega) (by omega)]; exact a4 i hi
      · rw [no_q (by omega) (by omega) (by omega)]; exact (a5 i hi).1.1
      · rw [no_q (by omega) (by omega) (by omega)]; exact (a5 i hi).2
    · rw [if_pos hw]
      exact no_rm hs
    · exact ⟨⟨no_2, fun q j hq => no_q (by omega) (by omega) (by omega)⟩, no_q (by omega) (by omega) (by omega)⟩
    · iterate 4 refine ev_go rfl ?_
      show mj_Ev _ _ _ _ _ _ _ [_, mv_i (nI n + 1)] _ _ _
      rw [nI_1]
      refine ev_if rfl (fun h124 => ?_) (fun h124 => ?_)
      · iterate 2 refine ev_go rfl ?_
        refine ev_if rfl (fun h164 => ?_) (fun h164 => ?_)
        · iterate 2 refine ev_go rfl ?_
          refine ev_callv rfl rfl rfl (pm_foundOne (cs := cs) (x := x) (m := m) (by omega) hm (fun i hi => ⟨h.2.2.1 i hi, (hcs i hi).1⟩) (fun i hi => (h.2.2.2 i hi).1)) ?_
          refine ev_go rfl ?_
          first
            | exact absurd (e20.trans hw) h164
            | exact hR
        · first
            | exact absurd (e20.trans hw) h164
            | exact hR
      · exact absurd (Int32.le_refl _) h124
  · refine ⟨M, h, by rw [if_neg hw]; exact hs, fz_.refl M, fun R hR => ?_⟩
    iterate 4 refine ev_go rfl ?_
    show mj_Ev _ _ _ _ _ _ _ [_, mv_i (nI n + 1)] _ _ _
    rw [nI_1]
    refine ev_if rfl (fun h124 => ?_) (fun h124 => ?_)
    · iterate 2 refine ev_go rfl ?_
      refine ev_if rfl (fun h164 => ?_) (fun h164 => ?_)
      · exact absurd (e20.symm.trans h164) hw
      · exact hR
    · exact absurd (Int32.le_refl _) h124
end
