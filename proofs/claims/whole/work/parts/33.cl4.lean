/-! the class's seeker: begin, gather, note -/
theorem sc_s {M : mj_M} {q : Nat} {f : Nat → Int32} {j : Nat} : (mj_sc M q f).1 q j = f j := by simp [mj_sc]
theorem sc_n {M : mj_M} {q q' : Nat} {f : Nat → Int32} {j : Nat} (h : q' ≠ q) : (mj_sc M q f).1 q' j = M.1 q' j := by simp [mj_sc, h]
def zf_ (M : mj_M) : Nat → mj_M
  | 0 => M
  | k + 1 => mj_st (zf_ M k) 11 k 0
theorem zf_q {M : mj_M} {q : Nat} (h : q ≠ 11) (j : Nat) : ∀ k, (zf_ M k).1 q j = M.1 q j
  | 0 => rfl
  | k + 1 => by
    show (mj_st (zf_ M k) 11 k 0).1 q j = _
    rw [pm_st1 (Or.inl h)]
    exact zf_q h j k
theorem zf_in {M : mj_M} {a : Nat} : ∀ {k : Nat}, a < k → (zf_ M k).1 11 a = 0
  | 0, h => absurd h (Nat.not_lt_zero _)
  | k + 1, h => by
    show (mj_st (zf_ M k) 11 k 0).1 11 a = _
    by_cases hk : a = k
    · rw [hk, pm_st0]
    · rw [pm_st1 (Or.inr hk)]
      exact zf_in (by omega)
theorem zf_2 {M : mj_M} : ∀ k, (zf_ M k).2 = M.2
  | 0 => rfl
  | k + 1 => zf_2 k
section
variable {X : Nat × (Nat → Int32)} {d : Nat} {M A s : mj_M} {L : Nat → Int32}
theorem pj_fill_l : ∀ j k, k + j = 24 → mj_Ev mj_S0 X mj_P d mt_J_fill 5 (mj_up (mj_up (fun j => [mv_p 11, mv_i 0][j]?) 3 (mv_i (nI 24))) 2 (mv_i (nI k))) [] (zf_ M k) 0 (mv_V (zf_ M 24)) := by
  intro j
  induction j with
  | zero =>
    intro k hk
    have e : k = 24 := by omega
    subst e
    iterate 3 refine ev_go rfl ?_
    refine ev_end rfl ?_
    rfl
  | succ j ih =>
    intro k hk
    iterate 2 refine ev_go rfl ?_
    refine ev_if rfl (fun h7 => ?_) (fun h7 => ?_)
    · exact absurd h7 (nI_ge (by omega) (by omega))
    · iterate 3 refine ev_go rfl ?_
      refine ev_ok (nI_in (show k < 24 by omega) (by decide)) rfl ?_
      rw [nI_clamp (by omega)]
      iterate 2 refine ev_go rfl ?_
      refine ev_lo ?_ (ih (k + 1) (by omega))
      rw [nI_1]
      exact mj_upo
theorem pj_fill : mj_C0 X d mt_J_fill [mv_p 11, mv_i 0] M (mv_V (zf_ M 24)) := by
  iterate 5 refine ev_go rfl ?_
  refine ev_lo ?_ (pj_fill_l 24 0 (by omega))
  exact mj_upc (i := 2) (j := 3) (by decide)
def bz_ (M : mj_M) (l : Int32) : mj_M := mj_st (mj_st (mj_st (mj_st (mj_st M 2 8 l) 2 9 0) 2 10 0) 2 11 0) 2 12 1
def pm_bg (M : mj_M) (l : Int32) : mj_M := zf_ (bz_ M l) 24
theorem pk_begin {l : Int32} : mj_C0 X (d + 1) mt_K_begin [mv_p 2, mv_i l] M (mv_V (pm_bg M l)) := by
  iterate 18 refine ev_go rfl ?_
  refine ev_callv rfl rfl rfl (pj_fill (M := bz_ M l)) ?_
  refine ev_end rfl ?_
  rfl
theorem bg_q {l : Int32} {q j : Nat} (h : q ≠ 11 ∧ (q ≠ 2 ∨ j < 8)) : (pm_bg M l).1 q j = M.1 q j := by
  unfold pm_bg
  rw [zf_q h.1]
  unfold bz_
  rw [pm_st1 (by omega), pm_st1 (by omega), pm_st1 (by omega), pm_st1 (by omega), pm_st1 (by omega)]
theorem ob_q {q j : Nat} (h : q ≠ 22 ∧ (q ≠ 12 ∨ (j ≠ 17 ∧ j ≠ 15 ∧ j ≠ 14 ∧ j ≠ 13))) : (ob_ A).1 q j = A.1 q j := by
  unfold ob_
  rw [zr_q h.1]
  unfold oz_
  rw [pm_st1 (by omega), pm_st1 (by omega), pm_st1 (by omega), pm_st1 (by omega)]
theorem ob_s : (ob_ A).1 12 17 = 0 ∧ (ob_ A).1 12 15 = 0 ∧ (ob_ A).1 12 14 = 0 ∧ (ob_ A).1 12 13 = 1 := by
  unfold ob_
  rw [zr_q (by decide), zr_q (by decide), zr_q (by decide), zr_q (by decide)]
  unfold oz_
  refine ⟨?_, ?_, ?_, ?_⟩
  · rw [pm_st1 (by omega), pm_st1 (by omega), pm_st1 (by omega), pm_st0]
  · rw [pm_st1 (by omega), pm_st1 (by omega), pm_st0]
  · rw [pm_st1 (by omega), pm_st0]
  · rw [pm_st0]
theorem bg_s {l : Int32} : (pm_bg M l).1 2 8 = l ∧ (pm_bg M l).1 2 9 = 0 ∧ (pm_bg M l).1 2 10 = 0 ∧ (pm_bg M l).1 2 11 = 0 ∧ (pm_bg M l).1 2 12 = 1 := by
  unfold pm_bg
  rw [zf_q (by decide), zf_q (by decide), zf_q (by decide), zf_q (by decide), zf_q (by decide)]
  unfold bz_
  refine ⟨?_, ?_, ?_, ?_, ?_⟩
  · rw [pm_st1 (by omega), pm_st1 (by omega), pm_st1 (by omega), pm_st1 (by omega), pm_st0]
  · rw [pm_st1 (by omega), pm_st1 (by omega), pm_st1 (by omega), pm_st0]
  · rw [pm_st1 (by omega), pm_st1 (by omega), pm_st0]
  · rw [pm_st1 (by omega), pm_st0]
  · rw [pm_st0]
theorem rc_bg {l : Int32} (h : rc_ A M) : rc_b A (pm_bg M l) ∧ rc_L A (aq_E A) (pm_bg M l) ∧ rc_s (ob_ A) (pm_bg M l) := by
  obtain ⟨hb, hL, hs, hf⟩ := h
  have hp : ∀ a, pr_ a = 30 + a := pr_e
  obtain ⟨o1, o2, o3, o4⟩ := ob_s (A := A)
  obtain ⟨b1, b2, b3, b4, b5⟩ := bg_s (M := M) (l := l)
  refine ⟨⟨fun a ha j hj => ?_, fun c hc => ?_, ?_, ?_, ?_⟩, ⟨fun c hc => ?_, ?_⟩, ⟨b2.trans o3.symm, b3.trans o2.symm, b4.trans o1.symm, fun a ha => ?_, fun i hi => ?_⟩⟩
  · rw [bg_q (by rw [hp]; omega)]; exact hb.1 a ha j hj
  · rw [bg_q (by omega)]; exact hb.2.1 c hc
  · rw [bg_q (by omega)]; exact hb.2.2.1
  · rw [bg_q (by omega)]; exact hb.2.2.2.1
  · rw [bg_q (by omega)]; exact hb.2.2.2.2
  · rw [bg_q (by omega)]; exact hL.1 c hc
  · rw [bg_q (by omega)]; exact hL.2
  · unfold pm_bg ob_
    rw [zf_in ha, zr_in ha]
  · rw [o1] at hi
    exact absurd hi (Nat.not_lt_zero _)
/-- acts are gathered -/
def gq_ (A M0 : mj_M) (k : Nat) (M : mj_M) : Prop := M.1 2 6 = nI (ct (aq_cf A) k) ∧ (∀ i, i < ct (aq_cf A) k → M.1 6 i = nI (cl_ (aq_cf A) k i)) ∧ (∀ q j, ¬ (q = 6 ∨ (q = 2 ∧ j = 6)) → M.1 q j = M0.1 q j)
theorem gq_b {M0 : mj_M} {k : Nat} (h : gq_ A M0 k M) (hb : rc_b A M0) : rc_b A M := by
  have hp : ∀ a, pr_ a = 30 + a := pr_e
  refine ⟨fun a ha j hj => ?_, fun c hc => ?_, ?_, ?_, ?_⟩
  · rw [h.2.2 _ _ (by rw [hp]; omega)]; exact hb.1 a ha j hj
  · rw [h.2.2 _ _ (by omega)]; exact hb.2.1 c hc
  · rw [h.2.2 _ _ (by omega)]; exact hb.2.2.1
  · rw [h.2.2 _ _ (by omega)]; exact hb.2.2.2.1
  · rw [h.2.2 _ _ (by omega)]; exact hb.2.2.2.2
theorem pk_gather_l {M0 : mj_M} (hv : vs_A A) (hb : rc_b A M0) : ∀ j k M, k + j = aq_n A → gq_ A M0 k M → ∃ M', mj_Ev mj_S0 X mj_P (d + 3) mt_K_gatherChoices 7 (mj_up (fun j => [mv_p 2, mv_p 1][j]?) 2 (mv_i (nI k))) [] M 0 (mv_V M') ∧ gq_ A M0 (aq_n A) M' := by
  have hl := hv.1.2
  intro j
  induction j with
  | zero =>
    intro k M hk h
    have e : k = aq_n A := by omega
    subst e
    have n1 : M.1 1 3 = nI (aq_n A) := (gq_b h hb).2.2.1.trans hv.1.1
    refine ⟨M, ?_, h⟩
    iterate 3 refine ev_go rfl ?_
    refine ev_if rfl (fun h12 => ?_) (fun h12 => ?_)
    · refine ev_end rfl ?_
      rfl
    · exact absurd (show M.1 1 3 ≤ nI (aq_n A) by rw [n1]; exact Int32.le_refl _) h12
  | succ j ih =>
    intro k M hk h
    have hbM := gq_b h hb
    have n1 : M.1 1 3 = nI (aq_n A) := hbM.2.2.1.trans hv.1.1
    obtain ⟨h1, h2, h3⟩ := h
    have lc := ct_le (aq_cf A) k
    have kn : k < aq_n A := by omega
    have ef : aq_cf A k = aq_ca A k := if_pos kn
    by_cases hf : aq_cf A k = 0
    · obtain ⟨M', e1, e2⟩ := ih (k + 1) M (by omega) ⟨by rw [ct_0 hf]; exact h1, fun i hi => by rw [ct_0 hf] at hi; rw [cl_0 hf]; exact h2 i hi, h3⟩
      refine ⟨M', ?_, e2⟩
      iterate 3 refine ev_go rfl ?_
      refine ev_if rfl (fun h12 => ?_) (fun h12 => ?_)
      · exact absurd h12 (by rw [n1]; exact nI_ge (by omega) (by omega))
      · iterate 2 refine ev_go rfl ?_
        refine ev_callr rfl rfl rfl (pl_isCandidate (by omega) (hv.2.1 k kn) hbM hv.2.2.2.2.2.1) ?_
        refine ev_if rfl (fun h20 => ?_) (fun h20 => ?_)
        · iterate 2 refine ev_go rfl ?_
          refine ev_lo ?_ e1
          rw [nI_1]
          exact mj_upo
        · exact absurd (ef.symm.trans hf) h20
    · have i25 : mj_in (nI (ct (aq_cf A) k)) 24 := nI_in (by omega) (by decide)
      have j25 : (nI (ct (aq_cf A) k)).toNatClampNeg = ct (aq_cf A) k := nI_clamp (by omega)
      obtain ⟨M', e1, e2⟩ := ih (k + 1) (mj_st (mj_st M 6 (ct (aq_cf A) k) (nI k)) 2 6 (nI (ct (aq_cf A) k + 1))) (by omega) ⟨by rw [pm_st0, ct_1 hf], fun i hi => by
          rw [pm_st1 (by omega), cl_1 hf]
          rw [ct_1 hf] at hi
          by_cases hic : i = ct (aq_cf A) k
          · rw [hic, pm_st0, upN_s]
          · rw [pm_st1 (by omega), upN_n hic]
            exact h2 i (by omega), fun q j hq => by rw [pm_st1 (by omega), pm_st1 (by omega)]; exact h3 q j hq⟩
      refine ⟨M', ?_, e2⟩
      iterate 3 refine ev_go rfl ?_
      refine ev_if rfl (fun h12 => ?_) (fun h12 => ?_)
      · exact absurd h12 (by rw [n1]; exact nI_ge (by omega) (by omega))
      · iterate 2 refine ev_go rfl ?_
        refine ev_callr rfl rfl rfl (pl_isCandidate (by omega) (hv.2.1 k kn) hbM hv.2.2.2.2.2.1) ?_
        refine ev_if rfl (fun h20 => ?_) (fun h20 => ?_)
        · first
            | exact absurd (ef.trans h20) hf
            | (refine ev_go rfl ?_
               refine ev_go rfl ?_
               refine ev_lo ?_ e1
               rw [nI_1]
               exact mj_upo)
        · iterate 4 refine ev_go rfl ?_
          rw [h1]
          refine ev_go rfl ?_
          refine ev_ok i25 rfl ?_
          rw [j25]
          iterate 5 refine ev_go rfl ?_
          show mj_Ev _ _ _ _ _ _ _ [mv_i (M.1 2 6 + 1), _] _ _ _
          rw [h1, nI_1]
          refine ev_go rfl ?_
          first
            | exact absurd (ef.trans h20) hf
            | (refine ev_go rfl ?_
               refine ev_go rfl ?_
               refine ev_lo ?_ e1
               rw [nI_1]
               exact mj_upo)
theorem pk_gather (hv : vs_A A) (hb : rc_b A M) : ∃ M', mj_C0 X (d + 3) mt_K_gatherChoices [mv_p 2, mv_p 1] M (mv_V M') ∧ M'.1 2 6 = nI (aq_m A) ∧ (∀ i, i < aq_m A → M'.1 6 i = nI (aq_cs A i)) ∧ (∀ q j, ¬ (q = 6 ∨ (q = 2 ∧ j = 6)) → M'.1 q j = M.1 q j) := by
  have b0 : rc_b A (mj_st M 2 6 0) := by
    have hp : ∀ a, pr_ a = 30 + a := pr_e
    refine ⟨fun a ha j hj => ?_, fun c hc => ?_, ?_, ?_, ?_⟩
    · rw [pm_st1 (by rw [hp]; omega)]; exact hb.1 a ha j hj
    · rw [pm_st1 (by omega)]; exact hb.2.1 c hc
    · rw [pm_st1 (by omega)]; exact hb.2.2.1
    · rw [pm_st1 (by omega)]; exact hb.2.2.2.1
    · rw [pm_st1 (by omega)]; exact hb.2.2.2.2
  obtain ⟨M', e1, e2, e3, e4⟩ := pk_gather_l (X := X) (d := d) hv b0 (aq_n A) 0 (mj_st M 2 6 0) (by omega) ⟨pm_st0, fun i hi => absurd hi (Nat.not_lt_zero _), fun _ _ _ => rfl⟩
  obtain ⟨s1, s2⟩ := cl_st (f := aq_cf A) (n := aq_n A) (fun k hk => aq_cf0 hk) (24 - aq_n A)
  rw [show aq_n A + (24 - aq_n A) = 24 by have := hv.1.2; omega] at s1 s2
  have t1 : aq_m A = ct (aq_cf A) (aq_n A) := s1
  have t2 : aq_cs A = cl_ (aq_cf A) (aq_n A) := s2
  refine ⟨M', ?_, by rw [t1]; exact e2, fun i hi => by rw [t1] at hi; rw [t2]; exact e3 i hi, fun q j hq => by rw [e4 q j hq, pm_st1 (by omega)]⟩
  iterate 5 refine ev_go rfl ?_
  exact e1
/-- uses are counted up -/
def un_ (cs x : Nat → Nat) (M : mj_M) : Nat → mj_M
  | 0 => M
  | k + 1 => mj_st (un_ cs x M k) 11 (cs (x k / 2)) ((un_ cs x M k).1 11 (cs (x k / 2)) + 1)
theorem un_q {cs x : Nat → Nat} {q : Nat} (h : q ≠ 11) (j : Nat) : ∀ k, (un_ cs x M k).1 q j = M.1 q j
  | 0 => rfl
  | k + 1 => by
    show (mj_st (un_ cs x M k) 11 _ _).1 q j = _
    rw [pm_st1 (Or.inl h)]
    exact un_q h j k
theorem nt_22 {cs x : Nat → Nat} {k : Nat} (a : Nat) : (nt_ cs x s (k + 1)).1 22 a = (mj_st (nt_ cs x s k) 22 (cs (x k / 2)) ((nt_ cs x s k).1 22 (cs (x k / 2)) + 1)).1 22 a := by
  by_cases h : s.1 12 15 = 1
  · rw [nt_pos h, pm_st1 (by omega)]
  · rw [nt_neg h]
theorem un_nt {cs x : Nat → Nat} {n : Nat} (hx : ∀ k, k < n → cs (x k / 2) < 24) (h : ∀ a, a < 24 → M.1 11 a = s.1 22 a) : ∀ k, k ≤ n → ∀ a, a < 24 → (un_ cs x M k).1 11 a = (nt_ cs x s k).1 22 a
  | 0, _, a, ha => h a ha
  | k + 1, hk, a, ha => by
    have ih := un_nt hx h k (by omega)
    rw [nt_22]
    show (mj_st (un_ cs x M k) 11 (cs (x k / 2)) ((un_ cs x M k).1 11 (cs (x k / 2)) + 1)).1 11 a = _
    by_cases q : a = cs (x k / 2)
    · rw [q, pm_st0, pm_st0, ih _ (hx k (by omega))]
    · rw [pm_st1 (Or.inr q), pm_st1 (Or.inr q), ih a ha]
theorem pk_note_l {cs x : Nat → Nat} {n : Nat} (hn : n ≤ 4) (h7 : M.1 2 7 = nI n) (hw : ∀ i, i < n → M.1 7 i = nI (cs (x i / 2)) ∧ cs (x i / 2) < 24) : ∀ j k, k + j = n → mj_Ev mj_S0 X mj_P d mt_K_note 61 (mj_up (fun j => [mv_p 2][j]?) 1 (mv_i (nI k))) [] (un_ cs x M k) 0 (mv_V (un_ cs x M n)) := by
  have e7 : ∀ k, (un_ cs x M k).1 2 7 = nI n := fun k => by rw [un_q (by decide)]; exact h7
  intro j
  induction j with
  | zero =>
    intro k hk
    have e : k = n := by omega
    subst e
    iterate 3 refine ev_go rfl ?_
    refine ev_if rfl (fun h66 => ?_) (fun h66 => ?_)
    · refine ev_end rfl ?_
      rfl
    · exact absurd (show (un_ cs x M k).1 2 7 ≤ nI k by rw [e7]; exact Int32.le_refl _) h66
  | succ j ih =>
    intro k hk
    obtain ⟨w1, w2⟩ := hw k (by omega)
    have e70 : (un_ cs x M k).1 7 k = nI (cs (x k / 2)) := by rw [un_q (by decide)]; exact w1
    iterate 3 refine ev_go rfl ?_
    refine ev_if rfl (fun h66 => ?_) (fun h66 => ?_)
    · exact absurd h66 (by rw [e7]; exact nI_ge (by omega) (by omega))
    · iterate 5 refine ev_go rfl ?_
      refine ev_ok (nI_in (show k < 4 by omega) (by decide)) rfl ?_
      rw [nI_clamp (by omega), e70]
      refine ev_go rfl ?_
      refine ev_ok (nI_in w2 (by decide)) rfl ?_
      rw [nI_clamp (by omega)]
      iterate 2 refine ev_go rfl ?_
      refine ev_ok (nI_in w2 (by decide)) rfl ?_
      rw [nI_clamp (by omega)]
      iterate 2 refine ev_go rfl ?_
      refine ev_lo ?_ (ih (k + 1) (by omega))
      rw [nI_1]
      exact mj_upo
theorem nt_23n {cs x : Nat → Nat} (h : ¬ s.1 12 15 = 1) (i : Nat) : ∀ k, (nt_ cs x s k).1 23 i = s.1 23 i
  | 0 => rfl
  | k + 1 => by
    rw [nt_neg h, pm_st1 (by omega)]
    exact nt_23n h i k
theorem nt_23p {cs x : Nat → Nat} (h : s.1 12 15 = 1) {i : Nat} : ∀ {k : Nat}, i < k → (nt_ cs x s k).1 23 i = 2 * nI (cs (x i / 2)) + nI (x i % 2)
  | 0, hk => absurd hk (Nat.not_lt_zero _)
  | k + 1, hk => by
    rw [nt_pos h]
    by_cases q : i = k
    · rw [q, pm_st0]
    · rw [pm_st1 (by omega), pm_st1 (by omega)]
      exact nt_23p h (by omega)
/-- the class notes an explanation -/
theorem pk_note {cs x : Nat → Nat} {n : Nat} (hn : n ≤ 4) (h7 : M.1 2 7 = nI n) (hw : ∀ i, i < n → M.1 7 i = nI (cs (x i / 2)) ∧ cs (x i / 2) < 24) (hc : ∀ i, i < n → M.1 8 i = nI (x i % 2)) (hs : rc_s s M) : ∃ M', mj_C0 X d mt_K_note [mv_p 2] M (mv_V M') ∧ rc_s (no_ cs x n s) M' ∧ (∀ q j, ¬ ((9 ≤ q ∧ q ≤ 11) ∨ (q = 2 ∧ (j = 10 ∨ j = 11))) → M'.1 q j = M.1 q j) := by
  have h7c : (M.1 2 7).toNatClampNeg = n := by rw [h7]; exact nI_clamp (by omega)
  obtain ⟨s1, s2, s3, s4, s5⟩ := hs
  by_cases h0 : M.1 2 10 = 0
  · have f1 : (mj_st s 12 15 (s.1 12 15 + 1)).1 12 15 = 1 := by rw [pm_st0, ← s2, h0]; rfl
    have en : no_ cs x n s = mj_st (nt_ cs x (mj_st s 12 15 (s.1 12 15 + 1)) n) 12 17 (nI n) := if_pos f1
    have a9 : ∀ j, j < n → va_cpy (M.1 7) (M.1 9) 0 0 n j = M.1 7 j := fun j hj => by rw [pk_cpy_in (by omega) (by omega), Nat.zero_add, Nat.sub_zero]
    have a10 : ∀ j, j < n → va_cpy (M.1 8) (M.1 10) 0 0 n j = M.1 8 j := fun j hj => by rw [pk_cpy_in (by omega) (by omega), Nat.zero_add, Nat.sub_zero]
    obtain ⟨N, hN⟩ : ∃ N : mj_M, N = mj_st (mj_st (mj_sc (mj_sc M 9 (va_cpy (M.1 7) (M.1 9) 0 0 n)) 10 (va_cpy (M.1 8) (M.1 10) 0 0 n)) 2 11 (nI n)) 2 10 (M.1 2 10 + 1) := ⟨_, rfl⟩
    have qN : ∀ q j, q ≠ 9 → q ≠ 10 → (q ≠ 2 ∨ (j ≠ 10 ∧ j ≠ 11)) → N.1 q j = M.1 q j := fun q j u1 u2 u3 => by
      rw [hN, pm_st1 (by omega), pm_st1 (by omega), sc_n u2, sc_n u1]
    have key := pk_note_l (X := X) (d := d) (M := N) (cs := cs) (x := x) hn (by rw [qN _ _ (by omega) (by omega) (by omega)]; exact h7) (fun i hi => by rw [qN _ _ (by omega) (by omega) (by omega)]; exact hw i hi) n 0 (by omega)
    refine ⟨un_ cs x N n, ?_, ⟨?_, ?_, ?_, fun a ha => ?_, fun i hi => ?_⟩, fun q j hq => ?_⟩
    · have b1 : ¬ M.1 2 7 < 0 := by rw [h7]; exact nI_pos (by omega)
      iterate 2 refine ev_go rfl ?_
      refine ev_if rfl (fun h4 => ?_) (fun h4 => ?_)
      · iterate 8 refine ev_go rfl ?_
        refine ev_ok ⟨⟨by decide, by decide, b1, by decide⟩, by rw [h7c]; exact ⟨by show 0 + n ≤ 4; omega, by show 0 + n ≤ 4; omega⟩⟩ rfl ?_
        rw [h7c]
        iterate 8 refine ev_go rfl ?_
        refine ev_ok ⟨⟨by decide, by decide, b1, by decide⟩, by show 0 + (M.1 2 7).toNatClampNeg ≤ 4 ∧ 0 + (M.1 2 7).toNatClampNeg ≤ 4; rw [h7c]; exact ⟨by omega, by omega⟩⟩ rfl ?_
        show mj_Ev _ _ _ _ _ _ _ _ (mj_sc (mj_sc M 9 (va_cpy (M.1 7) (M.1 9) 0 0 n)) 10 (va_cpy (M.1 8) (M.1 10) 0 0 (M.1 2 7).toNatClampNeg)) _ _
        rw [h7c]
        iterate 3 refine ev_go rfl ?_
        show mj_Ev _ _ _ _ _ _ _ [mv_i (M.1 2 7), _] _ _ _
        rw [h7]
        refine ev_go rfl ?_
        first
          | exact absurd h0 h4
          | (iterate 8 refine ev_go rfl ?_
             subst hN
             exact key)
      · first
          | exact absurd h0 h4
          | (iterate 8 refine ev_go rfl ?_
             subst hN
             exact key)
    · rw [un_q (by decide), qN _ _ (by omega) (by omega) (by omega), no_q (by omega) (by omega) (by omega)]
      exact s1
    · rw [un_q (by decide), en, pm_st1 (by omega), nt_q (by decide) (by decide), pm_st0, hN, pm_st0, s2]
    · rw [un_q (by decide), en, pm_st0, hN, pm_st1 (by omega), pm_st0]
    · rw [en, pm_st1 (by omega)]
      exact un_nt (fun k hk => (hw k hk).2) (fun a ha => by rw [qN _ _ (by omega) (by omega) (by omega), pm_st1 (by omega)]; exact s4 a ha) n (Nat.le_refl _) a ha
    · rw [en, pm_st0, nI_clamp (by omega)] at hi
      refine ⟨cs (x i / 2), x i % 2, (hw i hi).2, by omega, ?_, ?_, ?_⟩
      · rw [un_q (by decide), hN, pm_st1 (by omega), pm_st1 (by omega), sc_n (by decide), sc_s, a9 i hi]
        exact (hw i hi).1
      · rw [un_q (by decide), hN, pm_st1 (by omega), pm_st1 (by omega), sc_s, a10 i hi]
        exact hc i hi
      · rw [en, pm_st1 (by omega), nt_23p f1 hi, show (2 : Int32) = nI 2 from rfl, pk_mul, nI_add]
    · rw [un_q (by omega), qN _ _ (by omega) (by omega) (by omega)]
  · have f1 : ¬ (mj_st s 12 15 (s.1 12 15 + 1)).1 12 15 = 1 := by
      rw [pm_st0, ← s2]
      grind
    have en : no_ cs x n s = nt_ cs x (mj_st s 12 15 (s.1 12 15 + 1)) n := if_neg f1
    have key := pk_note_l (X := X) (d := d) (M := mj_st M 2 10 (M.1 2 10 + 1)) (cs := cs) (x := x) hn (by rw [pm_st1 (by omega)]; exact h7) (fun i hi => by rw [pm_st1 (by omega)]; exact hw i hi) n 0 (by omega)
    refine ⟨un_ cs x (mj_st M 2 10 (M.1 2 10 + 1)) n, ?_, ⟨?_, ?_, ?_, fun a ha => ?_, fun i hi => ?_⟩, fun q j hq => ?_⟩
    · iterate 2 refine ev_go rfl ?_
      refine ev_if rfl (fun h4 => ?_) (fun h4 => ?_)
      · exact absurd h4 h0
      · iterate 8 refine ev_go rfl ?_
        exact key
    · rw [un_q (by decide), pm_st1 (by omega), no_q (by omega) (by omega) (by omega)]
      exact s1
    · rw [un_q (by decide), en, nt_q (by decide) (by decide), pm_st0, pm_st0, s2]
    · rw [un_q (by decide), pm_st1 (by omega), en, nt_q (by decide) (by decide), pm_st1 (by omega)]
      exact s3
    · rw [en]
      exact un_nt (fun k hk => (hw k hk).2) (fun a ha => by rw [pm_st1 (by omega), pm_st1 (by omega)]; exact s4 a ha) n (Nat.le_refl _) a ha
    · rw [en, nt_q (by decide) (by decide), pm_st1 (by omega)] at hi
      rw [en, nt_23n f1, pm_st1 (by omega), un_q (by decide), un_q (by decide), pm_st1 (by omega), pm_st1 (by omega)]
      exact s5 i hi
    · rw [un_q (by omega), pm_st1 (by omega)]
end
