/-! the class's own calls: the rest -/
theorem vs_ch {A : mj_M} (hv : vs_A A) : ∃ m, m ≤ 4 ∧ A.1 12 17 = nI m ∧ (A.1 12 17).toNatClampNeg = m ∧ ∀ i, i < m → ∃ a h, a < aq_n A ∧ h < 2 ∧ A.1 23 i = nI (2 * a + h) := by
  obtain ⟨-, -, -, -, -, -, -, m, h1, h2, h3⟩ := hv
  exact ⟨m, h1, h2, by rw [h2]; exact nI_clamp (by omega), h3⟩
theorem ah_d {a h : Nat} (ha : a < 24) (hh : h < 2) : nI (2 * a + h) / 2 = nI a ∧ nI (2 * a + h) - nI (2 * a + h) / 2 * 2 = nI h := by
  constructor
  · rw [show (2 : Int32) = nI 2 from rfl, pk_div (by omega) (by decide) (by decide), show (2 * a + h) / 2 = a by omega]
  · rw [show (2 : Int32) = nI 2 from rfl, pk_rem (by omega) (by decide) (by decide), show (2 * a + h) % 2 = h by omega]
theorem ah_i {a h b g : Nat} (ha : a < 24) (hh : h < 2) (hb : b < 24) (hg : g < 2) (e : nI (2 * a + h) = nI (2 * b + g)) : a = b ∧ h = g := by
  rw [nI_eq (by omega) (by omega)] at e
  omega
section
variable {X : Nat × (Nat → Int32)} {d : Nat} {M A : mj_M}
/-- the changes, as class and reference hold them -/
theorem rc_ch (hv : vs_A A) (h : rc_s A M) : ∃ m, m ≤ 4 ∧ A.1 12 17 = nI m ∧ M.1 2 11 = nI m ∧ ∀ i, i < m → ∃ a h, a < aq_n A ∧ h < 2 ∧ A.1 23 i = nI (2 * a + h) ∧ M.1 9 i = nI a ∧ M.1 10 i = nI h ∧ aq_fa A i = a ∧ aq_fh A i = nI h ∧ A.1 23 i / 2 = nI a := by
  obtain ⟨m, h1, h2, h3, h4⟩ := vs_ch hv
  have hl := hv.1.2
  refine ⟨m, h1, h2, h.2.2.1.trans h2, fun i hi => ?_⟩
  obtain ⟨a, g, k1, k2, k3⟩ := h4 i hi
  obtain ⟨b, f, l1, l2, l3, l4, l5⟩ := h.2.2.2.2 i (by rw [h3]; exact hi)
  obtain ⟨q1, q2⟩ := ah_i (by omega) k2 l1 l2 (k3.symm.trans l5)
  subst q1 q2
  obtain ⟨d1, d2⟩ := ah_d (a := a) (h := g) (by omega) k2
  refine ⟨a, g, k1, k2, k3, l3, l4, ?_, ?_, ?_⟩
  · unfold aq_fa
    rw [k3, d1, nI_clamp (by omega)]
  · unfold aq_fh
    rw [k3, d2]
  · rw [k3, d1]
theorem px_found {i w : Int32} (hv : vs_A A) (h : i < 0 ∨ ¬ i < A.1 12 17) : ex_ X (d + 4) mt_E_found [mv_p 0, mv_i i, mv_i w] A 2 := by
  intro M hM
  obtain ⟨m, h1, h2, h3, h4⟩ := rc_ch hv hM.2.2.1
  rw [h2] at h
  iterate 4 refine ev_go rfl ?_
  rw [h3]
  exact ev_callx rfl rfl rfl (pe_needThere_x (by omega) h) rfl
theorem pz_found {i : Nat} {w : Int32} (hv : vs_A A) (hi : i < (A.1 12 17).toNatClampNeg) (h' : ¬ (0 ≤ w ∧ w ≤ 1)) : ex_ X (d + 4) mt_E_found [mv_p 0, mv_i (nI i), mv_i w] A 0 := by
  intro M hM
  obtain ⟨m, h1, h2, h3, h4⟩ := rc_ch hv hM.2.2.1
  rw [h2, nI_clamp (by omega)] at hi
  iterate 4 refine ev_go rfl ?_
  rw [h3]
  refine ev_callv rfl rfl rfl (pe_needThere hi (by omega)) ?_
  iterate 3 refine ev_go rfl ?_
  refine ev_callr rfl rfl rfl pe_isWithin ?_
  exact ev_callx rfl rfl rfl (pe_need_x (pd_wi1.2 h')) rfl
theorem py_found {i : Nat} {w : Int32} (hv : vs_A A) (hi : i < (A.1 12 17).toNatClampNeg) (h' : 0 ≤ w ∧ w ≤ 1) : ey_ X (d + 4) mt_E_found [mv_p 0, mv_i (nI i), mv_i w] A (if w = 0 then A.1 23 i / 2 else A.1 23 i - A.1 23 i / 2 * 2) A := by
  intro M hM
  obtain ⟨m, h1, h2, h3, h4⟩ := rc_ch hv hM.2.2.1
  rw [h2, nI_clamp (by omega)] at hi
  obtain ⟨a, g, k1, k2, k3, k4, k5, k6, k7, k8⟩ := h4 i hi
  have k9 : A.1 23 i - A.1 23 i / 2 * 2 = nI g := k7
  have i4 : mj_in (nI i) 4 := nI_in (by omega) (by decide)
  have j4 : (nI i).toNatClampNeg = i := nI_clamp (by omega)
  refine ⟨M, ?_, hM, fc_.refl M⟩
  iterate 4 refine ev_go rfl ?_
  rw [h3]
  refine ev_callv rfl rfl rfl (pe_needThere hi (by omega)) ?_
  iterate 3 refine ev_go rfl ?_
  refine ev_callr rfl rfl rfl pe_isWithin ?_
  refine ev_callv rfl rfl rfl (pe_need (by rw [pd_wi1]; exact fun q => q h')) ?_
  refine ev_go rfl ?_
  refine ev_if rfl (fun h21 => ?_) (fun h21 => ?_)
  · iterate 4 refine ev_go rfl ?_
    refine ev_ok i4 rfl ?_
    refine ev_go rfl ?_
    refine ev_end rfl ?_
    show some _ = some (mv_R _ M)
    rw [j4]
    first
      | (rw [if_pos h21, k8, k4]; done)
      | (rw [if_neg h21, k9, k5]; done)
  · iterate 4 refine ev_go rfl ?_
    refine ev_ok i4 rfl ?_
    refine ev_end rfl ?_
    show some _ = some (mv_R _ M)
    rw [j4]
    first
      | (rw [if_pos h21, k8, k4]; done)
      | (rw [if_neg h21, k9, k5]; done)
theorem pk_plain_l {m : Nat} (hv : vs_A A) (hM : rc_ A M) (h1 : m ≤ 4) (h3 : M.1 2 11 = nI m) (h4 : ∀ i, i < m → M.1 9 i = nI (aq_fa A i) ∧ aq_fa A i < 24) (v : Int32) : ∀ j k, k + j = m → ((v = 1 ∧ ∀ i, k ≤ i → i < m → A.1 19 (aq_fa A i) = 0) ∨ (v = 0 ∧ ∃ i, k ≤ i ∧ i < m ∧ ¬ A.1 19 (aq_fa A i) = 0)) → mj_Ev mj_S0 X mj_P d mt_K_isOfPlainActs 2 (mj_up (fun j => [mv_p 2, mv_p 1][j]?) 2 (mv_i (nI k))) [] M 0 (mv_R v M) := by
  intro j
  induction j with
  | zero =>
    intro k hk hw
    have ev : v = 1 := by
      rcases hw with ⟨q, -⟩ | ⟨-, i, q1, q2, -⟩
      · exact q
      · omega
    subst ev
    iterate 3 refine ev_go rfl ?_
    refine ev_if rfl (fun h7 => ?_) (fun h7 => ?_)
    · refine ev_go rfl ?_
      refine ev_end rfl ?_
      rfl
    · exact absurd (show M.1 2 11 ≤ nI k by rw [h3]; exact nI_le (by omega) (by omega)) h7
  | succ j ih =>
    intro k hk hw
    obtain ⟨k1, k2⟩ := h4 k (by omega)
    have e6 : M.1 (pr_ (aq_fa A k)) 6 = A.1 19 (aq_fa A k) := hM.1.1 _ k2 6 (by decide)
    iterate 3 refine ev_go rfl ?_
    refine ev_if rfl (fun h7 => ?_) (fun h7 => ?_)
    · exact absurd h7 (by rw [h3]; exact nI_ge (by omega) (by omega))
    · iterate 5 refine ev_go rfl ?_
      refine ev_ok (nI_in (show k < 4 by omega) (by decide)) rfl ?_
      rw [nI_clamp (by omega), k1]
      refine ev_ok (nI_in k2 (by decide)) rfl ?_
      rw [nI_clamp (by omega)]
      refine ev_go rfl ?_
      refine ev_ok ⟨k2, by decide⟩ rfl ?_
      simp only [tn_6]
      rw [e6]
      refine ev_if rfl (fun h24 => ?_) (fun h24 => ?_)
      · iterate 2 refine ev_go rfl ?_
        refine ev_lo ?_ (ih (k + 1) (by omega) ?_)
        · rw [nI_1]
          exact mj_upo
        · rcases hw with ⟨q, q'⟩ | ⟨q, i, q1, q2, q3⟩
          · exact Or.inl ⟨q, fun i u1 u2 => q' i (by omega) u2⟩
          · refine Or.inr ⟨q, i, ?_, q2, q3⟩
            rcases Nat.lt_or_ge k i with u | u
            · exact u
            · rw [show i = k by omega] at q3
              exact absurd h24 q3
      · have ev : v = 0 := by
          rcases hw with ⟨-, q⟩ | ⟨q, -⟩
          · exact absurd (q k (Nat.le_refl _) (by omega)) h24
          · exact q
        subst ev
        refine ev_go rfl ?_
        refine ev_end rfl ?_
        rfl
theorem pk_plain {m : Nat} (hv : vs_A A) (hM : rc_ A M) (h1 : m ≤ 4) (h3 : M.1 2 11 = nI m) (h4 : ∀ i, i < m → M.1 9 i = nI (aq_fa A i) ∧ aq_fa A i < 24) (v : Int32) (hw : (v = 1 ∧ ∀ i, 0 ≤ i → i < m → A.1 19 (aq_fa A i) = 0) ∨ (v = 0 ∧ ∃ i, 0 ≤ i ∧ i < m ∧ ¬ A.1 19 (aq_fa A i) = 0)) : mj_C0 X d mt_K_isOfPlainActs [mv_p 2, mv_p 1] M (mv_R v M) := by
  iterate 2 refine ev_go rfl ?_
  exact pk_plain_l hv hM h1 h3 h4 v m 0 (by omega) hw
theorem oa_s (hv : vs_A A) {m : Nat} (hm : ∀ i, i < m → aq_fh A i = 0 ∨ aq_fh A i = 1) : ∀ k, k ≤ m → ∀ a, (oa_ A k).1 19 a = 0 ∨ (oa_ A k).1 19 a = 1 ∨ (oa_ A k).1 19 a = 2
  | 0, _, a => hv.2.2.1 a
  | k + 1, hk, a => by
    show (mj_st (oa_ A k) 19 (aq_fa A k) (1 + aq_fh A k)).1 19 a = 0 ∨ (mj_st (oa_ A k) 19 (aq_fa A k) (1 + aq_fh A k)).1 19 a = 1 ∨ (mj_st (oa_ A k) 19 (aq_fa A k) (1 + aq_fh A k)).1 19 a = 2
    by_cases q : a = aq_fa A k
    · rw [q, pm_st0]
      rcases hm k (by omega) with q2 | q2 <;> rw [q2]
      · exact Or.inr (Or.inl rfl)
      · exact Or.inr (Or.inr rfl)
    · rw [pm_st1 (Or.inr q)]
      exact oa_s hv hm k (by omega) a
def st_ (A M0 : mj_M) (k : Nat) (M : mj_M) : Prop := rc_b (oa_ A k) M ∧ rc_L (oa_ A k) (aq_E (oa_ A k)) M ∧ (∀ q j, q ≠ 4 → (q ≠ 1 ∨ j ≠ 4) → q < 30 → M.1 q j = M0.1 q j)
theorem pk_settle_l {m : Nat} {M0 : mj_M} (hv : vs_A A) (h1 : m ≤ 4) (h3 : M0.1 2 11 = nI m) (h4 : ∀ i, i < m → ∃ a h, a < aq_n A ∧ h < 2 ∧ M0.1 9 i = nI a ∧ M0.1 10 i = nI h ∧ aq_fa A i = a ∧ aq_fh A i = nI h) : ∀ j k M, k + j = m → st_ A M0 k M → ∃ M', mj_Ev mj_S0 X mj_P (d + 4) mt_K_settle 2 (mj_up (fun j => [mv_p 2, mv_p 1][j]?) 2 (mv_i (nI k))) [] M 0 (mv_V (mj_st M' 2 11 0)) ∧ st_ A M0 m M' := by
  have hl := hv.1.2
  have hm : ∀ i, i < m → aq_fh A i = 0 ∨ aq_fh A i = 1 := fun i hi => by
    obtain ⟨a, h, -, g2, -, -, -, g6⟩ := h4 i hi
    rw [g6]
    rcases (show h = 0 ∨ h = 1 by omega) with q | q <;> subst q
    · exact Or.inl rfl
    · exact Or.inr rfl
  have hp : ∀ a, pr_ a = 30 + a := pr_e
  intro j
  induction j with
  | zero =>
    intro k M hk h
    have e : k = m := by omega
    subst e
    have e3 : M.1 2 11 = nI k := (h.2.2 2 11 (by omega) (by omega) (by omega)).trans h3
    refine ⟨M, ?_, h⟩
    iterate 3 refine ev_go rfl ?_
    refine ev_if rfl (fun h7 => ?_) (fun h7 => ?_)
    · iterate 3 refine ev_go rfl ?_
      refine ev_end rfl ?_
      rfl
    · exact absurd (show M.1 2 11 ≤ nI k by rw [e3]; exact Int32.le_refl _) h7
  | succ j ih =>
    intro k M hk h
    have e3 : M.1 2 11 = nI m := (h.2.2 2 11 (by omega) (by omega) (by omega)).trans h3
    obtain ⟨a, g, g1, g2, g3, g4, g5, g6⟩ := h4 k (by omega)
    have e9 : M.1 9 k = nI a := (h.2.2 9 k (by omega) (by omega) (by omega)).trans g3
    have e10 : M.1 10 k = nI g := (h.2.2 10 k (by omega) (by omega) (by omega)).trans g4
    have rw1 : vs_rw (oa_ A k) a := by
      have q := hv.2.1 a g1
      unfold vs_rw at q ⊢
      rw [oa_q A (by decide), oa_q A (by decide), oa_q A (by decide), oa_q A (by decide), oa_q A (by decide), oa_q A (by decide)]
      exact q
    have t1 : ∀ c, -1 ≤ (oa_ A k).1 21 c := fun c => by rw [oa_q A (by decide)]; exact hv.2.2.2.2.2.1 c
    have pv : pv_row M a := (h.1.pv (by omega) rw1).1
    have v01 : (1 + aq_fh A k) = 0 ∨ (1 + aq_fh A k) = 1 ∨ (1 + aq_fh A k) = 2 := by
      rcases hm k (by omega) with q2 | q2 <;> rw [q2]
      · exact Or.inr (Or.inl rfl)
      · exact Or.inr (Or.inr rfl)
    obtain ⟨u1, u2⟩ := rc_tu (A := oa_ A k) (a := a) (v := 1 + aq_fh A k) (by rw [oa_n]; exact g1) (by rw [oa_n]; exact hl) rw1 h.1 h.2.1 t1 v01 (oa_s hv hm k (by omega) a)
    have eo : oa_ A (k + 1) = mj_st (oa_ A k) 19 a (1 + aq_fh A k) := by
      show mj_st (oa_ A k) 19 (aq_fa A k) (1 + aq_fh A k) = _
      rw [g5]
    have ok1 : st_ A M0 (k + 1) (pm_tu M a (1 + aq_fh A k)) := by
      refine ⟨by rw [eo]; exact u1, by rw [eo]; exact u2, fun q j q1 q2 q3 => ?_⟩
      rw [fu_tu _ _ _ (by rw [hp]; omega)]
      exact h.2.2 q j q1 q2 q3
    obtain ⟨M', e1, e2⟩ := ih (k + 1) _ (by omega) ok1
    refine ⟨M', ?_, e2⟩
    have i4 : mj_in (nI k) 4 := nI_in (by omega) (by decide)
    have j4 : (nI k).toNatClampNeg = k := nI_clamp (by omega)
    rw [g6] at e1
    iterate 3 refine ev_go rfl ?_
    refine ev_if rfl (fun h7 => ?_) (fun h7 => ?_)
    · exact absurd h7 (by rw [e3]; exact nI_ge (by omega) (by omega))
    · iterate 4 refine ev_go rfl ?_
      refine ev_ok i4 rfl ?_
      rw [j4, e9]
      iterate 3 refine ev_go rfl ?_
      refine ev_ok i4 rfl ?_
      rw [j4, e10]
      refine ev_if rfl (fun h23 => ?_) (fun h23 => ?_)
      · have q9 : 1 + nI g = 1 := by
          rcases Nat.eq_zero_or_pos g with q | q
          · rw [q]
            rfl
          · exact absurd h23 (nI_ne0 q (by omega))
        rw [q9] at e1
        iterate 2 refine ev_go rfl ?_
        refine ev_callv rfl rfl rfl (pl_turn (by omega) pv) ?_
        iterate 2 refine ev_go rfl ?_
        refine ev_lo ?_ e1
        rw [nI_1]
        exact mj_upo
      · have q9 : 1 + nI g = 2 := by
          rcases Nat.eq_zero_or_pos g with q | q
          · exact absurd (by rw [q]; rfl) h23
          · rw [show g = 1 by omega]
            rfl
        rw [q9] at e1
        refine ev_go rfl ?_
        refine ev_callv rfl rfl rfl (pl_turn (by omega) pv) ?_
        iterate 2 refine ev_go rfl ?_
        refine ev_lo ?_ e1
        rw [nI_1]
        exact mj_upo
theorem px_accept (hv : vs_A A) (h : A.1 12 17 = 0 ∨ ∃ i, i < (A.1 12 17).toNatClampNeg ∧ ¬ A.1 19 (aq_fa A i) = 0) : ex_ X (d + 6) mt_E_accept [mv_p 0] A 3 := by
  intro M hM
  obtain ⟨m, h1, h2, h3, h4⟩ := rc_ch hv hM.2.2.1
  have hl := hv.1.2
  by_cases hz : m = 0
  · iterate 3 refine ev_go rfl ?_
    refine ev_if rfl (fun h7 => ?_) (fun h7 => ?_)
    · refine ev_end rfl ?_
      rfl
    · exact absurd (by rw [h3, hz]; rfl) h7
  · have key := pk_plain (X := X) (d := d + 5) hv hM h1 h3 (fun i hi => by
      obtain ⟨a, g, k1, k2, k3, k4, k5, k6, k7, k8⟩ := h4 i hi
      rw [k6]
      exact ⟨k4, by omega⟩) 0 (Or.inr ⟨rfl, by
        rcases h with q1 | ⟨i, q1, q2⟩
        · exact absurd (h2.symm.trans q1) (nI_ne0 (n := m) (by omega) (by omega))
        · rw [h2, nI_clamp (by omega)] at q1
          exact ⟨i, by omega, q1, q2⟩⟩)
    iterate 3 refine ev_go rfl ?_
    refine ev_if rfl (fun h7 => ?_) (fun h7 => ?_)
    · first
        | exact absurd (h3.symm.trans h7) (nI_ne0 (by omega) (by omega))
        | (refine ev_end rfl ?_
           rfl)
    · iterate 4 refine ev_go rfl ?_
      refine ev_callr rfl rfl rfl key ?_
      refine ev_go rfl ?_
      first
        | exact absurd (h3.symm.trans h7) (nI_ne0 (by omega) (by omega))
        | (refine ev_end rfl ?_
           rfl)
theorem py_accept {m : Nat} (hv : vs_A A) (h0 : 0 < m) (h4' : m ≤ 4) (hm : A.1 12 17 = nI m) (hp : ∀ i, i < m → A.1 19 (aq_fa A i) = 0) : ey_ X (d + 6) mt_E_accept [mv_p 0] A (aq_nd (mj_st (oa_ A m) 12 17 0) (aq_E (mj_st (oa_ A m) 12 17 0))) (mj_st (oa_ A m) 12 17 0) := by
  intro M hM
  obtain ⟨m', h1, h2, h3, h4⟩ := rc_ch hv hM.2.2.1
  have hl := hv.1.2
  have em : m' = m := (nI_eq (by omega) (by omega)).1 (h2.symm.trans hm)
  subst em
  have key := pk_plain (X := X) (d := d + 5) hv hM h1 h3 (fun i hi => by
    obtain ⟨a, g, k1, k2, k3, k4, k5, k6, k7, k8⟩ := h4 i hi
    rw [k6]
    exact ⟨k4, by omega⟩) 1 (Or.inl ⟨rfl, fun i _ hi => hp i hi⟩)
  obtain ⟨M', s1, s2⟩ := pk_settle_l (X := X) (d := d + 1) (A := A) (M0 := M) hv h1 h3 (fun i hi => by
    obtain ⟨a, g, k1, k2, k3, k4, k5, k6, k7, k8⟩ := h4 i hi
    exact ⟨a, g, k1, k2, k4, k5, k6, k7⟩) m' 0 M (by omega) ⟨hM.1, hM.2.1, fun _ _ _ _ _ => rfl⟩
  obtain ⟨s3, s4, s5⟩ := s2
  have settle : mj_C0 X (d + 5) mt_K_settle [mv_p 2, mv_p 1] M (mv_V (mj_st M' 2 11 0)) := by
    iterate 2 refine ev_go rfl ?_
    exact s1
  have hpr : ∀ a, pr_ a = 30 + a := pr_e
  have eE : aq_E (mj_st (oa_ A m') 12 17 0) = aq_E (oa_ A m') := aq_E_c (pm_st1 (by omega)) (fun a _ q hq => pm_st1 (by omega))
  have rcN : rc_ (mj_st (oa_ A m') 12 17 0) (mj_st M' 2 11 0) := by
    refine ⟨⟨fun a ha j hj => ?_, fun c hc => ?_, ?_, ?_, ?_⟩, ⟨fun c hc => ?_, ?_⟩, ⟨?_, ?_, ?_, fun a ha => ?_, fun i hi => ?_⟩, ?_⟩
    · rw [pm_st1 (by rw [hpr]; omega), pm_st1 (by omega)]; exact s3.1 a ha j hj
    · rw [pm_st1 (by omega), pm_st1 (by omega)]; exact s3.2.1 c hc
    · rw [pm_st1 (by omega), pm_st1 (by omega)]; exact s3.2.2.1
    · rw [pm_st1 (by omega), pm_st1 (by omega)]; exact s3.2.2.2.1
    · rw [pm_st1 (by omega), pm_st1 (by omega)]; exact s3.2.2.2.2
    · rw [pm_st1 (by omega), eE]; exact s4.1 c hc
    · rw [pm_st1 (by omega), eE, aq_nd_A (A := oa_ A m') (fun c => pm_st1 (by omega))]; exact s4.2
    · rw [pm_st1 (by omega), pm_st1 (by omega), s5 _ _ (by omega) (by omega) (by omega), oa_q A (by decide)]; exact hM.2.2.1.1
    · rw [pm_st1 (by omega), pm_st1 (by omega), s5 _ _ (by omega) (by omega) (by omega), oa_q A (by decide)]; exact hM.2.2.1.2.1
    · rw [pm_st0, pm_st0]
    · rw [pm_st1 (by omega), pm_st1 (by omega), s5 _ _ (by omega) (by omega) (by omega), oa_q A (by decide)]; exact hM.2.2.1.2.2.2.1 a ha
    · rw [pm_st0] at hi
      exact absurd hi (Nat.not_lt_zero _)
    · rw [pm_st1 (by omega), pm_st1 (by omega), s5 _ _ (by omega) (by omega) (by omega), oa_q A (by decide)]; exact hM.2.2.2
  refine ⟨mj_st M' 2 11 0, ?_, rcN, ?_⟩
  · iterate 3 refine ev_go rfl ?_
    refine ev_if rfl (fun h7 => ?_) (fun h7 => ?_)
    · exact absurd (h3.symm.trans h7) (nI_ne0 h0 (by omega))
    · iterate 4 refine ev_go rfl ?_
      refine ev_callr rfl rfl rfl key ?_
      iterate 5 refine ev_go rfl ?_
      refine ev_callv rfl rfl rfl settle ?_
      iterate 3 refine ev_go rfl ?_
      refine ev_end rfl ?_
      show some (mv_R ((mj_st M' 2 11 0).1 1 4) _) = some (mv_R _ _)
      rw [rcN.2.1.2]
  · intro q j q1 q2
    rw [pm_st1 (by omega)]
    exact s5 q j (by omega) (by omega) (by omega)
end
