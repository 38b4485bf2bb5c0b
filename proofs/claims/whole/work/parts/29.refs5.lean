/-! the reference's search -/
def aq_cf (A : mj_M) (a : Nat) : Int32 := if a < aq_n A then aq_ca A a else 0
/-- the candidates in their order -/
def cl_ (f : Nat → Int32) : Nat → Nat → Nat
  | 0 => fun _ => 0
  | k + 1 => if f k = 0 then cl_ f k else upN (cl_ f k) (ct f k) k
theorem ct_0 {f : Nat → Int32} {k : Nat} (h : f k = 0) : ct f (k + 1) = ct f k := by
  show ct f k + (if f k = 0 then 0 else 1) = _
  rw [if_pos h]
  rfl
theorem ct_1 {f : Nat → Int32} {k : Nat} (h : ¬ f k = 0) : ct f (k + 1) = ct f k + 1 := by
  show ct f k + (if f k = 0 then 0 else 1) = _
  rw [if_neg h]
theorem cl_0 {f : Nat → Int32} {k : Nat} (h : f k = 0) : cl_ f (k + 1) = cl_ f k := if_pos h
theorem cl_1 {f : Nat → Int32} {k : Nat} (h : ¬ f k = 0) : cl_ f (k + 1) = upN (cl_ f k) (ct f k) k := if_neg h
theorem cl_in {f : Nat → Int32} : ∀ {k i : Nat}, i < ct f k → cl_ f k i < k ∧ ¬ f (cl_ f k i) = 0
  | 0, i, h => absurd h (Nat.not_lt_zero _)
  | k + 1, i, h => by
    by_cases hk : f k = 0
    · rw [ct_0 hk] at h
      rw [cl_0 hk]
      obtain ⟨h1, h2⟩ := cl_in h
      exact ⟨by omega, h2⟩
    · rw [ct_1 hk] at h
      rw [cl_1 hk]
      by_cases hi : i = ct f k
      · rw [hi, upN_s]
        exact ⟨by omega, hk⟩
      · rw [upN_n hi]
        obtain ⟨h1, h2⟩ := cl_in (show i < ct f k by omega)
        exact ⟨by omega, h2⟩
theorem cl_st {f : Nat → Int32} {n : Nat} (h : ∀ k, n ≤ k → f k = 0) : ∀ j, ct f (n + j) = ct f n ∧ cl_ f (n + j) = cl_ f n
  | 0 => ⟨rfl, rfl⟩
  | j + 1 => by
    have h0 := h (n + j) (by omega)
    obtain ⟨h1, h2⟩ := cl_st h j
    rw [← Nat.add_assoc, ct_0 h0, cl_0 h0]
    exact ⟨h1, h2⟩
def aq_m (A : mj_M) : Nat := ct (aq_cf A) 24
def aq_cs (A : mj_M) : Nat → Nat := cl_ (aq_cf A) 24
theorem aq_cf0 {A : mj_M} {k : Nat} (h : aq_n A ≤ k) : aq_cf A k = 0 := if_neg (by omega)
theorem aq_cs_in {A : mj_M} {i : Nat} (h : i < aq_m A) : aq_cs A i < aq_n A := by
  obtain ⟨h1, h2⟩ := cl_in h
  rcases Nat.lt_or_ge (cl_ (aq_cf A) 24 i) (aq_n A) with h3 | h3
  · exact h3
  · exact absurd (aq_cf0 h3) h2
theorem aq_m_le (A : mj_M) : aq_m A ≤ 24 := ct_le _ _
def zr_ (A : mj_M) : Nat → mj_M
  | 0 => A
  | k + 1 => mj_st (zr_ A k) 22 k 0
theorem zr_q {A : mj_M} {q : Nat} (h : q ≠ 22) (j : Nat) : ∀ k, (zr_ A k).1 q j = A.1 q j
  | 0 => rfl
  | k + 1 => by
    show (mj_st (zr_ A k) 22 k 0).1 q j = _
    rw [pm_st1 (Or.inl h)]
    exact zr_q h j k
theorem zr_in {A : mj_M} {a : Nat} : ∀ {k : Nat}, a < k → (zr_ A k).1 22 a = 0
  | 0, h => absurd h (Nat.not_lt_zero _)
  | k + 1, h => by
    show (mj_st (zr_ A k) 22 k 0).1 22 a = _
    by_cases hk : a = k
    · rw [hk, pm_st0]
    · rw [pm_st1 (Or.inr hk)]
      exact zr_in (by omega)
def oz_ (A : mj_M) : mj_M := mj_st (mj_st (mj_st (mj_st A 12 17 0) 12 15 0) 12 14 0) 12 13 1
/-- a search begins -/
def ob_ (A : mj_M) : mj_M := zr_ (oz_ A) 24
theorem oz_rb (A : mj_M) (k : Nat) : rb_ A (zr_ (oz_ A) k) := fun q j hk => by
  rw [zr_q (by omega)]
  unfold oz_
  rw [pm_st1 (by omega), pm_st1 (by omega), pm_st1 (by omega), pm_st1 (by omega)]
/-- size after size -/
def ss_ (A : mj_M) (cs : Nat → Nat) (lim : Int32) (m2 : Nat) : Nat → Nat → mj_M → mj_M
  | 0, _, s => s
  | j + 1, z, s => if s.1 12 13 = 0 ∨ ¬ s.1 12 15 = 0 then s else ss_ A cs lim m2 j (z + 1) (mj_st (se_ A cs lim m2 z 0 0 (fun _ => 0) s).2 12 13 (if (se_ A cs lim m2 z 0 0 (fun _ => 0) s).1 = true then 1 else 0))
def sr_ (A : mj_M) (lim : Int32) (mo : Nat) : mj_M := if aq_nd A (aq_E A) = 0 then ob_ A else ss_ A (aq_cs A) lim (2 * aq_m A) mo 1 (ob_ A)
def sv_ (A : mj_M) (lim : Int32) (mo : Nat) : Int32 := if aq_nd A (aq_E A) = 0 then 0 else if (sr_ A lim mo).1 12 15 = 0 then -1 else (sr_ A lim mo).1 12 17
section
variable {X : Nat × (Nat → Int32)} {d : Nat} {M A s : mj_M} {cs x : Nat → Nat} {m n c size mo : Nat} {lim : Int32} {Q : mj_R → Prop}
theorem pm_search_x {a b : Int32} (h : ¬ (1 ≤ a ∧ a ≤ 4 ∧ 0 ≤ b ∧ b ≤ 20000)) : mj_C0 X (d + 1) mt_M_search [mv_p 12, mv_i a, mv_i b] M (mv_R 0 (mj_st M 12 0 1)) := by
  iterate 4 refine ev_go rfl ?_
  refine ev_callr rfl rfl rfl pm_not ?_
  refine ev_if rfl (fun h7 => ?_) (fun h7 => ?_)
  · iterate 3 refine ev_go rfl ?_
    refine ev_callr rfl rfl rfl pm_not ?_
    refine ev_if rfl (fun h18 => ?_) (fun h18 => ?_)
    · exfalso
      grind [pd_no0]
    · iterate 7 refine ev_go rfl ?_
      refine ev_end rfl ?_
      rfl
  · iterate 7 refine ev_go rfl ?_
    refine ev_end rfl ?_
    rfl
def s1_ (A M0 : mj_M) (k : Nat) (M : mj_M) : Prop := rm_ (zr_ (oz_ A) k) M ∧ M.1 12 21 = nI (ct (aq_cf A) k) ∧ (∀ i, i < ct (aq_cf A) k → M.1 25 i = nI (cl_ (aq_cf A) k i)) ∧ M.1 12 20 = 0 ∧ fz_ M0 M
theorem pm_search_l1 {M0 : mj_M} (hv : vs_A A) (hq : ∀ M, s1_ A M0 24 M → ∃ r, mj_Ev mj_S0 X mj_P (d + 3) mt_M_search 125 (mj_up (fun j => [mv_p 12, mv_i (nI mo), mv_i lim][j]?) 3 (mv_i (nI 24))) [] M 0 r ∧ Q r) : ∀ j k M, k + j = 24 → s1_ A M0 k M → ∃ r, mj_Ev mj_S0 X mj_P (d + 3) mt_M_search 70 (mj_up (fun j => [mv_p 12, mv_i (nI mo), mv_i lim][j]?) 3 (mv_i (nI k))) [] M 0 r ∧ Q r := by
  intro j
  induction j with
  | zero =>
    intro k M hk h
    have e : k = 24 := by omega
    subst e
    obtain ⟨r, e1, e2⟩ := hq M h
    refine ⟨r, ?_, e2⟩
    iterate 3 refine ev_go rfl ?_
    exact e1
  | succ j ih =>
    intro k M hk h
    obtain ⟨h1, h2, h3, h4, h5⟩ := h
    have i24 : mj_in (nI k) 24 := nI_in (by omega) (by decide)
    have j24 : (nI k).toNatClampNeg = k := nI_clamp (by omega)
    have r1 : rm_ (zr_ (oz_ A) (k + 1)) (mj_st M 22 k 0) := h1.st _ _ _
    have b1 : rb_ A (mj_st M 22 k 0) := (oz_rb A (k + 1)).trans r1.rb
    have f1 : fz_ M0 (mj_st M 22 k 0) := h5.st (by omega) (by omega)
    have n1 : (mj_st M 22 k 0).1 12 1 = nI (aq_n A) := by rw [b1.s (by decide)]; exact hv.1.1
    have hn := hv.1.2
    have lc := ct_le (aq_cf A) k
    by_cases hf : aq_cf A k = 0
    · obtain ⟨r, e1, e2⟩ := ih (k + 1) (mj_st M 22 k 0) (by omega) ⟨r1, by rw [pm_st1 (by omega), ct_0 hf]; exact h2, fun i hi => by rw [ct_0 hf] at hi; rw [pm_st1 (by omega), cl_0 hf]; exact h3 i hi, by rw [pm_st1 (by omega)]; exact h4, f1⟩
      refine ⟨r, ?_, e2⟩
      iterate 2 refine ev_go rfl ?_
      refine ev_if rfl (fun h73 => ?_) (fun h73 => ?_)
      · exact absurd h73 (by rw [show (24 : Int32) = nI 24 from rfl]; exact nI_ge (by omega) (by omega))
      · iterate 4 refine ev_go rfl ?_
        refine ev_ok i24 rfl ?_
        rw [j24]
        iterate 3 refine ev_go rfl ?_
        rw [n1]
        refine ev_if rfl (fun h88 => ?_) (fun h88 => ?_)
        · iterate 2 refine ev_go rfl ?_
          refine ev_lo ?_ e1
          rw [nI_1]
          exact mj_upo
        · have kn : k < aq_n A := by
            rcases Nat.lt_or_ge k (aq_n A) with q | q
            · exact q
            · exact absurd (nI_le q (by omega)) h88
          iterate 2 refine ev_go rfl ?_
          refine ev_callr rfl rfl rfl (pm_isCandidate (by omega) ((rb_rw b1 k).2 (hv.2.1 k kn))) ?_
          refine ev_if rfl (fun h96 => ?_) (fun h96 => ?_)
          · iterate 2 refine ev_go rfl ?_
            refine ev_lo ?_ e1
            rw [nI_1]
            exact mj_upo
          · exact absurd (show aq_ca (mj_st M 22 k 0) k = 0 by rw [rb_ca b1]; unfold aq_cf at hf; rw [if_pos kn] at hf; exact hf) h96
    · have kn : k < aq_n A := by
        rcases Nat.lt_or_ge k (aq_n A) with q | q
        · exact q
        · exact absurd (aq_cf0 q) hf
      have hca : ¬ aq_ca (mj_st M 22 k 0) k = 0 := by
        rw [rb_ca b1]
        unfold aq_cf at hf
        rw [if_pos kn] at hf
        exact hf
      have h2' : (mj_st M 22 k 0).1 12 21 = nI (ct (aq_cf A) k) := by rw [pm_st1 (by omega)]; exact h2
      have i25 : mj_in (nI (ct (aq_cf A) k)) 24 := nI_in (by omega) (by decide)
      have j25 : (nI (ct (aq_cf A) k)).toNatClampNeg = ct (aq_cf A) k := nI_clamp (by omega)
      obtain ⟨r, e1, e2⟩ := ih (k + 1) (mj_st (mj_st (mj_st M 22 k 0) 25 (ct (aq_cf A) k) (nI k)) 12 21 (nI (ct (aq_cf A) k + 1))) (by omega) ⟨(r1.sr (by unfold aq_k; omega)).sr (by unfold aq_k; omega), by rw [pm_st0, ct_1 hf], fun i hi => by
          rw [pm_st1 (by omega), cl_1 hf]
          rw [ct_1 hf] at hi
          by_cases hic : i = ct (aq_cf A) k
          · rw [hic, pm_st0, upN_s]
          · rw [pm_st1 (by omega), pm_st1 (by omega), upN_n hic]
            exact h3 i (by omega), by rw [pm_st1 (by omega), pm_st1 (by omega), pm_st1 (by omega)]; exact h4, (f1.st (by omega) (by omega)).st (by omega) (by omega)⟩
      refine ⟨r, ?_, e2⟩
      iterate 2 refine ev_go rfl ?_
      refine ev_if rfl (fun h73 => ?_) (fun h73 => ?_)
      · exact absurd h73 (by rw [show (24 : Int32) = nI 24 from rfl]; exact nI_ge (by omega) (by omega))
      · iterate 4 refine ev_go rfl ?_
        refine ev_ok i24 rfl ?_
        rw [j24]
        iterate 3 refine ev_go rfl ?_
        rw [n1]
        refine ev_if rfl (fun h88 => ?_) (fun h88 => ?_)
        · first
            | exact absurd h88 (nI_ge kn (by omega))
            | exact absurd h96 hca
            | (refine ev_go rfl ?_
               refine ev_go rfl ?_
               refine ev_lo ?_ e1
               rw [nI_1]
               exact mj_upo)
        · iterate 2 refine ev_go rfl ?_
          refine ev_callr rfl rfl rfl (pm_isCandidate (by omega) ((rb_rw b1 k).2 (hv.2.1 k kn))) ?_
          refine ev_if rfl (fun h96 => ?_) (fun h96 => ?_)
          · first
              | exact absurd h88 (nI_ge kn (by omega))
              | exact absurd h96 hca
              | (refine ev_go rfl ?_
                 refine ev_go rfl ?_
                 refine ev_lo ?_ e1
                 rw [nI_1]
                 exact mj_upo)
          · iterate 4 refine ev_go rfl ?_
            rw [h2']
            refine ev_go rfl ?_
            refine ev_ok i25 rfl ?_
            rw [j25]
            iterate 5 refine ev_go rfl ?_
            show mj_Ev _ _ _ _ _ _ _ [mv_i ((mj_st M 22 k 0).1 12 21 + 1), _] _ _ _
            rw [h2', nI_1]
            refine ev_go rfl ?_
            first
              | exact absurd h88 (nI_ge kn (by omega))
              | exact absurd h96 hca
              | (refine ev_go rfl ?_
                 refine ev_go rfl ?_
                 refine ev_lo ?_ e1
                 rw [nI_1]
                 exact mj_upo)
def s2_ (A M0 : mj_M) (k : Nat) (M : mj_M) : Prop := rm_ (ob_ A) M ∧ M.1 12 21 = nI (aq_m A) ∧ (∀ i, i < aq_m A → M.1 25 i = nI (aq_cs A i)) ∧ (∀ c, c < k → M.1 24 c = aq_df A (aq_E A) c) ∧ M.1 12 20 = sm (aq_w A (aq_E A)) k ∧ fz_ M0 M
theorem pm_search_l2 {M0 : mj_M} (hv : vs_A A) (hq : ∀ M, s2_ A M0 60 M → ∃ r, mj_Ev mj_S0 X mj_P (d + 3) mt_M_search 173 (mj_up (fun j => [mv_p 12, mv_i (nI mo), mv_i lim][j]?) 3 (mv_i (nI 60))) [] M 0 r ∧ Q r) : ∀ j k M, k + j = 60 → s2_ A M0 k M → ∃ r, mj_Ev mj_S0 X mj_P (d + 3) mt_M_search 127 (mj_up (fun j => [mv_p 12, mv_i (nI mo), mv_i lim][j]?) 3 (mv_i (nI k))) [] M 0 r ∧ Q r := by
  intro j
  induction j with
  | zero =>
    intro k M hk h
    have e : k = 60 := by omega
    subst e
    obtain ⟨r, e1, e2⟩ := hq M h
    refine ⟨r, ?_, e2⟩
    iterate 3 refine ev_go rfl ?_
    exact e1
  | succ j ih =>
    intro k M hk h
    obtain ⟨h1, h2, h3, h4, h5, h6⟩ := h
    have i60 : mj_in (nI k) 60 := nI_in (by omega) (by decide)
    have j60 : (nI k).toNatClampNeg = k := nI_clamp (by omega)
    have b1 : rb_ A M := (oz_rb A 24).trans h1.rb
    have n1 : M.1 12 1 = nI (aq_n M) := by rw [rb_n b1, b1.s (by decide)]; exact hv.1.1
    have n2 : aq_n M ≤ 24 := by rw [rb_n b1]; exact hv.1.2
    have ed : aq_df M (aq_E M) k = aq_df A (aq_E A) k := by rw [rb_df b1, rb_E b1]
    obtain ⟨r, e1, e2⟩ := ih (k + 1) (mj_st (mj_st M 24 k (aq_df A (aq_E A) k)) 12 20 (sm (aq_w A (aq_E A)) k + aq_w A (aq_E A) k)) (by omega) ⟨(h1.sr (by unfold aq_k; omega)).sr (by unfold aq_k; omega), by rw [pm_st1 (by omega), pm_st1 (by omega)]; exact h2, fun i hi => by rw [pm_st1 (by omega), pm_st1 (by omega)]; exact h3 i hi, fun c hc => by
        rw [pm_st1 (by omega)]
        by_cases hck : c = k
        · rw [hck, pm_st0]
        · rw [pm_st1 (by omega)]
          exact h4 c (by omega), by rw [pm_st0]; rfl, (h6.st (by omega) (by omega)).st (by omega) (by omega)⟩
    refine ⟨r, ?_, e2⟩
    iterate 2 refine ev_go rfl ?_
    refine ev_if rfl (fun h130 => ?_) (fun h130 => ?_)
    · exact absurd h130 (by rw [show (60 : Int32) = nI 60 from rfl]; exact nI_ge (by omega) (by omega))
    · iterate 5 refine ev_go rfl ?_
      refine ev_callr rfl rfl rfl (pm_differenceOf (by omega) n1 n2) ?_
      rw [ed]
      refine ev_ok i60 rfl ?_
      rw [j60]
      iterate 6 refine ev_go rfl ?_
      refine ev_ok i60 rfl ?_
      rw [j60, pm_st0]
      refine ev_if rfl (fun h155 => ?_) (fun h155 => ?_)
      · iterate 2 refine ev_go rfl ?_
        show mj_Ev _ _ _ _ _ _ _ [mv_i (M.1 12 20 + _), _] _ _ _
        rw [h5]
        iterate 3 refine ev_go rfl ?_
        unfold aq_w at e1
        first
          | rw [if_pos h155] at e1
          | rw [if_neg h155] at e1
        refine ev_lo ?_ e1
        rw [nI_1]
        exact mj_upo
      · iterate 3 refine ev_go rfl ?_
        show mj_Ev _ _ _ _ _ _ _ [mv_i (M.1 12 20 + _), _] _ _ _
        rw [h5]
        iterate 3 refine ev_go rfl ?_
        unfold aq_w at e1
        first
          | rw [if_pos h155] at e1
          | rw [if_neg h155] at e1
        refine ev_lo ?_ e1
        rw [nI_1]
        exact mj_upo
def s3_ (A M0 s M : mj_M) : Prop := rm_ s M ∧ rb_ A s ∧ (s.1 12 13 = 0 ∨ (s.1 12 13 = 1 ∧ gs_ A (aq_cs A) (aq_m A) (fun _ => 0) 0 M)) ∧ fz_ M0 M
theorem pm_search_l3 {M0 : mj_M} (hv : vs_A A) (hmo : mo ≤ 4) (hQ : ∀ s M, s3_ A M0 s M → s = ss_ A (aq_cs A) lim (2 * aq_m A) mo 1 (ob_ A) → Q (mv_R (if s.1 12 15 = 0 then -1 else s.1 12 17) M)) : ∀ j z s M, z + j = mo + 1 → 0 < z → s3_ A M0 s M → ss_ A (aq_cs A) lim (2 * aq_m A) j z s = ss_ A (aq_cs A) lim (2 * aq_m A) mo 1 (ob_ A) → ∃ r, mj_Ev mj_S0 X mj_P (d + 3) mt_M_search 184 (mj_up (fun j => [mv_p 12, mv_i (nI mo), mv_i lim][j]?) 3 (mv_i (nI z))) [] M 0 r ∧ Q r := by
  have hcs : ∀ i, i < aq_m A → aq_cs A i < 24 ∧ vs_rw A (aq_cs A i) := fun i hi => by
    have := aq_cs_in hi
    have := hv.1.2
    exact ⟨by omega, hv.2.1 _ (by omega)⟩
  have ex : ∀ z s M, s3_ A M0 s M → s = ss_ A (aq_cs A) lim (2 * aq_m A) mo 1 (ob_ A) → ∃ r, mj_Ev mj_S0 X mj_P (d + 3) mt_M_search 219 (mj_up (fun j => [mv_p 12, mv_i (nI mo), mv_i lim][j]?) 3 (mv_i (nI z))) [] M 0 r ∧ Q r := by
    intro z s M h he
    refine ⟨_, ?_, hQ s M h he⟩
    have e15 : M.1 12 15 = s.1 12 15 := h.1.s (by decide)
    have e17 : M.1 12 17 = s.1 12 17 := h.1.s (by decide)
    iterate 2 refine ev_go rfl ?_
    rw [e15]
    refine ev_if rfl (fun h223 => ?_) (fun h223 => ?_)
    · iterate 2 refine ev_go rfl ?_
      refine ev_end rfl ?_
      show some _ = some (mv_R _ M)
      first
        | (rw [if_pos h223]; done)
        | (rw [if_neg h223, ← e17]; done)
    · iterate 2 refine ev_go rfl ?_
      refine ev_end rfl ?_
      show some _ = some (mv_R _ M)
      first
        | (rw [if_pos h223]; done)
        | (rw [if_neg h223, ← e17]; done)
  intro j
  induction j with
  | zero =>
    intro z s M hz h0 h he
    obtain ⟨r, e1, e2⟩ := ex z s M h he
    refine ⟨r, ?_, e2⟩
    iterate 2 refine ev_go rfl ?_
    refine ev_if rfl (fun h186 => ?_) (fun h186 => ?_)
    · exact e1
    · exact absurd (nI_lt (show mo < z by omega) (by omega)) h186
  | succ j ih =>
    intro z s M hz h0 h he
    have e13 : M.1 12 13 = s.1 12 13 := h.1.s (by decide)
    have e15 : M.1 12 15 = s.1 12 15 := h.1.s (by decide)
    by_cases hx : s.1 12 13 = 0 ∨ ¬ s.1 12 15 = 0
    · have he' : s = ss_ A (aq_cs A) lim (2 * aq_m A) mo 1 (ob_ A) := (if_pos hx).symm.trans he
      obtain ⟨r, e1, e2⟩ := ex z s M h he'
      refine ⟨r, ?_, e2⟩
      iterate 2 refine ev_go rfl ?_
      refine ev_if rfl (fun h186 => ?_) (fun h186 => ?_)
      · exact e1
      · iterate 2 refine ev_go rfl ?_
        refine ev_if rfl (fun h193 => ?_) (fun h193 => ?_)
        · exact e1
        · iterate 2 refine ev_go rfl ?_
          refine ev_if rfl (fun h200 => ?_) (fun h200 => ?_)
          · rw [e13] at h193
            rw [e15] at h200
            rcases hx with q | q
            · exact absurd q h193
            · exact absurd h200 q
          · exact e1
    · have k13 : ¬ s.1 12 13 = 0 := fun q => hx (Or.inl q)
      have k15 : s.1 12 15 = 0 := by
        by_cases q : s.1 12 15 = 0
        · exact q
        · exact absurd (Or.inr q) hx
      obtain ⟨h1, h2, h3, h4⟩ := h
      have hg : gs_ A (aq_cs A) (aq_m A) (fun _ => 0) 0 M := by
        rcases h3 with q | q
        · exact absurd q k13
        · exact q.2
      obtain ⟨M1, g1, g2, g3, g4⟩ := pm_goThrough (X := X) (d := d) (lim := lim) h0 (by omega) (aq_m_le A) hcs hg h1 h2
      have he' : ss_ A (aq_cs A) lim (2 * aq_m A) j (z + 1) (mj_st (se_ A (aq_cs A) lim (2 * aq_m A) z 0 0 (fun _ => 0) s).2 12 13 (if (se_ A (aq_cs A) lim (2 * aq_m A) z 0 0 (fun _ => 0) s).1 = true then 1 else 0)) = ss_ A (aq_cs A) lim (2 * aq_m A) mo 1 (ob_ A) := (if_neg hx).symm.trans he
      have ok3 : s3_ A M0 (mj_st (se_ A (aq_cs A) lim (2 * aq_m A) z 0 0 (fun _ => 0) s).2 12 13 (if (se_ A (aq_cs A) lim (2 * aq_m A) z 0 0 (fun _ => 0) s).1 = true then 1 else 0)) (mj_st M1 12 13 (if (se_ A (aq_cs A) lim (2 * aq_m A) z 0 0 (fun _ => 0) s).1 = true then 1 else 0)) := by
        refine ⟨g2.st _ _ _, (se_rb h2).st (by omega), ?_, (h4.trans g3).st (by omega) (by omega)⟩
        rw [pm_st0]
        cases hb : (se_ A (aq_cs A) lim (2 * aq_m A) z 0 0 (fun _ => 0) s).1 with
        | true => exact Or.inr ⟨rfl, (g4 hb).st (by omega)⟩
        | false => exact Or.inl rfl
      obtain ⟨r, e1, e2⟩ := ih (z + 1) _ _ (by omega) (by omega) ok3 he'
      have e01 : (if (se_ A (aq_cs A) lim (2 * aq_m A) z 0 0 (fun _ => 0) s).1 = true then (1 : Int32) else 0) = 0 ∨ (if (se_ A (aq_cs A) lim (2 * aq_m A) z 0 0 (fun _ => 0) s).1 = true then (1 : Int32) else 0) = 1 := by
        split
        · exact Or.inr rfl
        · exact Or.inl rfl
      refine ⟨r, ?_, e2⟩
      iterate 2 refine ev_go rfl ?_
      refine ev_if rfl (fun h186 => ?_) (fun h186 => ?_)
      · first
          | exact absurd h186 (nI_nlt (show z ≤ mo by omega) (by omega))
          | exact absurd (e13.symm.trans h193) k13
          | exact absurd (e15.trans k15) h200
      · iterate 2 refine ev_go rfl ?_
        refine ev_if rfl (fun h193 => ?_) (fun h193 => ?_)
        · first
            | exact absurd h186 (nI_nlt (show z ≤ mo by omega) (by omega))
            | exact absurd (e13.symm.trans h193) k13
            | exact absurd (e15.trans k15) h200
        · iterate 2 refine ev_go rfl ?_
          refine ev_if rfl (fun h200 => ?_) (fun h200 => ?_)
          · iterate 4 refine ev_go rfl ?_
            refine ev_callr rfl rfl rfl g1 ?_
            refine ev_ok (Or.inr e01) rfl ?_
            iterate 2 refine ev_go rfl ?_
            refine ev_lo ?_ e1
            rw [nI_1]
            exact mj_upo
          · first
              | exact absurd h186 (nI_nlt (show z ≤ mo by omega) (by omega))
              | exact absurd (e13.symm.trans h193) k13
              | exact absurd (e15.trans k15) h200
theorem pm_search (hv : vs_A A) (h0 : 0 < mo) (hmo : mo ≤ 4) (hl : 0 ≤ lim ∧ lim ≤ 20000) : rs_ X (d + 3) mt_M_search [mv_p 12, mv_i (nI mo), mv_i lim] A 0 (sv_ A lim mo) (sr_ A lim mo) := by
  intro M hr
  have hmm : 1 ≤ nI mo ∧ nI mo ≤ 4 := ⟨nI_le (a := 1) (by omega) (by omega), nI_le (b := 4) (by omega) (by decide)⟩
  let Q : mj_R → Prop := fun r => ∃ M', r = mv_R (sv_ A lim mo) M' ∧ rm_ (sr_ A lim mo) M' ∧ fm_ M M' ∧ M'.1 12 0 = 0
  suffices h : ∃ r, mj_C0 X (d + 3) mt_M_search [mv_p 12, mv_i (nI mo), mv_i lim] M r ∧ Q r by
    obtain ⟨r, e1, M', e2, e3⟩ := h
    subst e2
    exact ⟨M', e1, e3⟩
  have fin : ∀ M', fz_ (mj_st M 12 0 0) M' → fm_ M M' ∧ M'.1 12 0 = 0 := fun M' f => ⟨((fm_.refl M).st (by decide) (by decide)).trans f.1, by rw [f.2, pm_st0]⟩
  have a3 : ∀ M1, s2_ A (mj_st M 12 0 0) 60 M1 → ∃ r, mj_Ev mj_S0 X mj_P (d + 3) mt_M_search 173 (mj_up (fun j => [mv_p 12, mv_i (nI mo), mv_i lim][j]?) 3 (mv_i (nI 60))) [] M1 0 r ∧ Q r := by
    intro M1 h
    obtain ⟨h1, h2, h3, h4, h5, h6⟩ := h
    by_cases hz : aq_nd A (aq_E A) = 0
    · have er : sr_ A lim mo = ob_ A := if_pos hz
      have ev : sv_ A lim mo = 0 := if_pos hz
      refine ⟨mv_R 0 M1, ?_, M1, by rw [ev], by rw [er]; exact h1, fin M1 h6⟩
      iterate 2 refine ev_go rfl ?_
      refine ev_if rfl (fun h177 => ?_) (fun h177 => ?_)
      · refine ev_go rfl ?_
        refine ev_end rfl ?_
        rfl
      · exact absurd (h5.trans hz) h177
    · have er : sr_ A lim mo = ss_ A (aq_cs A) lim (2 * aq_m A) mo 1 (ob_ A) := if_neg hz
      have ev : sv_ A lim mo = if (sr_ A lim mo).1 12 15 = 0 then -1 else (sr_ A lim mo).1 12 17 := if_neg hz
      have eo : (ob_ A).1 12 13 = 1 := by
        unfold ob_ oz_
        rw [zr_q (by decide), pm_st0]
      obtain ⟨r, e1, e2⟩ := pm_search_l3 (X := X) (d := d) (A := A) (M0 := mj_st M 12 0 0) (lim := lim) (mo := mo) (Q := Q) hv hmo (fun s M' h he => ⟨M', by rw [ev, er, he], by rw [er, ← he]; exact h.1, fin M' h.2.2.2⟩) mo 1 (ob_ A) M1 (by omega) (by omega) ⟨h1, oz_rb A 24, Or.inr ⟨eo, ⟨h4, h5⟩, h2, h3, fun i hi => absurd hi (Nat.not_lt_zero _)⟩, h6⟩ rfl
      refine ⟨r, ?_, e2⟩
      iterate 2 refine ev_go rfl ?_
      refine ev_if rfl (fun h177 => ?_) (fun h177 => ?_)
      · exact absurd (h5.symm.trans h177) hz
      · iterate 2 refine ev_go rfl ?_
        refine ev_lo ?_ e1
        exact mj_upo
  have a2 : ∀ M1, s1_ A (mj_st M 12 0 0) 24 M1 → ∃ r, mj_Ev mj_S0 X mj_P (d + 3) mt_M_search 125 (mj_up (fun j => [mv_p 12, mv_i (nI mo), mv_i lim][j]?) 3 (mv_i (nI 24))) [] M1 0 r ∧ Q r := by
    intro M1 h
    obtain ⟨h1, h2, h3, h4, h5⟩ := h
    obtain ⟨r, e1, e2⟩ := pm_search_l2 (X := X) (d := d) (A := A) (M0 := mj_st M 12 0 0) (lim := lim) (mo := mo) (Q := Q) hv a3 60 0 M1 (by omega) ⟨h1, h2, h3, fun c hc => absurd hc (Nat.not_lt_zero _), h4, h5⟩
    refine ⟨r, ?_, e2⟩
    refine ev_go rfl ?_
    refine ev_go rfl ?_
    refine ev_lo ?_ e1
    exact mj_upo
  have r0 : rm_ (oz_ A) (mj_st (mj_st (mj_st (mj_st (mj_st (mj_st (mj_st M 12 0 0) 12 17 0) 12 15 0) 12 14 0) 12 13 1) 12 20 0) 12 21 0) := (((((hr.sr (by unfold aq_k; omega)).st 12 17 0).st 12 15 0).st 12 14 0).st 12 13 1 |>.sr (by unfold aq_k; omega)).sr (by unfold aq_k; omega)
  obtain ⟨r, e1, e2⟩ := pm_search_l1 (X := X) (d := d) (A := A) (M0 := mj_st M 12 0 0) (lim := lim) (mo := mo) (Q := Q) hv a2 24 0 _ (by omega) ⟨r0, pm_st0, fun i hi => absurd hi (Nat.not_lt_zero _), by rw [pm_st1 (by omega), pm_st0], (((((fz_.refl _).st (by omega) (by omega)).st (by omega) (by omega)).st (by omega) (by omega)).st (by omega) (by omega)).st (by omega) (by omega) |>.st (by omega) (by omega)⟩
  refine ⟨r, ?_, e2⟩
  iterate 4 refine ev_go rfl ?_
  refine ev_callr rfl rfl rfl pm_not ?_
  refine ev_if rfl (fun h7 => ?_) (fun h7 => ?_)
  · iterate 3 refine ev_go rfl ?_
    refine ev_callr rfl rfl rfl pm_not ?_
    refine ev_if rfl (fun h18 => ?_) (fun h18 => ?_)
    · iterate 25 refine ev_go rfl ?_
      exact e1
    · exfalso
      grind [pd_no0]
  · exfalso
    grind [pd_no0]

end
