/-! the class's ledger: finding, carrying, adding, turning, telling -/
def aq_ia (A : mj_M) (a : Nat) (c : Int32) : Int32 := if 6 * A.1 14 a + A.1 16 a = c ∨ (A.1 13 a = 2 ∧ 6 * A.1 15 a + A.1 16 a = c) then 1 else 0
theorem aq_ia0 {A : mj_M} {a : Nat} {c : Int32} (hr : vs_rw A a) : aq_ia A a c = 0 ↔ aq_ad A a c = 0 := by
  obtain ⟨p, g, -, -, -, -, -, h1, h2, -⟩ := hr
  unfold aq_ia aq_ad
  grind
/-- a class's call that changes only what is expected -/
def fl_ (M M' : mj_M) : Prop := M'.2 = M.2 ∧ ∀ q j, ¬ (q = 4 ∨ (q = 1 ∧ j = 4)) → M'.1 q j = M.1 q j
theorem fl_.refl (M : mj_M) : fl_ M M := ⟨rfl, fun _ _ _ => rfl⟩
theorem fl_.trans {M M' M'' : mj_M} (h : fl_ M M') (h' : fl_ M' M'') : fl_ M M'' := ⟨h'.1.trans h.1, fun q j hq => (h'.2 q j hq).trans (h.2 q j hq)⟩
theorem fl_.st {M M' : mj_M} (h : fl_ M M') {q j : Nat} {x : Int32} (h1 : q = 4 ∨ (q = 1 ∧ j = 4)) : fl_ M (mj_st M' q j x) := ⟨h.1, fun q' j' hq => by rw [pm_st1 (by omega)]; exact h.2 q' j' hq⟩
theorem fl_.fc {M M' : mj_M} (h : fl_ M M') : fc_ M M' := fun q j h1 h2 => h.2 q j (by omega)
theorem fl_.rb {A M M' : mj_M} (h : fl_ M M') (hb : rc_b A M) : rc_b A M' := by
  obtain ⟨a1, a2, a3, a4, a5⟩ := hb
  refine ⟨fun a ha j hj => ?_, fun c hc => ?_, ?_, ?_, ?_⟩
  · rw [h.2 _ _ (by rw [pr_e]; omega)]; exact a1 a ha j hj
  · rw [h.2 _ _ (by omega)]; exact a2 c hc
  · rw [h.2 _ _ (by omega)]; exact a3
  · rw [h.2 _ _ (by omega)]; exact a4
  · rw [h.2 _ _ (by omega)]; exact a5
theorem fl_.rs {A M M' : mj_M} (h : fl_ M M') (hb : rc_s A M) : rc_s A M' := by
  obtain ⟨c1, c2, c3, c4, c5⟩ := hb
  refine ⟨?_, ?_, ?_, fun a ha => ?_, fun i hi => ?_⟩
  · rw [h.2 _ _ (by omega)]; exact c1
  · rw [h.2 _ _ (by omega)]; exact c2
  · rw [h.2 _ _ (by omega)]; exact c3
  · rw [h.2 _ _ (by omega)]; exact c4 a ha
  · rw [h.2 _ _ (by omega), h.2 _ _ (by omega)]; exact c5 i hi
theorem fl_sh (M : mj_M) (c : Nat) (v : Int32) : fl_ M (pm_sh M c v) := ((fl_.refl M).st (by omega)).st (by omega)
theorem fl_ca (M : mj_M) (a : Nat) (t : Int32) : fl_ M (pm_ca M a t) := by
  unfold pm_ca pm_ca1
  split
  · exact (fl_sh _ _ _).trans (fl_sh _ _ _)
  · exact fl_sh _ _ _
theorem rc_L.congr {A M : mj_M} {L L' : Nat → Int32} (h : rc_L A L M) (e : ∀ c, c < 60 → L c = L' c) : rc_L A L' M := ⟨fun c hc => by rw [h.1 c hc, e c hc], by rw [h.2, aq_nd_c e]⟩
section
variable {X : Nat × (Nat → Int32)} {d : Nat} {M A s : mj_M} {L : Nat → Int32}
theorem pl_isAt {a : Nat} {c : Int32} (ha : a < 24) (hb : rc_b A M) : mj_C0 X (d + 1) mt_L_isAt [mv_r a, mv_i c] M (mv_R (aq_ia A a c) M) := by
  have e0 : M.1 (pr_ a) 0 = A.1 13 a := hb.1 a ha 0 (by decide)
  have e1 : M.1 (pr_ a) 1 = A.1 14 a := hb.1 a ha 1 (by decide)
  have e2 : M.1 (pr_ a) 2 = A.1 15 a := hb.1 a ha 2 (by decide)
  have e3 : M.1 (pr_ a) 3 = A.1 16 a := hb.1 a ha 3 (by decide)
  iterate 2 refine ev_go rfl ?_
  refine ev_ok ⟨ha, by decide⟩ rfl ?_
  iterate 2 refine ev_go rfl ?_
  refine ev_ok ⟨ha, by decide⟩ rfl ?_
  refine ev_callr rfl rfl rfl pe_cellOf ?_
  refine ev_go rfl ?_
  simp only [tn_1, tn_3]
  rw [e1, e3, Int32.mul_comm]
  refine ev_if rfl (fun h10 => ?_) (fun h10 => ?_)
  · iterate 2 refine ev_go rfl ?_
    refine ev_end rfl ?_
    show some (mv_R _ M) = some (mv_R _ M)
    unfold aq_ia
    grind
  · iterate 2 refine ev_go rfl ?_
    refine ev_ok ⟨ha, by decide⟩ rfl ?_
    refine ev_go rfl ?_
    simp only [tn_0]
    rw [e0]
    refine ev_if rfl (fun h17 => ?_) (fun h17 => ?_)
    · iterate 2 refine ev_go rfl ?_
      refine ev_ok ⟨ha, by decide⟩ rfl ?_
      iterate 2 refine ev_go rfl ?_
      refine ev_ok ⟨ha, by decide⟩ rfl ?_
      refine ev_callr rfl rfl rfl pe_cellOf ?_
      refine ev_go rfl ?_
      simp only [tn_2, tn_3]
      rw [e2, e3, Int32.mul_comm]
      refine ev_if rfl (fun h30 => ?_) (fun h30 => ?_)
      · iterate 2 refine ev_go rfl ?_
        refine ev_end rfl ?_
        show some (mv_R _ M) = some (mv_R _ M)
        unfold aq_ia
        grind
      · refine ev_go rfl ?_
        refine ev_end rfl ?_
        show some (mv_R _ M) = some (mv_R _ M)
        unfold aq_ia
        grind
    · refine ev_go rfl ?_
      refine ev_end rfl ?_
      show some (mv_R _ M) = some (mv_R _ M)
      unfold aq_ia
      grind
theorem pl_actAt_l {c i : Int32} (hv : vs_A A) (hb : rc_b A M) : ∀ j k b, k + j = aq_n A → mj_Ev mj_S0 X mj_P (d + 2) mt_L_actAt 5 (mj_up (mj_up (fun j => [mv_p 1, mv_i c, mv_i i][j]?) 3 (mv_i b)) 4 (mv_i (nI k))) [] M 0 (mv_R (aq_fo (fun a => aq_ad A a c) i j k b) M) := by
  have hn : M.1 1 3 = nI (aq_n A) := hb.2.2.1.trans hv.1.1
  have hl := hv.1.2
  intro j
  induction j with
  | zero =>
    intro k b hk
    iterate 3 refine ev_go rfl ?_
    refine ev_if rfl (fun h11 => ?_) (fun h11 => ?_)
    · refine ev_go rfl ?_
      refine ev_end rfl ?_
      rfl
    · exact absurd (show M.1 1 3 ≤ nI k by rw [hn]; exact nI_le (by omega) (by omega)) h11
  | succ j ih =>
    intro k b hk
    have hx := aq_ia0 (c := c) (hv.2.1 k (by omega))
    iterate 3 refine ev_go rfl ?_
    refine ev_if rfl (fun h11 => ?_) (fun h11 => ?_)
    · exact absurd h11 (by rw [hn]; exact nI_ge (by omega) (by omega))
    · iterate 3 refine ev_go rfl ?_
      refine ev_ok (nI_in (show k < 24 by omega) (by decide)) rfl ?_
      rw [nI_clamp (by omega)]
      refine ev_go rfl ?_
      refine ev_callr rfl rfl rfl (pl_isAt (by omega) hb) ?_
      refine ev_if rfl (fun h25 => ?_) (fun h25 => ?_)
      · first
          | (have k74 := h30)
          | (have k68 : aq_ad A k c = 0 := hx.1 h25)
        iterate 2 refine ev_go rfl ?_
        first
          | (have e : aq_fo (fun a => aq_ad A a c) i (j + 1) k b = aq_fo (fun a => aq_ad A a c) i j (k + 1) b := if_pos k68
             rw [e]
             refine ev_lo ?_ (ih (k + 1) b (by omega))
             rw [nI_1, mj_upo])
          | (have e : aq_fo (fun a => aq_ad A a c) i (j + 1) k b = aq_fo (fun a => aq_ad A a c) i j (k + 1) (b + 1) := (if_neg k68).trans (if_neg h30)
             rw [e]
             refine ev_lo ?_ (ih (k + 1) (b + 1) (by omega))
             rw [nI_1]
             exact mj_upn (i := 3) (j := 4) (by decide))
      · have k68 : ¬ aq_ad A k c = 0 := fun q => h25 (hx.2 q)
        iterate 2 refine ev_go rfl ?_
        refine ev_if rfl (fun h30 => ?_) (fun h30 => ?_)
        · refine ev_go rfl ?_
          refine ev_end rfl ?_
          show some _ = some _
          rw [show aq_fo (fun a => aq_ad A a c) i (j + 1) k b = nI k from (if_neg k68).trans (if_pos h30)]
        · refine ev_go rfl ?_
          first
            | (have k74 := h30)
            | (have k68 : aq_ad A k c = 0 := hx.1 h25)
          iterate 2 refine ev_go rfl ?_
          first
            | (have e : aq_fo (fun a => aq_ad A a c) i (j + 1) k b = aq_fo (fun a => aq_ad A a c) i j (k + 1) b := if_pos k68
               rw [e]
               refine ev_lo ?_ (ih (k + 1) b (by omega))
               rw [nI_1, mj_upo])
            | (have e : aq_fo (fun a => aq_ad A a c) i (j + 1) k b = aq_fo (fun a => aq_ad A a c) i j (k + 1) (b + 1) := (if_neg k68).trans (if_neg h30)
               rw [e]
               refine ev_lo ?_ (ih (k + 1) (b + 1) (by omega))
               rw [nI_1]
               exact mj_upn (i := 3) (j := 4) (by decide))
theorem pl_actAt {c i : Int32} (hv : vs_A A) (hb : rc_b A M) : mj_C0 X (d + 2) mt_L_actAt [mv_p 1, mv_i c, mv_i i] M (mv_R (aq_fo (fun a => aq_ad A a c) i (aq_n A) 0 0) M) := by
  iterate 4 refine ev_go rfl ?_
  exact pl_actAt_l hv hb (aq_n A) 0 0 (by omega)
theorem pl_differingCell_l {c i : Nat} (hb : rc_b A M) (hL : rc_L A (aq_E A) M) (ht : ∀ c, -1 ≤ A.1 21 c) (hc : c < 60) (h1 : ct (aq_df A (aq_E A)) c = i) (h2 : ¬ aq_df A (aq_E A) c = 0) : ∀ j k, k + j = c → mj_Ev mj_S0 X mj_P (d + 1) mt_L_differingCell 8 (mj_up (mj_up (fun j => [mv_p 1, mv_i (nI i)][j]?) 2 (mv_i (nI k))) 3 (mv_i (nI (ct (aq_df A (aq_E A)) (k + 1))))) [] M 0 (mv_R (nI c) M) := by
  have hu : ∀ k, ct (aq_df A (aq_E A)) k ≤ k := ct_le _
  intro j
  induction j with
  | zero =>
    intro k hk
    have ek : k = c := by omega
    subst ek
    have e3 := ct_1 h2
    have u1 := hu k
    iterate 2 refine ev_go rfl ?_
    refine ev_if rfl (fun h10 => ?_) (fun h10 => ?_)
    · refine ev_go rfl ?_
      refine ev_end rfl ?_
      rfl
    · exact absurd (nI_lt (show i < ct (aq_df A (aq_E A)) (k + 1) by omega) (by omega)) h10
  | succ j ih =>
    intro k hk
    have u1 := hu (k + 1)
    have u2 : ct (aq_df A (aq_E A)) (k + 1) ≤ i := by rw [← h1]; exact ct_mono _ (by omega)
    iterate 2 refine ev_go rfl ?_
    refine ev_if rfl (fun h10 => ?_) (fun h10 => ?_)
    · first
        | exact absurd h10 (nI_nlt u2 (by have := hu c; omega))
        | exact absurd h16 (by rw [show (59 : Int32) = nI 59 from rfl]; exact nI_ge (by omega) (by omega))
    · iterate 2 refine ev_go rfl ?_
      refine ev_if rfl (fun h16 => ?_) (fun h16 => ?_)
      · first
          | exact absurd h10 (nI_nlt u2 (by have := hu c; omega))
          | exact absurd h16 (by rw [show (59 : Int32) = nI 59 from rfl]; exact nI_ge (by omega) (by omega))
      · refine ev_go rfl ?_
        rw [nI_1]
        iterate 3 refine ev_go rfl ?_
        refine ev_callr rfl rfl rfl (pl_differs (by omega)) ?_
        rw [pd_w (by omega) hb hL ht]
        iterate 3 refine ev_go rfl ?_
        refine ev_lo ?_ (ih (k + 1) (by omega))
        by_cases q : aq_df A (aq_E A) (k + 1) = 0
        · rw [ct_0 q, show aq_w A (aq_E A) (k + 1) = 0 from if_pos q]
          show mj_up (mj_up (mj_up (mj_up _ 2 _) 3 _) 2 _) 3 (mv_i (nI (ct (aq_df A (aq_E A)) (k + 1)) + 0)) = _
          rw [Int32.add_zero]
          exact mj_upn (i := 2) (j := 3) (by decide)
        · rw [ct_1 q, show aq_w A (aq_E A) (k + 1) = 1 from if_neg q]
          show mj_up (mj_up (mj_up (mj_up _ 2 _) 3 _) 2 _) 3 (mv_i (nI (ct (aq_df A (aq_E A)) (k + 1)) + 1)) = _
          rw [nI_1]
          exact mj_upn (i := 2) (j := 3) (by decide)
theorem pl_differingCell {c i : Nat} (hb : rc_b A M) (hL : rc_L A (aq_E A) M) (ht : ∀ c, -1 ≤ A.1 21 c) (hc : c < 60) (h1 : ct (aq_df A (aq_E A)) c = i) (h2 : ¬ aq_df A (aq_E A) c = 0) : mj_C0 X (d + 1) mt_L_differingCell [mv_p 1, mv_i (nI i)] M (mv_R (nI c) M) := by
  have key := pl_differingCell_l (X := X) (d := d) hb hL ht hc h1 h2 c 0 (by omega)
  have e0 : pd_dif M 0 = nI (ct (aq_df A (aq_E A)) (0 + 1)) := by
    rw [pd_w (by decide) hb hL ht]
    by_cases q : aq_df A (aq_E A) 0 = 0
    · rw [ct_0 q]
      exact if_pos q
    · rw [ct_1 q]
      exact if_neg q
  iterate 4 refine ev_go rfl ?_
  refine ev_callr rfl rfl rfl (pl_differs (c := 0) (by decide)) ?_
  rw [show pd_dif M 0 = _ from e0]
  refine ev_go rfl ?_
  exact key
theorem rc_sh {c : Nat} {v : Int32} (hc : c < 60) (hb : rc_b A M) (hL : rc_L A L M) (ht : ∀ c, -1 ≤ A.1 21 c) : rc_L A (aq_sb L c (-v)) (pm_sh M c v) := by
  have f1 : fl_ M (mj_st M 4 c (M.1 4 c + v)) := (fl_.refl M).st (by omega)
  have k4 : ∀ z, z < 60 → (mj_st M 4 c (M.1 4 c + v)).1 4 z = aq_sb L c (-v) z := fun z hz => by
    unfold aq_sb
    by_cases q : z = c
    · rw [q, pm_st0, if_pos rfl, hL.1 c hc]
      grind
    · rw [pm_st1 (by omega), if_neg q, hL.1 z hz]
  refine ⟨fun z hz => ?_, ?_⟩
  · unfold pm_sh
    rw [pm_st1 (by omega)]
    exact k4 z hz
  · unfold pm_sh
    rw [pm_st0, aq_nd_one hc, hL.2, pd_w hc hb hL ht]
    have e : pd_dif (mj_st M 4 c (M.1 4 c + v)) c = aq_w A (aq_sb L c (-v)) c := by
      unfold pd_dif aq_w aq_df
      rw [k4 c hc, pm_st1 (by omega), hb.2.1 c hc]
      have := ht c
      grind
    rw [e]
theorem rc_ca {a : Nat} {t : Int32} (ha : a < 24) (hr : vs_rw A a) (hb : rc_b A M) (hL : rc_L A L M) (ht : ∀ c, -1 ≤ A.1 21 c) : rc_L A (fun z => L z + t * aq_ad A a (nI z)) (pm_ca M a t) := by
  obtain ⟨hp, g1, g2⟩ := hb.pv ha hr
  have e0 : M.1 (pr_ a) 0 = A.1 13 a := hb.1 a ha 0 (by decide)
  have e4 : M.1 (pr_ a) 4 = A.1 17 a := hb.1 a ha 4 (by decide)
  obtain ⟨c1, l1⟩ := hr.c1
  unfold pm_ca pm_ca1
  rw [e0, e4, g1, g2]
  have r1 := rc_sh (v := if A.1 13 a = 0 then A.1 17 a * t else -(A.1 17 a * t)) l1 hb hL ht
  have f1 := fl_sh M (aq_c1 A a) (if A.1 13 a = 0 then A.1 17 a * t else -(A.1 17 a * t))
  have d1 : ¬ (A.1 13 a = 2 ∧ nI (aq_c1 A a) = 6 * A.1 15 a + A.1 16 a) := by
    rintro ⟨q1, q2⟩
    obtain ⟨c2, l2, n2⟩ := hr.c2 q1
    rw [c2, nI_eq (by omega) (by omega)] at q2
    exact n2 q2.symm
  have v1 : aq_ad A a (nI (aq_c1 A a)) = if A.1 13 a = 0 then A.1 17 a else -A.1 17 a := by
    unfold aq_ad
    rw [if_neg d1, if_pos c1.symm]
  by_cases hk : A.1 13 a = 2
  · obtain ⟨c2, l2, n2⟩ := hr.c2 hk
    have v2 : aq_ad A a (nI (aq_c2 A a)) = A.1 17 a := by
      unfold aq_ad
      rw [if_pos ⟨hk, c2.symm⟩]
    rw [if_pos hk]
    refine (rc_sh l2 (f1.rb hb) r1 ht).congr (fun z hz => ?_)
    unfold aq_sb
    by_cases z1 : z = aq_c1 A a
    · rw [if_neg (by omega), if_pos z1, z1, v1]
      split <;> grind
    · rw [if_neg z1]
      by_cases z2 : z = aq_c2 A a
      · rw [if_pos z2, z2, v2]
        grind
      · rw [if_neg z2, aq_ad0 hr hz z1 (fun _ => z2)]
        grind
  · rw [if_neg hk]
    refine r1.congr (fun z hz => ?_)
    unfold aq_sb
    by_cases z1 : z = aq_c1 A a
    · rw [if_pos z1, z1, v1]
      split <;> grind
    · rw [if_neg z1, aq_ad0 hr hz z1 (fun q => absurd q hk)]
      grind
end
