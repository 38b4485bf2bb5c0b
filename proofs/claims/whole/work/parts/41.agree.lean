/-! class and reference agree, call by call -/
/-- both sides of a call tell the same and come to the same -/
def ag_ (X : Nat × (Nat → Int32)) (d : Nat) (R C : mj_T) (ra ca : List mj_V) (A : mj_M) : Prop := ∃ c v A', vs_A A' ∧ rs_ X (d + 13) R ra A c v A' ∧ cs_ X (d + 13) C ca A c v A'
theorem rm_on {A M : mj_M} (h : rm_ A M) {k p o g n w : Int32} : on_ok M k p o g n w ↔ on_ok A k p o g n w := by
  unfold on_ok
  rw [rm_n h, h.q (by decide) (by decide)]
theorem rm_vn {A M : mj_M} (hv : vs_A A) (h : rm_ A M) : M.1 12 1 = nI (aq_n M) ∧ aq_n M ≤ 24 := by
  rw [rm_n h, h.s (by decide)]
  exact hv.1
theorem rm_00 {A M : mj_M} (h : rm_ A M) {c : Int32} : rm_ A (mj_st M 12 0 c) := h.sr (by unfold aq_k; omega)
theorem fm_00 {M : mj_M} {c : Int32} : fm_ M (mj_st M 12 0 c) := (fm_.refl M).st (by decide) (by decide)
theorem rm_ost {A M : mj_M} (h : rm_ A M) {k p o g n w : Int32} : rm_ (on_st A k p o g n w) (on_st M k p o g n w) := by
  unfold on_st
  rw [rm_n h]
  exact ((((((h.st _ _ _).st _ _ _).st _ _ _).st _ _ _).st _ _ _).st _ _ _).st _ _ _
theorem rm_oa {A M : mj_M} (h : rm_ A M) : ∀ k, rm_ (oa_ A k) (oa_ M k)
  | 0 => h
  | k + 1 => by
    show rm_ (mj_st (oa_ A k) 19 (aq_fa A k) (1 + aq_fh A k)) (mj_st (oa_ M k) 19 (aq_fa M k) (1 + aq_fh M k))
    have e1 : aq_fa M k = aq_fa A k := by unfold aq_fa; rw [h.q (by decide) (by decide)]
    have e2 : aq_fh M k = aq_fh A k := by unfold aq_fh; rw [h.q (by decide) (by decide)]
    rw [e1, e2]
    exact (rm_oa h k).st _ _ _
theorem rm_dfE {A M : mj_M} (h : rm_ A M) : aq_df M (aq_E M) = aq_df A (aq_E A) := by
  funext z
  rw [rm_df h, rm_E h]
theorem rm_ndE {A M : mj_M} (h : rm_ A M) : aq_nd M (aq_E M) = aq_nd A (aq_E A) := by rw [rm_nd h, rm_E h]
theorem rm_caf {A M : mj_M} (h : rm_ A M) : aq_ca M = aq_ca A := funext (fun a => rm_ca h a)
theorem fm_oa (M : mj_M) : ∀ k, fm_ M (oa_ M k) ∧ (oa_ M k).1 12 0 = M.1 12 0
  | 0 => ⟨fm_.refl M, rfl⟩
  | k + 1 => ⟨(fm_oa M k).1.st (by decide) (by decide), by
    show (mj_st (oa_ M k) 19 _ _).1 12 0 = _
    rw [pm_st1 (by omega)]
    exact (fm_oa M k).2⟩
section
variable {X : Nat × (Nat → Int32)} {d : Nat} {M A : mj_M}
theorem pr_put {p g n w : Int32} {x : Int32} {M' : mj_M} (h : mj_C0 X d mt_M_newAct [mv_p 12, mv_i 0, mv_i p, mv_i (-1), mv_i g, mv_i n, mv_i w] M (.inr (some (.inl x)), M', 0)) : mj_C0 X (d + 1) mt_M_put [mv_p 12, mv_i p, mv_i g, mv_i n, mv_i w] M (mv_R x M') := by
  iterate 7 refine ev_go rfl ?_
  refine ev_callr rfl rfl rfl h ?_
  refine ev_end rfl ?_
  rfl
theorem ag_put (hv : vs_A A) (p g n w : Int32) : ag_ X d mt_M_put mt_W_put [mv_p 12, mv_i p, mv_i g, mv_i n, mv_i w] [mv_p 0, mv_i p, mv_i g, mv_i n, mv_i w, mv_p 28] A := by
  have hon : on_ok A 0 p (-1) g n w ↔ na_ok A p g n w := by
    rw [on_na hv]
    exact ⟨fun q => q.1, fun q => ⟨q, fun q2 => absurd q2 (by decide)⟩⟩
  by_cases h : na_ok A p g n w
  · have ho := hon.2 h
    by_cases hl : aq_n A = 24
    · refine ⟨2, 0, A, hv, fun M hr => ?_, pw_put_2 (pz_put (d := d + 8) hv hl h)⟩
      obtain ⟨n1, n2⟩ := rm_vn hv hr
      exact ⟨_, pr_put (pm_newAct_y (d := d + 11) n1 (by rw [rm_n hr]; exact hl) ((rm_on hr).2 ho)), rm_00 hr, fm_00, pm_st0⟩
    · have hl' : aq_n A < 24 := by have := hv.1.2; omega
      obtain ⟨v1, v2⟩ := vs_on hv hl' (by decide) ho
      refine ⟨0, nI (aq_n A), on_st A 0 p (-1) g n w, v1, fun M hr => ?_, pw_put (py_put (d := d + 8) hv hl' h v2)⟩
      obtain ⟨n1, n2⟩ := rm_vn hv hr
      have key := pr_put (pm_newAct (X := X) (d := d + 11) n1 (by rw [rm_n hr]; exact hl') ((rm_on hr).2 ho))
      rw [rm_n hr] at key
      refine ⟨_, key, rm_ost (rm_00 hr), ?_, ?_⟩
      · unfold on_st
        exact (((((((fm_00).st (by decide) (by decide)).st (by decide) (by decide)).st (by decide) (by decide)).st (by decide) (by decide)).st (by decide) (by decide)).st (by decide) (by decide)).st (by decide) (by decide)
      · rw [on_q (by omega), pm_st0]
  · refine ⟨1, 0, A, hv, fun M hr => ?_, pw_put_1 (px_put (d := d + 8) hv h)⟩
    obtain ⟨n1, n2⟩ := rm_vn hv hr
    exact ⟨_, pr_put (pm_newAct_x (d := d + 11) n1 n2 (fun q => h (hon.1 ((rm_on hr).1 q)))), rm_00 hr, fm_00, pm_st0⟩
theorem pr_take {p g n w : Int32} {x : Int32} {M' : mj_M} (h : mj_C0 X d mt_M_newAct [mv_p 12, mv_i 1, mv_i p, mv_i (-1), mv_i g, mv_i n, mv_i w] M (.inr (some (.inl x)), M', 0)) : mj_C0 X (d + 1) mt_M_take [mv_p 12, mv_i p, mv_i g, mv_i n, mv_i w] M (mv_R x M') := by
  iterate 7 refine ev_go rfl ?_
  refine ev_callr rfl rfl rfl h ?_
  refine ev_end rfl ?_
  rfl
theorem ag_take (hv : vs_A A) (p g n w : Int32) : ag_ X d mt_M_take mt_W_take [mv_p 12, mv_i p, mv_i g, mv_i n, mv_i w] [mv_p 0, mv_i p, mv_i g, mv_i n, mv_i w, mv_p 28] A := by
  have hon : on_ok A 1 p (-1) g n w ↔ na_ok A p g n w := by
    rw [on_na hv]
    exact ⟨fun q => q.1, fun q => ⟨q, fun q2 => absurd q2 (by decide)⟩⟩
  by_cases h : na_ok A p g n w
  · have ho := hon.2 h
    by_cases hl : aq_n A = 24
    · refine ⟨2, 0, A, hv, fun M hr => ?_, pw_take_2 (pz_take (d := d + 8) hv hl h)⟩
      obtain ⟨n1, n2⟩ := rm_vn hv hr
      exact ⟨_, pr_take (pm_newAct_y (d := d + 11) n1 (by rw [rm_n hr]; exact hl) ((rm_on hr).2 ho)), rm_00 hr, fm_00, pm_st0⟩
    · have hl' : aq_n A < 24 := by have := hv.1.2; omega
      obtain ⟨v1, v2⟩ := vs_on hv hl' (by decide) ho
      refine ⟨0, nI (aq_n A), on_st A 1 p (-1) g n w, v1, fun M hr => ?_, pw_take (py_take (d := d + 8) hv hl' h v2)⟩
      obtain ⟨n1, n2⟩ := rm_vn hv hr
      have key := pr_take (pm_newAct (X := X) (d := d + 11) n1 (by rw [rm_n hr]; exact hl') ((rm_on hr).2 ho))
      rw [rm_n hr] at key
      refine ⟨_, key, rm_ost (rm_00 hr), ?_, ?_⟩
      · unfold on_st
        exact (((((((fm_00).st (by decide) (by decide)).st (by decide) (by decide)).st (by decide) (by decide)).st (by decide) (by decide)).st (by decide) (by decide)).st (by decide) (by decide)).st (by decide) (by decide)
      · rw [on_q (by omega), pm_st0]
  · refine ⟨1, 0, A, hv, fun M hr => ?_, pw_take_1 (px_take (d := d + 8) hv h)⟩
    obtain ⟨n1, n2⟩ := rm_vn hv hr
    exact ⟨_, pr_take (pm_newAct_x (d := d + 11) n1 n2 (fun q => h (hon.1 ((rm_on hr).1 q)))), rm_00 hr, fm_00, pm_st0⟩
theorem pr_move {p o g n w : Int32} {x : Int32} {M' : mj_M} (h : mj_C0 X d mt_M_newAct [mv_p 12, mv_i 2, mv_i p, mv_i o, mv_i g, mv_i n, mv_i w] M (.inr (some (.inl x)), M', 0)) : mj_C0 X (d + 1) mt_M_move [mv_p 12, mv_i p, mv_i o, mv_i g, mv_i n, mv_i w] M (mv_R x M') := by
  iterate 7 refine ev_go rfl ?_
  refine ev_callr rfl rfl rfl h ?_
  refine ev_end rfl ?_
  rfl
theorem ag_move (hv : vs_A A) (p o g n w : Int32) : ag_ X d mt_M_move mt_W_move [mv_p 12, mv_i p, mv_i o, mv_i g, mv_i n, mv_i w] [mv_p 0, mv_i p, mv_i o, mv_i g, mv_i n, mv_i w, mv_p 28] A := by
  have hon : on_ok A 2 p o g n w ↔ (na_ok A p g n w ∧ (0 ≤ o ∧ o ≤ 9 ∧ ¬ o = p)) := by
    rw [on_na hv]
    exact ⟨fun q => ⟨q.1, q.2 rfl⟩, fun q => ⟨q.1, fun _ => q.2⟩⟩
  by_cases h : (na_ok A p g n w ∧ (0 ≤ o ∧ o ≤ 9 ∧ ¬ o = p))
  · have ho := hon.2 h
    by_cases hl : aq_n A = 24
    · refine ⟨2, 0, A, hv, fun M hr => ?_, pw_move_2 (pz_move (d := d + 8) hv hl h.1 h.2)⟩
      obtain ⟨n1, n2⟩ := rm_vn hv hr
      exact ⟨_, pr_move (pm_newAct_y (d := d + 11) n1 (by rw [rm_n hr]; exact hl) ((rm_on hr).2 ho)), rm_00 hr, fm_00, pm_st0⟩
    · have hl' : aq_n A < 24 := by have := hv.1.2; omega
      obtain ⟨v1, v2⟩ := vs_on hv hl' (by decide) ho
      refine ⟨0, nI (aq_n A), on_st A 2 p o g n w, v1, fun M hr => ?_, pw_move (py_move (d := d + 8) hv hl' h.1 h.2 v2)⟩
      obtain ⟨n1, n2⟩ := rm_vn hv hr
      have key := pr_move (pm_newAct (X := X) (d := d + 11) n1 (by rw [rm_n hr]; exact hl') ((rm_on hr).2 ho))
      rw [rm_n hr] at key
      refine ⟨_, key, rm_ost (rm_00 hr), ?_, ?_⟩
      · unfold on_st
        exact (((((((fm_00).st (by decide) (by decide)).st (by decide) (by decide)).st (by decide) (by decide)).st (by decide) (by decide)).st (by decide) (by decide)).st (by decide) (by decide)).st (by decide) (by decide)
      · rw [on_q (by omega), pm_st0]
  · refine ⟨1, 0, A, hv, fun M hr => ?_, pw_move_1 (px_move (d := d + 8) hv h)⟩
    obtain ⟨n1, n2⟩ := rm_vn hv hr
    exact ⟨_, pr_move (pm_newAct_x (d := d + 11) n1 n2 (fun q => h (hon.1 ((rm_on hr).1 q)))), rm_00 hr, fm_00, pm_st0⟩
/-- an act's number is one or is not -/
theorem no_act (hv : vs_A A) (a : Int32) : (pd_na A a = 0 ∧ ∃ j, j < aq_n A ∧ a = nI j) ∨ (¬ pd_na A a = 0 ∧ (a < 0 ∨ ¬ a < nI (aq_n A))) := by
  by_cases h : pd_na A a = 0
  · exact Or.inl ⟨h, (na_0 hv.1.1 hv.1.2).1 h⟩
  · refine Or.inr ⟨h, ?_⟩
    unfold pd_na at h
    rw [hv.1.1] at h
    by_cases h1 : a < 0
    · exact Or.inl h1
    · rw [if_neg h1] at h
      by_cases h2 : a < nI (aq_n A)
      · rw [if_pos h2] at h
        exact absurd rfl h
      · exact Or.inr h2
theorem sh_ci (hv : vs_A A) (n : Nat) : sm (aq_ci A 7 1) n = sm (aq_sh A) n := sm_congr (fun a _ => by
  show (if A.1 20 a = 1 then (1 : Int32) else 0) = if A.1 20 a = 0 then 0 else 1
  rcases hv.2.2.2.1 a with q | q <;> rw [q] <;> decide)
theorem ag_closed (hv : vs_A A) (a b : Int32) (hb : b = 0 ∨ b = 1) : ag_ X d mt_M_closed mt_W_closed [mv_p 12, mv_i a, mv_i b] [mv_p 0, mv_i a, mv_i b, mv_p 28] A := by
  rcases no_act hv a with ⟨h1, j, h2, h3⟩ | ⟨h1, h2⟩
  · subst h3
    have hv' : vs_A (mj_st A 20 j b) := vs_st hv (Or.inr (Or.inr (Or.inl ⟨rfl, hb⟩)))
    have key := py_closed (X := X) (d := d + 8) hv h2 hb hv'
    rw [sh_ci hv'] at key
    refine ⟨0, _, mj_st A 20 j b, hv', fun M hr => ?_, pw_closed key⟩
    obtain ⟨n1, n2⟩ := rm_vn hv hr
    have k2 := pm_closed (X := X) (d := d + 12) (a := j) (b := b) (by have := hv.1.2; omega) (by rw [rm_na hr]; exact h1) hb n1 n2
    have r1 : rm_ (mj_st A 20 j b) (mj_st (mj_st M 12 0 0) 20 j b) := (rm_00 hr).st _ _ _
    have e1 : aq_sh (mj_st (mj_st M 12 0 0) 20 j b) = aq_sh (mj_st A 20 j b) := by
      funext z
      unfold aq_sh
      rw [r1.q (by decide) (by decide)]
    rw [e1, rm_n hr] at k2
    exact ⟨_, k2, r1, fm_00.st (by decide) (by decide), by rw [pm_st1 (by omega), pm_st0]⟩
  · refine ⟨1, 0, A, hv, rs_of (fun M hr => pm_closed_x (by rw [rm_na hr]; exact h1)), pw_closed_1 (px_closed (d := d + 8) hv h2)⟩
theorem ag_window (hv : vs_A A) (a b : Int32) : ag_ X d mt_M_window mt_W_window [mv_p 12, mv_i a, mv_i b] [mv_p 0, mv_i a, mv_i b, mv_p 28] A := by
  by_cases h : 0 ≤ a ∧ a ≤ 10000 ∧ 0 ≤ b ∧ b ≤ 10000 ∧ a ≤ b
  · have hv' : vs_A (ow_ A a b) := vs_st (vs_st hv (Or.inl ⟨rfl, Or.inl rfl⟩)) (Or.inl ⟨rfl, Or.inr rfl⟩)
    refine ⟨0, _, ow_ A a b, hv', fun M hr => ?_, pw_window (py_window (d := d + 8) h hv')⟩
    have r1 : rm_ (ow_ A a b) (ow_ (mj_st M 12 0 0) a b) := ((rm_00 hr).st _ _ _).st _ _ _
    have k2 := pm_window (X := X) (d := d + 11) h ((rm_vA r1).2 hv')
    rw [rm_caf r1, rm_n r1] at k2
    exact ⟨_, k2, r1, (fm_00.st (by decide) (by decide)).st (by decide) (by decide), by unfold ow_; rw [pm_st1 (by omega), pm_st1 (by omega), pm_st0]⟩
  · exact ⟨1, 0, A, hv, rs_of (fun M hr => pm_window_x h), pw_window_1 (px_window (d := d + 8) h)⟩
theorem pg_of {p g : Int32} (h : 0 ≤ p ∧ p ≤ 9 ∧ 0 ≤ g ∧ g ≤ 5) : ∃ p' g' : Nat, p' < 10 ∧ g' < 6 ∧ p = nI p' ∧ g = nI g' := by
  obtain ⟨p', hp, ep⟩ := nI_of2 (n := 9) rfl (show ¬ p < 0 by grind) h.2.1
  obtain ⟨g', hg, eg⟩ := nI_of2 (n := 5) rfl (show ¬ g < 0 by grind) h.2.2.2
  exact ⟨p', g', by omega, by omega, ep, eg⟩
theorem ag_counted (hv : vs_A A) (p g n : Int32) : ag_ X d mt_M_counted mt_W_counted [mv_p 12, mv_i p, mv_i g, mv_i n] [mv_p 0, mv_i p, mv_i g, mv_i n, mv_p 28] A := by
  by_cases h : 0 ≤ p ∧ p ≤ 9 ∧ 0 ≤ g ∧ g ≤ 5 ∧ -1 ≤ n ∧ n ≤ 100000
  · obtain ⟨p', g', hp, hg, ep, eg⟩ := pg_of (show 0 ≤ p ∧ p ≤ 9 ∧ 0 ≤ g ∧ g ≤ 5 by grind)
    subst ep eg
    have h0 : -1 ≤ n ∧ n ≤ 100000 := by grind
    have hv' : vs_A (oc_ A (p' * 6 + g') n) := vs_st hv (Or.inr (Or.inr (Or.inr (Or.inl ⟨rfl, h0.1⟩))))
    refine ⟨0, _, oc_ A (p' * 6 + g') n, hv', fun M hr => ?_, pw_counted (py_counted (d := d + 8) hv hp hg h0)⟩
    obtain ⟨n1, n2⟩ := rm_vn hv hr
    have r1 : rm_ (oc_ A (p' * 6 + g') n) (oc_ (mj_st M 12 0 0) (p' * 6 + g') n) := (rm_00 hr).st _ _ _
    have k2 := pm_counted (X := X) (d := d + 9) hp hg h0 n1 n2
    rw [rm_ndE r1] at k2
    exact ⟨_, k2, r1, fm_00.st (by decide) (by decide), by unfold oc_; rw [pm_st1 (by omega), pm_st0]⟩
  · exact ⟨1, 0, A, hv, rs_of (fun M hr => pm_counted_x h), pw_counted_1 (px_counted (d := d + 8) h)⟩
theorem ag_expected (hv : vs_A A) (p g : Int32) : ag_ X d mt_M_expected mt_W_expected [mv_p 12, mv_i p, mv_i g] [mv_p 0, mv_i p, mv_i g, mv_p 28] A := by
  by_cases h : 0 ≤ p ∧ p ≤ 9 ∧ 0 ≤ g ∧ g ≤ 5
  · obtain ⟨p', g', hp, hg, ep, eg⟩ := pg_of h
    subst ep eg
    refine ⟨0, _, A, hv, rs_of (fun M hr => ?_), pw_expected (py_expected (d := d + 8) hp hg)⟩
    obtain ⟨n1, n2⟩ := rm_vn hv hr
    have k2 := pm_expected (X := X) (d := d + 11) hp hg n1 n2
    rw [rm_E hr] at k2
    exact k2
  · exact ⟨1, 0, A, hv, rs_of (fun M hr => pm_expected_x h), pw_expected_1 (px_expected (d := d + 8) h)⟩
theorem ag_differ (hv : vs_A A) (i w : Int32) : ag_ X d mt_M_differ mt_W_differ [mv_p 12, mv_i i, mv_i w] [mv_p 0, mv_i i, mv_i w, mv_p 28] A := by
  by_cases h : i < 0 ∨ ¬ i < aq_nd A (aq_E A)
  · refine ⟨1, 0, A, hv, rs_of (fun M hr => ?_), pw_differ_1 (px_differ (d := d + 8) h)⟩
    obtain ⟨n1, n2⟩ := rm_vn hv hr
    exact pm_differ_x n1 n2 (by rw [rm_ndE hr]; exact h)
  · have h1 : ¬ i < 0 ∧ i < aq_nd A (aq_E A) := by
      by_cases q : i < 0
      · exact absurd (Or.inl q) h
      · by_cases q2 : i < aq_nd A (aq_E A)
        · exact ⟨q, q2⟩
        · exact absurd (Or.inr q2) h
    obtain ⟨j, hj, e⟩ := nI_of h1.1
    subst e
    have u := ct_le (aq_df A (aq_E A)) 60
    have lj : j < ct (aq_df A (aq_E A)) 60 := by
      have q := h1.2
      unfold aq_nd at q
      rw [aq_wct] at q
      exact (nI_ltI hj (by omega)).1 q
    by_cases hw : 0 ≤ w ∧ w ≤ 2
    · obtain ⟨c, hc, c1, c2⟩ := ct_at lj
      refine ⟨0, _, A, hv, rs_of (fun M hr => ?_), pw_differ (py_differ (d := d + 8) hv hc c1 c2 hw)⟩
      obtain ⟨n1, n2⟩ := rm_vn hv hr
      have k2 := pm_differ (X := X) (d := d + 9) (i := j) (w := w) n1 n2 hc (by rw [rm_dfE hr]; exact c1) (by rw [rm_dfE hr]; exact c2) hw
      rw [rm_dfE hr] at k2
      exact k2
    · refine ⟨2, 0, A, hv, rs_of (fun M hr => ?_), pw_differ_2 (pz_differ (d := d + 8) lj hw)⟩
      obtain ⟨n1, n2⟩ := rm_vn hv hr
      exact pm_differ_y n1 n2 (by rw [rm_ndE hr]; exact h1) hw
theorem ag_search (hv : vs_A A) (a b : Int32) : ag_ X d mt_M_search mt_W_search [mv_p 12, mv_i a, mv_i b] [mv_p 0, mv_i a, mv_i b, mv_p 28] A := by
  by_cases h : 1 ≤ a ∧ a ≤ 4 ∧ 0 ≤ b ∧ b ≤ 20000
  · obtain ⟨mo, hmo, e⟩ := nI_of2 (n := 4) rfl (show ¬ a < 0 by grind) h.2.1
    subst e
    have h0 : 0 < mo := by
      rcases Nat.eq_zero_or_pos mo with q | q
      · rw [q] at h
        exact absurd h.1 (by decide)
      · exact q
    exact ⟨0, _, _, vs_sr hv hmo, pm_search (d := d + 10) hv h0 hmo ⟨h.2.2.1, h.2.2.2⟩, pw_search (py_search (d := d) hv h0 hmo ⟨h.2.2.1, h.2.2.2⟩)⟩
  · exact ⟨1, 0, A, hv, rs_of (fun M hr => pm_search_x h), pw_search_1 (px_search (d := d) h)⟩
theorem ag_often (hv : vs_A A) (a : Int32) : ag_ X d mt_M_often mt_W_often [mv_p 12, mv_i a] [mv_p 0, mv_i a, mv_p 28] A := by
  rcases no_act hv a with ⟨h1, j, h2, h3⟩ | ⟨h1, h2⟩
  · subst h3
    refine ⟨0, _, A, hv, rs_of (fun M hr => ?_), pw_often (py_often (d := d + 8) hv h2)⟩
    have k2 := pm_often (X := X) (d := d + 12) (M := M) (a := j) (by have := hv.1.2; omega) (by rw [rm_na hr]; exact h1)
    rw [hr.q (by decide) (by decide)] at k2
    exact k2
  · exact ⟨1, 0, A, hv, rs_of (fun M hr => pm_often_x (by rw [rm_na hr]; exact h1)), pw_often_1 (px_often (d := d + 8) hv h2)⟩
theorem ag_found (hv : vs_A A) (i w : Int32) : ag_ X d mt_M_found mt_W_found [mv_p 12, mv_i i, mv_i w] [mv_p 0, mv_i i, mv_i w, mv_p 28] A := by
  obtain ⟨m, m1, m2, m3, m4⟩ := vs_ch hv
  by_cases h : i < 0 ∨ ¬ i < A.1 12 17
  · exact ⟨1, 0, A, hv, rs_of (fun M hr => pm_found_x (by rw [hr.s (by decide)]; exact h)), pw_found_1 (px_found (d := d + 8) hv h)⟩
  · have h1 : ¬ i < 0 ∧ i < A.1 12 17 := by
      by_cases q : i < 0
      · exact absurd (Or.inl q) h
      · by_cases q2 : i < A.1 12 17
        · exact ⟨q, q2⟩
        · exact absurd (Or.inr q2) h
    obtain ⟨j, hj, e⟩ := nI_of h1.1
    subst e
    have lj : j < m := by
      have q := h1.2
      rw [m2] at q
      exact (nI_ltI hj (by omega)).1 q
    by_cases hw : 0 ≤ w ∧ w ≤ 1
    · refine ⟨0, _, A, hv, rs_of (fun M hr => ?_), pw_found (py_found (d := d + 8) hv (by rw [m3]; exact lj) hw)⟩
      have k2 := pm_found (X := X) (d := d + 12) (M := M) (i := j) (w := w) (by omega) (by rw [hr.s (by decide)]; exact h1.2) hw
      rw [hr.q (by decide) (by decide)] at k2
      exact k2
    · exact ⟨2, 0, A, hv, rs_of (fun M hr => pm_found_y (by rw [hr.s (by decide)]; exact h1) hw), pw_found_2 (pz_found (d := d + 8) hv (by rw [m3]; exact lj) hw)⟩
theorem ag_accept (hv : vs_A A) : ag_ X d mt_M_accept mt_W_accept [mv_p 12] [mv_p 0, mv_p 28] A := by
  obtain ⟨m, m1, m2, m3, m4⟩ := vs_ch hv
  have hl := hv.1.2
  have hfA : ∀ i, i < m → A.1 23 i / 2 = nI (aq_fa A i) ∧ aq_fa A i < aq_n A ∧ (aq_fh A i = 0 ∨ aq_fh A i = 1) := fun i hi => by
    obtain ⟨a, g, k1, k2, k3⟩ := m4 i hi
    obtain ⟨d1, d2⟩ := ah_d (a := a) (h := g) (by omega) k2
    have e1 : aq_fa A i = a := by
      unfold aq_fa
      rw [k3, d1, nI_clamp (by omega)]
    refine ⟨by rw [e1, k3, d1], by omega, ?_⟩
    unfold aq_fh
    rw [k3, d2]
    rcases (show g = 0 ∨ g = 1 by omega) with q | q <;> subst q
    · exact Or.inl rfl
    · exact Or.inr rfl
  have hf : ∀ M, rm_ A M → (∀ i, aq_fa M i = aq_fa A i) ∧ ∀ i, i < m → M.1 23 i / 2 = nI (aq_fa M i) ∧ aq_fa M i < 24 := fun M hr => by
    have e1 : ∀ i, aq_fa M i = aq_fa A i := fun i => by unfold aq_fa; rw [hr.q (by decide) (by decide)]
    refine ⟨e1, fun i hi => ?_⟩
    rw [e1, hr.q (by decide) (by decide)]
    exact ⟨(hfA i hi).1, by have := (hfA i hi).2.1; omega⟩
  by_cases h : m = 0 ∨ ∃ i, i < m ∧ ¬ A.1 19 (aq_fa A i) = 0
  · refine ⟨1, 0, A, hv, rs_of (fun M hr => ?_), pw_accept_1 (px_accept (d := d + 6) hv ?_)⟩
    · obtain ⟨f1, f2⟩ := hf M hr
      refine pm_accept_x (m := m) (by rw [hr.s (by decide)]; exact m2) m1 f2 ?_
      rcases h with q | ⟨i, q1, q2⟩
      · exact Or.inl q
      · refine Or.inr ⟨i, q1, ?_⟩
        rw [f1, hr.q (by decide) (by decide)]
        exact q2
    · rcases h with q | ⟨i, q1, q2⟩
      · exact Or.inl (by rw [m2, q]; rfl)
      · exact Or.inr ⟨i, by rw [m3]; exact q1, q2⟩
  · have h0 : 0 < m := by
      rcases Nat.eq_zero_or_pos m with q | q
      · exact absurd (Or.inl q) h
      · exact q
    have hp : ∀ i, i < m → A.1 19 (aq_fa A i) = 0 := fun i hi => by
      by_cases q : A.1 19 (aq_fa A i) = 0
      · exact q
      · exact absurd (Or.inr ⟨i, hi, q⟩) h
    have hv' : vs_A (mj_st (oa_ A m) 12 17 0) := vs_st (vs_oa hv (fun i hi => ⟨(hfA i hi).2.2, (hfA i hi).2.1⟩) m (Nat.le_refl _)) (Or.inr (Or.inr (Or.inr (Or.inr ⟨rfl, rfl, rfl⟩))))
    refine ⟨0, _, _, hv', fun M hr => ?_, pw_accept (py_accept (d := d + 6) hv h0 m1 m2 hp)⟩
    obtain ⟨f1, f2⟩ := hf M hr
    obtain ⟨n1, n2⟩ := rm_vn hv hr
    have k2 := pm_accept (X := X) (d := d + 9) (M := M) (m := m) (by rw [hr.s (by decide)]; exact m2) h0 m1 f2 (fun i hi => by rw [f1, hr.q (by decide) (by decide)]; exact hp i hi) n1 n2
    have r1 : rm_ (mj_st (oa_ A m) 12 17 0) (mj_st (oa_ (mj_st M 12 0 0) m) 12 17 0) := (rm_oa (rm_00 hr) m).st _ _ _
    rw [rm_ndE r1] at k2
    exact ⟨_, k2, r1, (fm_00.trans (fm_oa _ m).1).st (by decide) (by decide), by rw [pm_st1 (by omega), (fm_oa _ m).2, pm_st0]⟩
theorem ag_back (hv : vs_A A) (a : Int32) : ag_ X d mt_M_back mt_W_back [mv_p 12, mv_i a] [mv_p 0, mv_i a, mv_p 28] A := by
  have hl := hv.1.2
  rcases no_act hv a with ⟨h1, j, h2, h3⟩ | ⟨h1, h2⟩
  · subst h3
    by_cases h4 : A.1 19 j = 0
    · exact ⟨2, 0, A, hv, rs_of (fun M hr => pm_back_y (by omega) (by rw [rm_na hr]; exact h1) (by rw [hr.q (by decide) (by decide)]; exact h4)), pw_back_2 (pz_back (d := d + 8) hv h2 h4)⟩
    · have hv' : vs_A (mj_st A 19 j 0) := vs_st hv (Or.inr (Or.inl ⟨rfl, h2, Or.inl rfl⟩))
      refine ⟨0, _, _, hv', fun M hr => ?_, pw_back (py_back (d := d + 8) hv h2 h4)⟩
      obtain ⟨n1, n2⟩ := rm_vn hv hr
      have k2 := pm_back (X := X) (d := d + 9) (M := M) (a := j) (by omega) (by rw [rm_na hr]; exact h1) (by rw [hr.q (by decide) (by decide)]; exact h4) n1 n2
      have r1 : rm_ (mj_st A 19 j 0) (mj_st (mj_st M 12 0 0) 19 j 0) := (rm_00 hr).st _ _ _
      rw [rm_ndE r1] at k2
      exact ⟨_, k2, r1, fm_00.st (by decide) (by decide), by rw [pm_st1 (by omega), pm_st0]⟩
  · exact ⟨1, 0, A, hv, rs_of (fun M hr => pm_back_x (by rw [rm_na hr]; exact h1)), pw_back_1 (px_back (d := d + 8) hv h2)⟩
theorem ag_share (hv : vs_A A) (p q : Int32) : ag_ X d mt_M_share mt_W_share [mv_p 12, mv_i p, mv_i q] [mv_p 0, mv_i p, mv_i q, mv_p 28] A := by
  by_cases h : 0 ≤ p ∧ p ≤ 1000000 ∧ 0 ≤ q
  · by_cases h' : q = 0
    · exact ⟨2, 0, A, hv, rs_of (fun M hr => pm_share_y h h'), pw_share_2 (pz_share (d := d + 8) h h')⟩
    · exact ⟨0, _, A, hv, rs_of (fun M hr => pm_share h h'), pw_share (py_share (d := d + 8) h h')⟩
  · exact ⟨1, 0, A, hv, rs_of (fun M hr => pm_share_x h), pw_share_1 (px_share (d := d + 8) h)⟩
theorem ag_told (hv : vs_A A) (a w : Int32) : ag_ X d mt_M_told mt_W_told [mv_p 12, mv_i a, mv_i w] [mv_p 0, mv_i a, mv_i w, mv_p 28] A := by
  have hl := hv.1.2
  rcases no_act hv a with ⟨h1, j, h2, h3⟩ | ⟨h1, h2⟩
  · subst h3
    by_cases hw : 0 ≤ w ∧ w ≤ 8
    · obtain ⟨w', hw', e⟩ := nI_of2 (n := 8) rfl (show ¬ w < 0 by grind) hw.2
      subst e
      refine ⟨0, _, A, hv, rs_of (fun M hr => ?_), pw_told (py_told (d := d + 8) hv h2 hw')⟩
      have k2 := pm_told (X := X) (d := d + 12) (M := M) (a := j) (w := w') (by omega) (by rw [rm_na hr]; exact h1) hw' ((rm_rw hr j).2 (hv.2.1 j h2))
      have e2 : aq_to M j w' = aq_to A j w' := by
        unfold aq_to
        by_cases q8 : w' = 8
        · rw [if_pos q8, if_pos q8, rm_ca hr]
        · rw [if_neg q8, if_neg q8, hr.q (q := 20) (by decide) (by decide), hr.q (q := 13 + w') (by omega) (by omega)]
      rw [e2] at k2
      exact k2
    · exact ⟨2, 0, A, hv, rs_of (fun M hr => pm_told_y (by rw [rm_na hr]; exact h1) hw), pw_told_2 (pz_told (d := d + 8) hv h2 hw)⟩
  · exact ⟨1, 0, A, hv, rs_of (fun M hr => pm_told_x (by rw [rm_na hr]; exact h1)), pw_told_1 (px_told (d := d + 8) hv h2)⟩
theorem ag_of (hv : vs_A A) (p g i : Int32) : ag_ X d mt_M_of mt_W_of [mv_p 12, mv_i p, mv_i g, mv_i i] [mv_p 0, mv_i p, mv_i g, mv_i i, mv_p 28] A := by
  by_cases h : 0 ≤ p ∧ p ≤ 9 ∧ 0 ≤ g ∧ g ≤ 5 ∧ 0 ≤ i
  · refine ⟨0, _, A, hv, rs_of (fun M hr => ?_), pw_of (py_of (d := d + 8) hv h)⟩
    obtain ⟨n1, n2⟩ := rm_vn hv hr
    have k2 := pm_of (X := X) (d := d + 11) (M := M) h n1 n2
    rw [rm_n hr, show (fun a => aq_ad M a (6 * p + g)) = (fun a => aq_ad A a (6 * p + g)) from funext (fun a => rm_ad hr a _)] at k2
    exact k2
  · exact ⟨1, 0, A, hv, rs_of (fun M hr => pm_of_x h), pw_of_1 (px_of (d := d + 8) h)⟩
/-- the calls that are compared as they stand -/
def ah_ (X : Nat × (Nat → Int32)) (d : Nat) (R C : mj_T) (ra ca : List mj_V) (A : mj_M) : Prop := ∃ v, rs_ X (d + 13) R ra A 0 v A ∧ ey_ X (d + 13) C ca A v A
theorem ah_exact (hv : vs_A A) : ah_ X d mt_M_exact mt_E_exact [mv_p 12] [mv_p 0] A := ⟨A.1 12 13, rs_of (fun M hr => by
  have k2 := pm_exact (X := X) (d := d + 13) (M := M) (by rw [hr.s (by decide)]; exact hv.2.2.2.2.2.2.1)
  rw [hr.s (by decide)] at k2
  exact k2), py_exact hv.2.2.2.2.2.2.1⟩
theorem ah_steps : ah_ X d mt_M_steps mt_E_steps [mv_p 12] [mv_p 0] A := ⟨A.1 12 14, rs_of (fun M hr => by
  have k2 := pm_steps (X := X) (d := d + 13) (M := M)
  rw [hr.s (by decide)] at k2
  exact k2), py_steps⟩
theorem ah_ties : ah_ X d mt_M_ties mt_E_ties [mv_p 12] [mv_p 0] A := ⟨A.1 12 15, rs_of (fun M hr => by
  have k2 := pm_ties (X := X) (d := d + 13) (M := M)
  rw [hr.s (by decide)] at k2
  exact k2), py_ties⟩
theorem rm_cn (h : rm_ A M) (w : Int32) : aq_cn M w = aq_cn A w := by
  have e1 : aq_ab M = aq_ab A := by funext c; unfold aq_ab; rw [rm_dfE h]
  have e2 : aq_so M = aq_so A := by funext c; unfold aq_so; rw [h.q (by decide) (by decide)]
  have e3 : ∀ v, aq_si M v = aq_si A v := fun v => by funext c; unfold aq_si; rw [h.q (by decide) (by decide)]
  unfold aq_cn
  rw [h.s (j := 1) (by decide), h.s (j := 17) (by decide), rm_ndE h, e1, rm_caf h, rm_n h, e3, e3, e2]
theorem ah_count (hv : vs_A A) (w : Int32) : ah_ X d mt_M_count mt_E_count [mv_p 12, mv_i w] [mv_p 0, mv_i w] A := ⟨aq_cn A w, rs_of (fun M hr => by
  have k2 := pm_count (X := X) (d := d + 9) (M := M) (w := w) ((rm_vA hr).2 hv)
  rw [rm_cn (rm_00 hr)] at k2
  exact k2), py_count (d := d + 9) hv⟩
end
