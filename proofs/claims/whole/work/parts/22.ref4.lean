/-! pure walks: more of what the reference does -/
/-- how many of the first are not 0 -/
def ct (f : Nat → Int32) : Nat → Nat
  | 0 => 0
  | k + 1 => ct f k + (if f k = 0 then 0 else 1)
theorem ct_le (f : Nat → Int32) : ∀ k, ct f k ≤ k
  | 0 => Nat.le_refl _
  | k + 1 => by
    have := ct_le f k
    show ct f k + (if f k = 0 then 0 else 1) ≤ k + 1
    split <;> omega
theorem ct_mono (f : Nat → Int32) {k n : Nat} (h : k ≤ n) : ct f k ≤ ct f n := by
  induction h with
  | refl => exact Nat.le_refl _
  | step _ ih => exact Nat.le_trans ih (Nat.le_add_right _ _)
theorem ct_sm {f g : Nat → Int32} (h : ∀ k, g k = if f k = 0 then 0 else 1) : ∀ k, sm g k = nI (ct f k)
  | 0 => rfl
  | k + 1 => by
    show sm g k + g k = nI (ct f k + (if f k = 0 then 0 else 1))
    rw [ct_sm h k, h k]
    by_cases h1 : f k = 0
    · rw [if_pos h1, if_pos h1]
      exact Int32.add_zero _
    · rw [if_neg h1, if_neg h1, nI_1]
theorem ct_at {f : Nat → Int32} {i : Nat} : ∀ {n : Nat}, i < ct f n → ∃ c, c < n ∧ ct f c = i ∧ ¬ f c = 0
  | 0, h => absurd h (Nat.not_lt_zero _)
  | n + 1, h => by
    by_cases h1 : i < ct f n
    · obtain ⟨c, h2, h3⟩ := ct_at h1
      exact ⟨c, by omega, h3⟩
    · have h2 : i < ct f n + (if f n = 0 then 0 else 1) := h
      by_cases h3 : f n = 0
      · rw [if_pos h3] at h2
        omega
      · rw [if_neg h3] at h2
        exact ⟨n, by omega, by omega, h3⟩
theorem aq_wct (A : mj_M) (L : Nat → Int32) (k : Nat) : sm (aq_w A L) k = nI (ct (aq_df A L) k) := ct_sm (fun _ => rfl) k
theorem pk_m1le {a b : Nat} (ha : a < 2 ^ 31) (hb : b < 2 ^ 31) : nI a ≤ nI b - 1 ↔ a < b := by
  cases b with
  | zero =>
    have h1 := nI_pos' ha
    have h2 : ¬ nI a ≤ nI 0 - 1 := by
      rw [nI_0]
      grind
    exact ⟨fun h => absurd h h2, fun h => absurd h (Nat.not_lt_zero _)⟩
  | succ b =>
    rw [nI_pred, nI_leI ha (by omega)]
    omega
def aq_sh (A : mj_M) (k : Nat) : Int32 := if A.1 20 k = 0 then 0 else 1
theorem pm_stt {M : mj_M} {q j : Nat} {x y : Int32} : mj_st (mj_st M q j x) q j y = mj_st M q j y := by
  unfold mj_st
  refine Prod.ext ?_ rfl
  funext a
  by_cases h : a = q
  · subst h
    funext z
    by_cases h2 : z = j
    · simp [upd, h2]
    · simp [upd, h2]
  · simp [h]
section
variable {X : Nat × (Nat → Int32)} {d : Nat} {M A : mj_M}
theorem pm_closed_l {X : Nat × (Nat → Int32)} {d : Nat} {M : mj_M} {x y : mj_V} (hn : M.1 12 1 = nI (aq_n M)) (hl : aq_n M ≤ 24) : ∀ j k, k + j = aq_n M → mj_Ev mj_S0 X mj_P (d) mt_M_closed 38 (mj_up (mj_up (fun j => [mv_p 12, x, y][j]?) 3 (mv_i (sm (aq_sh M) k))) 4 (mv_i (nI k))) [] M 0 (mv_R (sm (aq_sh M) (aq_n M)) M) := by
  intro j
  induction j with
  | zero =>
    intro k hk
    iterate 3 refine ev_go rfl ?_
    refine ev_if rfl (fun h44 => ?_) (fun h44 => ?_)
    · refine ev_go rfl ?_
      refine ev_end rfl ?_
      show some _ = some _
      rw [show aq_n M = k by omega]
    · exact absurd (show M.1 12 1 ≤ nI k by rw [hn]; exact nI_le (by omega) (by omega)) h44
  | succ j ih =>
    intro k hk
    iterate 3 refine ev_go rfl ?_
    refine ev_if rfl (fun h44 => ?_) (fun h44 => ?_)
    · exact absurd h44 (by rw [hn]; exact nI_ge (by omega) (by omega))
    · iterate 4 refine ev_go rfl ?_
      refine ev_ok (nI_in (by omega) (by decide)) rfl ?_
      rw [nI_clamp (by omega)]
      refine ev_if rfl (fun h55 => ?_) (fun h55 => ?_)
      · iterate 5 refine ev_go rfl ?_
        refine ev_lo ?_ (ih (k + 1) (by omega))
        rw [nI_1]
        refine (mj_upn (i := 3) (j := 4) (by decide)).trans ?_
        show mj_up (mj_up _ 3 (mv_i _)) 4 (mv_i _) = mj_up (mj_up _ 3 (mv_i (sm (aq_sh M) k + aq_sh M k))) 4 (mv_i _)
        unfold aq_sh
        first
          | rw [if_pos h55]
          | rw [if_neg h55]
      · iterate 6 refine ev_go rfl ?_
        refine ev_lo ?_ (ih (k + 1) (by omega))
        rw [nI_1]
        refine (mj_upn (i := 3) (j := 4) (by decide)).trans ?_
        show mj_up (mj_up _ 3 (mv_i _)) 4 (mv_i _) = mj_up (mj_up _ 3 (mv_i (sm (aq_sh M) k + aq_sh M k))) 4 (mv_i _)
        unfold aq_sh
        first
          | rw [if_pos h55]
          | rw [if_neg h55]
theorem pm_closed_x {a b : Int32} (h : ¬ pd_na M a = 0) : mj_C0 X (d + 1) mt_M_closed [mv_p 12, mv_i a, mv_i b] M (mv_R 0 (mj_st M 12 0 1)) := by
  iterate 3 refine ev_go rfl ?_
  refine ev_callr rfl rfl rfl pm_noAct ?_
  refine ev_if rfl (fun h6 => ?_) (fun h6 => ?_)
  · exact absurd h6 h
  · iterate 7 refine ev_go rfl ?_
    refine ev_end rfl ?_
    rfl
theorem pm_closed {a : Nat} {b : Int32} (ha : a < 24) (h : pd_na M (nI a) = 0) (hb : b = 0 ∨ b = 1) (hn : M.1 12 1 = nI (aq_n M)) (hl : aq_n M ≤ 24) : mj_C0 X (d + 1) mt_M_closed [mv_p 12, mv_i (nI a), mv_i b] M (mv_R (sm (aq_sh (mj_st (mj_st M 12 0 0) 20 a b)) (aq_n M)) (mj_st (mj_st M 12 0 0) 20 a b)) := by
  have h1 : mj_in (nI a) 24 := nI_in ha (by decide)
  have h2 : (nI a).toNatClampNeg = a := nI_clamp (by omega)
  iterate 3 refine ev_go rfl ?_
  refine ev_callr rfl rfl rfl pm_noAct ?_
  refine ev_if rfl (fun h6 => ?_) (fun h6 => ?_)
  · iterate 9 refine ev_go rfl ?_
    refine ev_ok ⟨h1, hb⟩ rfl ?_
    rw [h2]
    iterate 4 refine ev_go rfl ?_
    exact pm_closed_l (M := mj_st (mj_st M 12 0 0) 20 a b) hn hl (aq_n M) 0 (by show 0 + aq_n M = aq_n M; omega)
  · exact absurd h h6
theorem pm_differ_x {i w : Int32} (hn : M.1 12 1 = nI (aq_n M)) (hl : aq_n M ≤ 24) (h : i < 0 ∨ ¬ i < aq_nd M (aq_E M)) : mj_C0 X (d + 4) mt_M_differ [mv_p 12, mv_i i, mv_i w] M (mv_R 0 (mj_st M 12 0 1)) := by
  iterate 2 refine ev_go rfl ?_
  refine ev_if rfl (fun h2 => ?_) (fun h2 => ?_)
  · iterate 7 refine ev_go rfl ?_
    refine ev_end rfl ?_
    rfl
  · iterate 2 refine ev_go rfl ?_
    refine ev_callr rfl rfl rfl (pm_differences hn hl) ?_
    refine ev_if rfl (fun h10 => ?_) (fun h10 => ?_)
    · exfalso
      grind
    · iterate 7 refine ev_go rfl ?_
      refine ev_end rfl ?_
      rfl
theorem pm_differ_y {i w : Int32} (hn : M.1 12 1 = nI (aq_n M)) (hl : aq_n M ≤ 24) (h : ¬ i < 0 ∧ i < aq_nd M (aq_E M)) (h' : ¬ (0 ≤ w ∧ w ≤ 2)) : mj_C0 X (d + 4) mt_M_differ [mv_p 12, mv_i i, mv_i w] M (mv_R 0 (mj_st M 12 0 2)) := by
  iterate 2 refine ev_go rfl ?_
  refine ev_if rfl (fun h2 => ?_) (fun h2 => ?_)
  · exfalso
    grind
  · iterate 2 refine ev_go rfl ?_
    refine ev_callr rfl rfl rfl (pm_differences hn hl) ?_
    refine ev_if rfl (fun h10 => ?_) (fun h10 => ?_)
    · iterate 3 refine ev_go rfl ?_
      refine ev_callr rfl rfl rfl pm_not ?_
      refine ev_if rfl (fun h23 => ?_) (fun h23 => ?_)
      · exfalso
        grind [pd_no0]
      · iterate 7 refine ev_go rfl ?_
        refine ev_end rfl ?_
        rfl
    · exfalso
      grind
theorem pm_differ_l {i : Nat} {w : Int32} {c : Nat} (hn : M.1 12 1 = nI (aq_n M)) (hl : aq_n M ≤ 24) (hc : c < 60) (h1 : ct (aq_df M (aq_E M)) c = i) (h2 : ¬ aq_df M (aq_E M) c = 0) : ∀ j k, k + j = c + 1 → mj_Ev mj_S0 X mj_P (d + 4) mt_M_differ 48 (mj_up (mj_up (fun j => [mv_p 12, mv_i (nI i), mv_i w][j]?) 3 (mv_i (nI (ct (aq_df M (aq_E M)) k) - 1))) 4 (mv_i (nI k - 1))) [] M 0 (mv_R (if w = 0 then nI c / 6 else if w = 1 then nI c - nI c / 6 * 6 else aq_df M (aq_E M) c) M) := by
  have hu : ∀ k, ct (aq_df M (aq_E M)) k ≤ k := ct_le _
  have h3 : ct (aq_df M (aq_E M)) (c + 1) = i + 1 := by
    show ct (aq_df M (aq_E M)) c + (if aq_df M (aq_E M) c = 0 then 0 else 1) = i + 1
    rw [h1, if_neg h2]
  intro j
  induction j with
  | zero =>
    intro k hk
    have e1 : k = c + 1 := by omega
    subst e1
    iterate 2 refine ev_go rfl ?_
    refine ev_if rfl (fun h50 => ?_) (fun h50 => ?_)
    · rw [nI_pred]
      refine ev_go rfl ?_
      refine ev_if rfl (fun h72 => ?_) (fun h72 => ?_)
      · iterate 4 refine ev_go rfl ?_
        refine ev_end rfl ?_
        show some _ = some _
        first
          | (rw [if_pos h72]; done)
          | (rw [if_pos h72]; rfl)
          | (rw [if_neg h72, if_pos h85]; done)
          | (rw [if_neg h72, if_pos h85]; rfl)
          | (rw [if_neg h72, if_neg h85])
      · iterate 2 refine ev_go rfl ?_
        refine ev_if rfl (fun h85 => ?_) (fun h85 => ?_)
        · iterate 4 refine ev_go rfl ?_
          refine ev_end rfl ?_
          show some _ = some _
          first
            | (rw [if_pos h72]; done)
            | (rw [if_pos h72]; rfl)
            | (rw [if_neg h72, if_pos h85]; done)
            | (rw [if_neg h72, if_pos h85]; rfl)
            | (rw [if_neg h72, if_neg h85])
        · iterate 2 refine ev_go rfl ?_
          refine ev_callr rfl rfl rfl (pm_differenceOf hc hn hl) ?_
          refine ev_end rfl ?_
          show some _ = some _
          first
            | (rw [if_pos h72]; done)
            | (rw [if_pos h72]; rfl)
            | (rw [if_neg h72, if_pos h85]; done)
            | (rw [if_neg h72, if_pos h85]; rfl)
            | (rw [if_neg h72, if_neg h85])
    · exact absurd ((pk_m1le (by have := hu c; omega) (by have := hu (c + 1); omega)).2 (by omega)) h50
  | succ j ih =>
    intro k hk
    have hm : ct (aq_df M (aq_E M)) k ≤ i := by rw [← h1]; exact ct_mono _ (by omega)
    iterate 2 refine ev_go rfl ?_
    refine ev_if rfl (fun h50 => ?_) (fun h50 => ?_)
    · exact absurd ((pk_m1le (by have := hu c; omega) (by have := hu k; omega)).1 h50) (by omega)
    · refine ev_go rfl ?_
      rw [Int32.sub_add_cancel]
      iterate 2 refine ev_go rfl ?_
      refine ev_callr rfl rfl rfl (pm_differenceOf (by omega) hn hl) ?_
      refine ev_if rfl (fun h62 => ?_) (fun h62 => ?_)
      · refine ev_lo ?_ (ih (k + 1) (by omega))
        rw [nI_pred]
        first
          | (have e : ct (aq_df M (aq_E M)) (k + 1) = ct (aq_df M (aq_E M)) k := by
              show ct (aq_df M (aq_E M)) k + (if aq_df M (aq_E M) k = 0 then 0 else 1) = _
              rw [if_pos h62]
              rfl
             rw [e, mj_upo])
          | (have e : ct (aq_df M (aq_E M)) (k + 1) = ct (aq_df M (aq_E M)) k + 1 := by
              show ct (aq_df M (aq_E M)) k + (if aq_df M (aq_E M) k = 0 then 0 else 1) = _
              rw [if_neg h62]
             rw [e, nI_pred, Int32.sub_add_cancel, mj_upo, mj_upc (i := 4) (j := 3) (by decide), mj_upo])
      · iterate 2 refine ev_go rfl ?_
        refine ev_lo ?_ (ih (k + 1) (by omega))
        rw [nI_pred]
        first
          | (have e : ct (aq_df M (aq_E M)) (k + 1) = ct (aq_df M (aq_E M)) k := by
              show ct (aq_df M (aq_E M)) k + (if aq_df M (aq_E M) k = 0 then 0 else 1) = _
              rw [if_pos h62]
              rfl
             rw [e, mj_upo])
          | (have e : ct (aq_df M (aq_E M)) (k + 1) = ct (aq_df M (aq_E M)) k + 1 := by
              show ct (aq_df M (aq_E M)) k + (if aq_df M (aq_E M) k = 0 then 0 else 1) = _
              rw [if_neg h62]
             rw [e, nI_pred, Int32.sub_add_cancel, mj_upo, mj_upc (i := 4) (j := 3) (by decide), mj_upo])
theorem pm_differ {i : Nat} {w : Int32} {c : Nat} (hn : M.1 12 1 = nI (aq_n M)) (hl : aq_n M ≤ 24) (hc : c < 60) (h1 : ct (aq_df M (aq_E M)) c = i) (h2 : ¬ aq_df M (aq_E M) c = 0) (h' : 0 ≤ w ∧ w ≤ 2) : mj_C0 X (d + 4) mt_M_differ [mv_p 12, mv_i (nI i), mv_i w] M (mv_R (if w = 0 then nI c / 6 else if w = 1 then nI c - nI c / 6 * 6 else aq_df M (aq_E M) c) (mj_st M 12 0 0)) := by
  have hu : ∀ k, ct (aq_df M (aq_E M)) k ≤ k := ct_le _
  have h0 : ¬ nI i < 0 := nI_pos (by have := hu c; omega)
  have h3 : nI i < aq_nd M (aq_E M) := by
    unfold aq_nd
    rw [aq_wct]
    refine nI_lt ?_ (by have := hu 60; omega)
    have e3 : ct (aq_df M (aq_E M)) (c + 1) = i + 1 := by
      show ct (aq_df M (aq_E M)) c + (if aq_df M (aq_E M) c = 0 then 0 else 1) = i + 1
      rw [h1, if_neg h2]
    have := ct_mono (aq_df M (aq_E M)) (show c + 1 ≤ 60 by omega)
    omega
  have eE : aq_E (mj_st M 12 0 0) = aq_E M := rm_E rm_0
  have eD : aq_df (mj_st M 12 0 0) (aq_E (mj_st M 12 0 0)) = aq_df M (aq_E M) := by funext z; rw [eE]; exact rm_df rm_0 _ z
  have key := pm_differ_l (X := X) (d := d) (M := mj_st M 12 0 0) (i := i) (w := w) (c := c) hn hl hc (by rw [eD]; exact h1) (by rw [eD]; exact h2) (c + 1) 0 (by omega)
  rw [eD] at key
  iterate 2 refine ev_go rfl ?_
  refine ev_if rfl (fun h2 => ?_) (fun h2 => ?_)
  · exfalso
    grind
  · iterate 2 refine ev_go rfl ?_
    refine ev_callr rfl rfl rfl (pm_differences hn hl) ?_
    refine ev_if rfl (fun h10 => ?_) (fun h10 => ?_)
    · iterate 3 refine ev_go rfl ?_
      refine ev_callr rfl rfl rfl pm_not ?_
      refine ev_if rfl (fun h23 => ?_) (fun h23 => ?_)
      · iterate 9 refine ev_go rfl ?_
        exact key
      · exfalso
        grind [pd_no0]
    · exfalso
      grind
end
