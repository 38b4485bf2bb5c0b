/-! pure walks: rows of acts -/
abbrev pr_ (a : Nat) : Nat := mj_rw mj_S0 0 a
theorem pr_e (a : Nat) : pr_ a = 30 + a := by
  show 29 + 1 + (0 + a) = 30 + a
  omega
theorem mj_upn {lo : mj_L} {i j : Nat} {a b c e : mj_V} (h : i ≠ j) : mj_up (mj_up (mj_up (mj_up lo i a) j b) i c) j e = mj_up (mj_up lo i c) j e := by
  funext k
  unfold mj_up
  by_cases h1 : k = j
  · simp [h1]
  · by_cases h2 : k = i
    · simp [h2, h]
    · simp [h1, h2]
theorem mj_upo {lo : mj_L} {j : Nat} {b e : mj_V} : mj_up (mj_up lo j b) j e = mj_up lo j e := by
  funext k
  unfold mj_up
  by_cases h1 : k = j
  · simp [h1]
  · simp [h1]
theorem pm_st1 {M : mj_M} {k j k' j' : Nat} {x : Int32} (h : k' ≠ k ∨ j' ≠ j) : (mj_st M k j x).1 k' j' = M.1 k' j' := by
  unfold mj_st upd
  by_cases h1 : k' = k
  · rcases h with h | h
    · exact absurd h1 h
    · simp [h1, h]
  · simp [h1]
theorem pm_st0 {M : mj_M} {k j : Nat} {x : Int32} : (mj_st M k j x).1 k j = x := by simp [mj_st, upd]
theorem pm_st2 {M : mj_M} {k j : Nat} {x : Int32} : (mj_st M k j x).2 = M.2 := rfl
theorem tn_0 : Int32.toNatClampNeg 0 = 0 := rfl
theorem tn_1 : Int32.toNatClampNeg 1 = 1 := rfl
theorem tn_2 : Int32.toNatClampNeg 2 = 2 := rfl
theorem tn_3 : Int32.toNatClampNeg 3 = 3 := rfl
theorem tn_4 : Int32.toNatClampNeg 4 = 4 := rfl
theorem tn_5 : Int32.toNatClampNeg 5 = 5 := rfl
theorem tn_6 : Int32.toNatClampNeg 6 = 6 := rfl
theorem tn_7 : Int32.toNatClampNeg 7 = 7 := rfl
theorem tn_8 : Int32.toNatClampNeg 8 = 8 := rfl
theorem tn_9 : Int32.toNatClampNeg 9 = 9 := rfl
/-- a row that can be used: its cells are cells -/
def pv_row (M : mj_M) (a : Nat) : Prop := ∃ p g, p < 10 ∧ g < 6 ∧ M.1 (pr_ a) 1 = nI p ∧ M.1 (pr_ a) 3 = nI g ∧ (M.1 (pr_ a) 0 = 2 → ∃ t, t < 10 ∧ M.1 (pr_ a) 2 = nI t)
def pd_c1 (M : mj_M) (a : Nat) : Nat := (M.1 (pr_ a) 1 * 6 + M.1 (pr_ a) 3).toNatClampNeg
def pd_c2 (M : mj_M) (a : Nat) : Nat := (M.1 (pr_ a) 2 * 6 + M.1 (pr_ a) 3).toNatClampNeg
theorem pd_cell {p g : Nat} (hp : p < 10) (hg : g < 6) : nI p * 6 + nI g = nI (p * 6 + g) ∧ (nI p * 6 + nI g).toNatClampNeg = p * 6 + g ∧ p * 6 + g < 60 := by
  have e : nI p * 6 + nI g = nI (p * 6 + g) := by
    rw [show (6 : Int32) = nI 6 from rfl, pk_mul, nI_add]
  refine ⟨e, ?_, by omega⟩
  rw [e, nI_clamp (by omega)]
theorem pv_row.c1 {M : mj_M} {a : Nat} (h : pv_row M a) : M.1 (pr_ a) 1 * 6 + M.1 (pr_ a) 3 = nI (pd_c1 M a) ∧ pd_c1 M a < 60 := by
  obtain ⟨p, g, hp, hg, e1, e2, -⟩ := h
  obtain ⟨h1, h2, h3⟩ := pd_cell hp hg
  unfold pd_c1
  rw [e1, e2, h2]
  exact ⟨h1, h3⟩
theorem pv_row.c2 {M : mj_M} {a : Nat} (h : pv_row M a) (hk : M.1 (pr_ a) 0 = 2) : M.1 (pr_ a) 2 * 6 + M.1 (pr_ a) 3 = nI (pd_c2 M a) ∧ pd_c2 M a < 60 := by
  obtain ⟨p, g, hp, hg, e1, e2, e3⟩ := h
  obtain ⟨t, ht, e4⟩ := e3 hk
  obtain ⟨h1, h2, h3⟩ := pd_cell ht hg
  unfold pd_c2
  rw [e4, e2, h2]
  exact ⟨h1, h3⟩
theorem pm_sh_r {M : mj_M} {c a j : Nat} {v : Int32} : (pm_sh M c v).1 (pr_ a) j = M.1 (pr_ a) j := by
  unfold pm_sh
  rw [pm_st1 (Or.inl (by rw [pr_e]; omega)), pm_st1 (Or.inl (by rw [pr_e]; omega))]
section
variable {X : Nat × (Nat → Int32)} {d : Nat} {M : mj_M}
/-- an act's pieces, so many times -/
def pm_ca1 (M : mj_M) (a : Nat) (t : Int32) : mj_M := pm_sh M (pd_c1 M a) (if M.1 (pr_ a) 0 = 0 then M.1 (pr_ a) 4 * t else -(M.1 (pr_ a) 4 * t))
def pm_ca (M : mj_M) (a : Nat) (t : Int32) : mj_M := if M.1 (pr_ a) 0 = 2 then pm_sh (pm_ca1 M a t) (pd_c2 M a) (M.1 (pr_ a) 4 * t) else pm_ca1 M a t
theorem pl_carry {a : Nat} {t : Int32} (ha : a < 24) (hr : pv_row M a) : mj_C0 X (d + 2) mt_L_carry [mv_p 1, mv_i (nI a), mv_i t] M (mv_V (pm_ca M a t)) := by
  have h1 : mj_in (nI a) 24 := nI_in ha (by decide)
  have h2 : (nI a).toNatClampNeg = a := nI_clamp (by omega)
  obtain ⟨e1, l1⟩ := hr.c1
  iterate 3 refine ev_go rfl ?_
  refine ev_ok h1 rfl ?_
  rw [h2]
  iterate 3 refine ev_go rfl ?_
  refine ev_ok ⟨ha, by decide⟩ rfl ?_
  iterate 6 refine ev_go rfl ?_
  refine ev_ok ⟨ha, by decide⟩ rfl ?_
  iterate 2 refine ev_go rfl ?_
  refine ev_ok ⟨ha, by decide⟩ rfl ?_
  refine ev_callr rfl rfl rfl pe_cellOf ?_
  simp only [tn_1, tn_3, tn_4]
  rw [e1]
  iterate 2 refine ev_go rfl ?_
  refine ev_ok ⟨ha, by decide⟩ rfl ?_
  refine ev_if rfl (fun h27 => ?_) (fun h27 => ?_)
  · iterate 2 refine ev_go rfl ?_
    refine ev_callv rfl rfl rfl (pl_shift l1) ?_
    iterate 2 refine ev_go rfl ?_
    refine ev_ok ⟨ha, by decide⟩ rfl ?_
    refine ev_go rfl ?_
    refine ev_if rfl (fun h45 => ?_) (fun h45 => ?_)
    · iterate 3 refine ev_go rfl ?_
      refine ev_ok ⟨ha, by decide⟩ rfl ?_
      iterate 2 refine ev_go rfl ?_
      refine ev_ok ⟨ha, by decide⟩ rfl ?_
      refine ev_callr rfl rfl rfl pe_cellOf ?_
      simp only [tn_2, tn_3, pm_sh_r]
      rw [(hr.c2 (by rw [pm_sh_r] at h45; exact h45)).1]
      refine ev_go rfl ?_
      refine ev_callv rfl rfl rfl (pl_shift (hr.c2 (by rw [pm_sh_r] at h45; exact h45)).2) ?_
      refine ev_end rfl ?_
      have k2 := h45
      rw [pm_sh_r] at k2
      have k0 := h27
      simp only [tn_0] at k0 k2
      first
        | exact absurd (k0.symm.trans k2) (by decide)
        | (show some _ = some _; unfold pm_ca pm_ca1; rw [if_pos k2, if_pos k0])
        | (show some _ = some _; unfold pm_ca pm_ca1; rw [if_pos k2, if_neg k0])
        | (show some _ = some _; unfold pm_ca pm_ca1; rw [if_neg k2, if_pos k0])
        | (show some _ = some _; unfold pm_ca pm_ca1; rw [if_neg k2, if_neg k0])
    · refine ev_end rfl ?_
      have k2 := h45
      rw [pm_sh_r] at k2
      have k0 := h27
      simp only [tn_0] at k0 k2
      first
        | exact absurd (k0.symm.trans k2) (by decide)
        | (show some _ = some _; unfold pm_ca pm_ca1; rw [if_pos k2, if_pos k0])
        | (show some _ = some _; unfold pm_ca pm_ca1; rw [if_pos k2, if_neg k0])
        | (show some _ = some _; unfold pm_ca pm_ca1; rw [if_neg k2, if_pos k0])
        | (show some _ = some _; unfold pm_ca pm_ca1; rw [if_neg k2, if_neg k0])
  · iterate 2 refine ev_go rfl ?_
    refine ev_callv rfl rfl rfl (pl_shift l1) ?_
    iterate 2 refine ev_go rfl ?_
    refine ev_ok ⟨ha, by decide⟩ rfl ?_
    refine ev_go rfl ?_
    refine ev_if rfl (fun h45 => ?_) (fun h45 => ?_)
    · iterate 3 refine ev_go rfl ?_
      refine ev_ok ⟨ha, by decide⟩ rfl ?_
      iterate 2 refine ev_go rfl ?_
      refine ev_ok ⟨ha, by decide⟩ rfl ?_
      refine ev_callr rfl rfl rfl pe_cellOf ?_
      simp only [tn_2, tn_3, pm_sh_r]
      rw [(hr.c2 (by rw [pm_sh_r] at h45; exact h45)).1]
      refine ev_go rfl ?_
      refine ev_callv rfl rfl rfl (pl_shift (hr.c2 (by rw [pm_sh_r] at h45; exact h45)).2) ?_
      refine ev_end rfl ?_
      have k2 := h45
      rw [pm_sh_r] at k2
      have k0 := h27
      simp only [tn_0] at k0 k2
      first
        | exact absurd (k0.symm.trans k2) (by decide)
        | (show some _ = some _; unfold pm_ca pm_ca1; rw [if_pos k2, if_pos k0])
        | (show some _ = some _; unfold pm_ca pm_ca1; rw [if_pos k2, if_neg k0])
        | (show some _ = some _; unfold pm_ca pm_ca1; rw [if_neg k2, if_pos k0])
        | (show some _ = some _; unfold pm_ca pm_ca1; rw [if_neg k2, if_neg k0])
    · refine ev_end rfl ?_
      have k2 := h45
      rw [pm_sh_r] at k2
      have k0 := h27
      simp only [tn_0] at k0 k2
      first
        | exact absurd (k0.symm.trans k2) (by decide)
        | (show some _ = some _; unfold pm_ca pm_ca1; rw [if_pos k2, if_pos k0])
        | (show some _ = some _; unfold pm_ca pm_ca1; rw [if_pos k2, if_neg k0])
        | (show some _ = some _; unfold pm_ca pm_ca1; rw [if_neg k2, if_pos k0])
        | (show some _ = some _; unfold pm_ca pm_ca1; rw [if_neg k2, if_neg k0])
theorem pm_ca_r {a b j : Nat} {t : Int32} : (pm_ca M b t).1 (pr_ a) j = M.1 (pr_ a) j := by
  unfold pm_ca pm_ca1
  split
  · rw [pm_sh_r, pm_sh_r]
  · rw [pm_sh_r]
/-- an act is turned into another state -/
def pm_tu (M : mj_M) (a : Nat) (s : Int32) : mj_M := pm_ca (mj_st M (pr_ a) 6 s) a (pd_td s - pd_td (M.1 (pr_ a) 6))
theorem pv_row.st {a b j : Nat} {x : Int32} (h : pv_row M a) (hj : 6 ≤ j) : pv_row (mj_st M (pr_ b) j x) a := by
  obtain ⟨p, g, hp, hg, e1, e2, e3⟩ := h
  refine ⟨p, g, hp, hg, ?_, ?_, fun h => ?_⟩
  · rw [pm_st1 (Or.inr (by omega))]; exact e1
  · rw [pm_st1 (Or.inr (by omega))]; exact e2
  · rw [pm_st1 (Or.inr (by omega))] at h ⊢
    exact e3 h
theorem pl_turn {a : Nat} {s : Int32} (ha : a < 24) (hr : pv_row M a) : mj_C0 X (d + 3) mt_L_turn [mv_p 1, mv_i (nI a), mv_i s] M (mv_V (pm_tu M a s)) := by
  have h1 : mj_in (nI a) 24 := nI_in ha (by decide)
  have h2 : (nI a).toNatClampNeg = a := nI_clamp (by omega)
  refine ev_go rfl ?_
  refine ev_callr rfl rfl rfl pe_timesDone ?_
  iterate 3 refine ev_go rfl ?_
  refine ev_ok h1 rfl ?_
  rw [h2]
  refine ev_go rfl ?_
  refine ev_ok ⟨ha, by decide⟩ rfl ?_
  refine ev_callr rfl rfl rfl pe_timesDone ?_
  iterate 5 refine ev_go rfl ?_
  refine ev_ok h1 rfl ?_
  rw [h2]
  iterate 2 refine ev_go rfl ?_
  refine ev_ok ⟨ha, by decide⟩ rfl ?_
  iterate 3 refine ev_go rfl ?_
  refine ev_callv rfl rfl rfl (pl_carry ha (hr.st (by decide))) ?_
  refine ev_end rfl ?_
  rfl
theorem pl_lastTime {n : Nat} (hn : M.1 1 3 = nI n) (hl : n ≤ 24) : mj_C0 X d mt_L_lastTime [mv_p 1] M (mv_R (if n = 0 then 0 else M.1 (pr_ (n - 1)) 5) M) := by
  iterate 2 refine ev_go rfl ?_
  refine ev_if rfl (fun h4 => ?_) (fun h4 => ?_)
  · iterate 2 refine ev_go rfl ?_
    refine ev_end rfl ?_
    first
      | (show some _ = some _
         rw [if_neg hz]
         show some (mv_R (M.1 (mj_rw mj_S0 0 (M.1 1 3 - 1).toNatClampNeg) 5) M) = _
         rw [e9, nI_clamp (by omega)])
      | (have hz : n = 0 := by
          rcases Nat.eq_zero_or_pos n with h | h
          · exact h
          · exact absurd (hn ▸ h4) (nI_ne0 h (by omega))
         show some _ = some _; rw [if_pos hz])
  · have hz : n ≠ 0 := fun h => h4 (by rw [hn, h]; rfl)
    have e9 : M.1 1 3 - 1 = nI (n - 1) := by
      rw [hn, show n = (n - 1) + 1 by omega, nI_pred]
      rfl
    have hi : mj_in (M.1 1 3 - 1) 24 := by rw [e9]; exact nI_in (by omega) (by decide)
    have hi2 : (M.1 1 3 - 1).toNatClampNeg < 24 := by rw [e9, nI_clamp (by omega)]; omega
    iterate 6 refine ev_go rfl ?_
    refine ev_ok hi rfl ?_
    refine ev_go rfl ?_
    refine ev_ok ⟨hi2, by decide⟩ rfl ?_
    refine ev_end rfl ?_
    first
      | (show some _ = some _
         rw [if_neg hz]
         show some (mv_R (M.1 (mj_rw mj_S0 0 (M.1 1 3 - 1).toNatClampNeg) 5) M) = _
         rw [e9, nI_clamp (by omega)])
      | (have hz : n = 0 := by
          rcases Nat.eq_zero_or_pos n with h | h
          · exact h
          · exact absurd (hn ▸ h4) (nI_ne0 h (by omega))
         show some _ = some _; rw [if_pos hz])
/-- so many are counted -/
def pm_te (M : mj_M) (c : Nat) (v : Int32) : mj_M := mj_st (mj_st M 5 c v) 1 4 (M.1 1 4 + (pd_dif (mj_st M 5 c v) c - pd_dif M c))
theorem pl_tell {c : Nat} {v : Int32} (hc : c < 60) : mj_C0 X (d + 1) mt_L_tell [mv_p 1, mv_i (nI c), mv_i v] M (mv_V (pm_te M c v)) := by
  have h1 : mj_in (nI c) 60 := nI_in hc (by decide)
  have h2 : (nI c).toNatClampNeg = c := nI_clamp (by omega)
  iterate 2 refine ev_go rfl ?_
  refine ev_callr rfl rfl rfl (pl_differs hc) ?_
  iterate 5 refine ev_go rfl ?_
  refine ev_ok h1 rfl ?_
  rw [h2]
  iterate 5 refine ev_go rfl ?_
  refine ev_callr rfl rfl rfl (pl_differs hc) ?_
  iterate 4 refine ev_go rfl ?_
  refine ev_end rfl ?_
  rfl
end
