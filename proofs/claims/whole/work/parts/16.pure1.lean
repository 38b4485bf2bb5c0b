/-! pure walks: the leaves of the class -/
abbrev mv_i (x : Int32) : mj_V := .inl x
abbrev mv_p (q : Nat) : mj_V := .inr (.inr (.inl q))
abbrev mv_r (r : Nat) : mj_V := .inr (.inr (.inr (3, r)))
abbrev mv_R (x : Int32) (M : mj_M) : mj_R := (.inr (some (.inl x)), M, 0)
abbrev mv_V (M : mj_M) : mj_R := (.inr none, M, 0)
abbrev mv_X (E : Nat) (M : mj_M) : mj_R := (.inl E, M, 1)
/-- a call of T with these arguments comes to r -/
abbrev mj_C0 (X : Nat × (Nat → Int32)) (d : Nat) (T : mj_T) (as : List mj_V) (M : mj_M) (r : mj_R) : Prop := mj_Ev mj_S0 X mj_P d T 0 (fun j => as[j]?) [] M 0 r
section
variable {X : Nat × (Nat → Int32)} {d : Nat} {M : mj_M}
def pd_wi (n a b : Int32) : Int32 := if n < a then 0 else if b < n then 0 else 1
theorem pe_isWithin {n a b : Int32} : mj_C0 X d mt_E_isWithin [mv_i n, mv_i a, mv_i b] M (mv_R (pd_wi n a b) M) := by
  iterate 2 refine ev_go rfl ?_
  refine ev_if rfl (fun h2 => ?_) (fun h2 => ?_)
  · refine ev_go rfl ?_
    refine ev_end rfl ?_
    show some _ = some _
    simp [pd_wi, *]
  · iterate 2 refine ev_go rfl ?_
    refine ev_if rfl (fun h7 => ?_) (fun h7 => ?_)
    · refine ev_go rfl ?_
      refine ev_end rfl ?_
      show some _ = some _
      simp [pd_wi, *]
    · iterate 2 refine ev_go rfl ?_
      refine ev_end rfl ?_
      show some _ = some _
      simp [pd_wi, *]
theorem pe_cellOf {p g : Int32} : mj_C0 X d mt_E_cellOf [mv_i p, mv_i g] M (mv_R (p * 6 + g) M) := by
  iterate 5 refine ev_go rfl ?_
  refine ev_end rfl ?_
  rfl
def pd_td (s : Int32) : Int32 := if s = 1 then 0 else if s = 2 then 2 else 1
theorem pe_timesDone {s : Int32} : mj_C0 X d mt_E_timesDone [mv_i s] M (mv_R (pd_td s) M) := by
  iterate 2 refine ev_go rfl ?_
  refine ev_if rfl (fun h2 => ?_) (fun h2 => ?_)
  · refine ev_go rfl ?_
    refine ev_end rfl ?_
    show some _ = some _
    simp [pd_td, *]
  · iterate 2 refine ev_go rfl ?_
    refine ev_if rfl (fun h9 => ?_) (fun h9 => ?_)
    · iterate 2 refine ev_go rfl ?_
      refine ev_end rfl ?_
      show some _ = some _
      simp [pd_td, *]
    · refine ev_go rfl ?_
      refine ev_end rfl ?_
      show some _ = some _
      simp [pd_td, *]
/-- 1 where something is counted -/
def pd_ct (M : mj_M) (c : Nat) : Int32 := if M.1 5 c = -1 then 0 else 1
theorem pl_isCounted {c : Nat} (hc : c < 60) : mj_C0 X d mt_L_isCounted [mv_p 1, mv_i (nI c)] M (mv_R (pd_ct M c) M) := by
  have h1 : mj_in (nI c) 60 := nI_in hc (by decide)
  have h2 : (nI c).toNatClampNeg = c := nI_clamp (by omega)
  iterate 3 refine ev_go rfl ?_
  refine ev_ok h1 rfl ?_
  rw [h2]
  refine ev_go rfl ?_
  refine ev_if rfl (fun h7 => ?_) (fun h7 => ?_)
  · refine ev_go rfl ?_
    refine ev_end rfl ?_
    show some _ = some _
    simp [pd_ct, *]
  · iterate 2 refine ev_go rfl ?_
    refine ev_end rfl ?_
    show some _ = some _
    simp [pd_ct, *]
def pd_dif (M : mj_M) (c : Nat) : Int32 := if M.1 5 c = -1 then 0 else if M.1 5 c = M.1 4 c then 0 else 1
theorem pl_differs {c : Nat} (hc : c < 60) : mj_C0 X d mt_L_differs [mv_p 1, mv_i (nI c)] M (mv_R (pd_dif M c) M) := by
  have h1 : mj_in (nI c) 60 := nI_in hc (by decide)
  have h2 : (nI c).toNatClampNeg = c := nI_clamp (by omega)
  iterate 3 refine ev_go rfl ?_
  refine ev_ok h1 rfl ?_
  rw [h2]
  refine ev_go rfl ?_
  refine ev_if rfl (fun h7 => ?_) (fun h7 => ?_)
  · refine ev_go rfl ?_
    refine ev_end rfl ?_
    show some _ = some _
    simp [pd_dif, *]
  · iterate 3 refine ev_go rfl ?_
    refine ev_ok h1 rfl ?_
    iterate 3 refine ev_go rfl ?_
    refine ev_ok h1 rfl ?_
    rw [h2]
    refine ev_if rfl (fun h22 => ?_) (fun h22 => ?_)
    · refine ev_go rfl ?_
      refine ev_end rfl ?_
      show some _ = some _
      simp [pd_dif, *]
    · iterate 2 refine ev_go rfl ?_
      refine ev_end rfl ?_
      show some _ = some _
      simp [pd_dif, *]
theorem pl_gap {c : Nat} (hc : c < 60) : mj_C0 X d mt_L_gap [mv_p 1, mv_i (nI c)] M (mv_R (M.1 5 c - M.1 4 c) M) := by
  have h1 : mj_in (nI c) 60 := nI_in hc (by decide)
  have h2 : (nI c).toNatClampNeg = c := nI_clamp (by omega)
  iterate 3 refine ev_go rfl ?_
  refine ev_ok h1 rfl ?_
  iterate 3 refine ev_go rfl ?_
  refine ev_ok h1 rfl ?_
  rw [h2]
  refine ev_go rfl ?_
  refine ev_end rfl ?_
  rfl
/-- pieces come to a cell -/
def pm_sh (M : mj_M) (c : Nat) (v : Int32) : mj_M := mj_st (mj_st M 4 c (M.1 4 c + v)) 1 4 (M.1 1 4 + (pd_dif (mj_st M 4 c (M.1 4 c + v)) c - pd_dif M c))
theorem pl_shift {c : Nat} {v : Int32} (hc : c < 60) : mj_C0 X (d + 1) mt_L_shift [mv_p 1, mv_i (nI c), mv_i v] M (mv_V (pm_sh M c v)) := by
  have h1 : mj_in (nI c) 60 := nI_in hc (by decide)
  have h2 : (nI c).toNatClampNeg = c := nI_clamp (by omega)
  iterate 2 refine ev_go rfl ?_
  refine ev_callr rfl rfl rfl (pl_differs hc) ?_
  iterate 5 refine ev_go rfl ?_
  refine ev_ok h1 rfl ?_
  rw [h2]
  iterate 2 refine ev_go rfl ?_
  refine ev_ok h1 rfl ?_
  rw [h2]
  iterate 5 refine ev_go rfl ?_
  refine ev_callr rfl rfl rfl (pl_differs hc) ?_
  iterate 4 refine ev_go rfl ?_
  refine ev_end rfl ?_
  rfl
end
