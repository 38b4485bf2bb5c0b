/-! the law's loop -/
def jq_ (A M : mj_M) : Prop := vs_A A ∧ rm_ A M ∧ rc_ A M
/-- a case of the law comes to the loop's end, class and reference again in one state -/
def ca_ (X : Nat × (Nat → Int32)) (d pc i : Nat) (lo : mj_L) (M : mj_M) (k : Nat) : Prop := ∃ A' M' k' lo', jq_ A' M' ∧ k' ≤ k + 1 ∧ ∀ R, mj_Ev mj_S0 X mj_P (d + 14) mt_W_law 1364 (mj_up (mj_up (mj_up (mj_up (mj_up lo' 0 (mv_p 29)) 1 (mv_p 0)) 2 (mv_p 12)) 3 (mv_p 28)) 4 (mv_i (nI i))) [] M' k' R → mj_Ev mj_S0 X mj_P (d + 14) mt_W_law pc (mj_up (mj_up (mj_up (mj_up (mj_up lo 0 (mv_p 29)) 1 (mv_p 0)) 2 (mv_p 12)) 3 (mv_p 28)) 4 (mv_i (nI i))) [] M k R
theorem lg_same (x : Int64) : lg_cmp x x = 0 := by simp [lg_cmp]
section
variable {X : Nat × (Nat → Int32)} {d : Nat} {M A : mj_M} {i k : Nat} {lo : mj_L}
theorem ix_ {j : Nat} (hj : j < 6) (hi : i + 6 ≤ X.1) (hX : X.1 ≤ 3072) : mj_in (nI i + nI j) X.1 := by
  rw [nI_add]
  exact nI_in (by omega) (by omega)
theorem lc_put (h : jq_ A M) (hi : i + 6 ≤ X.1) (hX : X.1 ≤ 3072) : ca_ X d 136 i lo M k := by
  obtain ⟨c, v, A', hv', hrs, hcs⟩ := ag_put (X := X) (d := d) h.1 (X.2 (nI i + nI 1).toNatClampNeg) (X.2 (nI i + nI 2).toNatClampNeg) (X.2 (nI i + nI 3).toNatClampNeg) (X.2 (nI i + nI 4).toNatClampNeg)
  obtain ⟨hv, hm, hc⟩ := h
  obtain ⟨M1, k1, w1, w2, w3, w4, w5⟩ := hcs M hc
  obtain ⟨M2, r1, r2, r3, r4⟩ := hrs M1 (hm.fc w4)
  refine ⟨A', M2, k + k1 + 0 + 0, mj_up (mj_up lo 5 (mv_i c)) 6 (mv_i v), ⟨hv', r2, w3.fm r3⟩, by omega, fun R hR => ?_⟩
  iterate 5 refine ev_go rfl ?_
  refine ev_ok ⟨rfl, ix_ (j := 1) (by decide) hi hX⟩ rfl ?_
  iterate 4 refine ev_go rfl ?_
  refine ev_ok ⟨rfl, ix_ (j := 2) (by decide) hi hX⟩ rfl ?_
  iterate 4 refine ev_go rfl ?_
  refine ev_ok ⟨rfl, ix_ (j := 3) (by decide) hi hX⟩ rfl ?_
  iterate 4 refine ev_go rfl ?_
  refine ev_ok ⟨rfl, ix_ (j := 4) (by decide) hi hX⟩ rfl ?_
  refine ev_go rfl ?_
  refine ev_callr rfl rfl rfl w1 ?_
  iterate 6 refine ev_go rfl ?_
  refine ev_ok ⟨rfl, ix_ (j := 1) (by decide) hi hX⟩ rfl ?_
  iterate 4 refine ev_go rfl ?_
  refine ev_ok ⟨rfl, ix_ (j := 2) (by decide) hi hX⟩ rfl ?_
  iterate 4 refine ev_go rfl ?_
  refine ev_ok ⟨rfl, ix_ (j := 3) (by decide) hi hX⟩ rfl ?_
  iterate 4 refine ev_go rfl ?_
  refine ev_ok ⟨rfl, ix_ (j := 4) (by decide) hi hX⟩ rfl ?_
  refine ev_callr rfl rfl rfl r1 ?_
  iterate 2 refine ev_go rfl ?_
  refine ev_callr rfl rfl rfl pm_thrown ?_
  refine ev_go rfl ?_
  rw [r4]
  refine ev_if rfl (fun h203 => ?_) (fun h203 => ?_)
  · refine ev_go rfl ?_
    refine ev_if rfl (fun h210 => ?_) (fun h210 => ?_)
    · iterate 6 refine ev_go rfl ?_
      show mj_Ev _ _ _ _ _ _ _ [mv_i (lg_cmp M2.2 v.toInt64)] _ _ _
      rw [r3.1, w5 h210, lg_same]
      iterate 2 refine ev_go rfl ?_
      refine ev_lo ?_ hR
      funext z
      by_cases z0 : z = 0
      · subst z0
        first
          | rfl
          | simp [mj_up]
      by_cases z1 : z = 1
      · subst z1
        first
          | rfl
          | simp [mj_up]
      by_cases z2 : z = 2
      · subst z2
        first
          | rfl
          | simp [mj_up]
      by_cases z3 : z = 3
      · subst z3
        first
          | rfl
          | simp [mj_up]
      by_cases z4 : z = 4
      · subst z4
        first
          | rfl
          | simp [mj_up]
      by_cases z5 : z = 5
      · subst z5
        first
          | rfl
          | simp [mj_up]
      by_cases z6 : z = 6
      · subst z6
        first
          | rfl
          | simp [mj_up]
      first
        | (simp [mj_up, z0, z1, z2, z3, z4, z5, z6]; done)
        | (simp [mj_up, z0, z1, z2, z3, z4, z5, z6]; intro q; first | exact absurd q z0 | exact absurd q z1 | exact absurd q z2 | exact absurd q z3 | exact absurd q z4 | exact absurd q z5 | exact absurd q z6)
    · refine ev_go rfl ?_
      refine ev_lo ?_ hR
      funext z
      by_cases z0 : z = 0
      · subst z0
        first
          | rfl
          | simp [mj_up]
      by_cases z1 : z = 1
      · subst z1
        first
          | rfl
          | simp [mj_up]
      by_cases z2 : z = 2
      · subst z2
        first
          | rfl
          | simp [mj_up]
      by_cases z3 : z = 3
      · subst z3
        first
          | rfl
          | simp [mj_up]
      by_cases z4 : z = 4
      · subst z4
        first
          | rfl
          | simp [mj_up]
      by_cases z5 : z = 5
      · subst z5
        first
          | rfl
          | simp [mj_up]
      by_cases z6 : z = 6
      · subst z6
        first
          | rfl
          | simp [mj_up]
      first
        | (simp [mj_up, z0, z1, z2, z3, z4, z5, z6]; done)
        | (simp [mj_up, z0, z1, z2, z3, z4, z5, z6]; intro q; first | exact absurd q z0 | exact absurd q z1 | exact absurd q z2 | exact absurd q z3 | exact absurd q z4 | exact absurd q z5 | exact absurd q z6)
  · exact absurd rfl h203
theorem lc_take (h : jq_ A M) (hi : i + 6 ≤ X.1) (hX : X.1 ≤ 3072) : ca_ X d 228 i lo M k := by
  obtain ⟨c, v, A', hv', hrs, hcs⟩ := ag_take (X := X) (d := d) h.1 (X.2 (nI i + nI 1).toNatClampNeg) (X.2 (nI i + nI 2).toNatClampNeg) (X.2 (nI i + nI 3).toNatClampNeg) (X.2 (nI i + nI 4).toNatClampNeg)
  obtain ⟨hv, hm, hc⟩ := h
  obtain ⟨M1, k1, w1, w2, w3, w4, w5⟩ := hcs M hc
  obtain ⟨M2, r1, r2, r3, r4⟩ := hrs M1 (hm.fc w4)
  refine ⟨A', M2, k + k1 + 0 + 0, mj_up (mj_up lo 5 (mv_i c)) 6 (mv_i v), ⟨hv', r2, w3.fm r3⟩, by omega, fun R hR => ?_⟩
  iterate 5 refine ev_go rfl ?_
  refine ev_ok ⟨rfl, ix_ (j := 1) (by decide) hi hX⟩ rfl ?_
  iterate 4 refine ev_go rfl ?_
  refine ev_ok ⟨rfl, ix_ (j := 2) (by decide) hi hX⟩ rfl ?_
  iterate 4 refine ev_go rfl ?_
  refine ev_ok ⟨rfl, ix_ (j := 3) (by decide) hi hX⟩ rfl ?_
  iterate 4 refine ev_go rfl ?_
  refine ev_ok ⟨rfl, ix_ (j := 4) (by decide) hi hX⟩ rfl ?_
  refine ev_go rfl ?_
  refine ev_callr rfl rfl rfl w1 ?_
  iterate 6 refine ev_go rfl ?_
  refine ev_ok ⟨rfl, ix_ (j := 1) (by decide) hi hX⟩ rfl ?_
  iterate 4 refine ev_go rfl ?_
  refine ev_ok ⟨rfl, ix_ (j := 2) (by decide) hi hX⟩ rfl ?_
  iterate 4 refine ev_go rfl ?_
  refine ev_ok ⟨rfl, ix_ (j := 3) (by decide) hi hX⟩ rfl ?_
  iterate 4 refine ev_go rfl ?_
  refine ev_ok ⟨rfl, ix_ (j := 4) (by decide) hi hX⟩ rfl ?_
  refine ev_callr rfl rfl rfl r1 ?_
  iterate 2 refine ev_go rfl ?_
  refine ev_callr rfl rfl rfl pm_thrown ?_
  refine ev_go rfl ?_
  rw [r4]
  refine ev_if rfl (fun h295 => ?_) (fun h295 => ?_)
  · refine ev_go rfl ?_
    refine ev_if rfl (fun h302 => ?_) (fun h302 => ?_)
    · iterate 6 refine ev_go rfl ?_
      show mj_Ev _ _ _ _ _ _ _ [mv_i (lg_cmp M2.2 v.toInt64)] _ _ _
      rw [r3.1, w5 h302, lg_same]
      iterate 2 refine ev_go rfl ?_
      refine ev_lo ?_ hR
      funext z
      by_cases z0 : z = 0
      · subst z0
        first
          | rfl
          | simp [mj_up]
      by_cases z1 : z = 1
      · subst z1
        first
          | rfl
          | simp [mj_up]
      by_cases z2 : z = 2
      · subst z2
        first
          | rfl
          | simp [mj_up]
      by_cases z3 : z = 3
      · subst z3
        first
          | rfl
          | simp [mj_up]
      by_cases z4 : z = 4
      · subst z4
        first
          | rfl
          | simp [mj_up]
      by_cases z5 : z = 5
      · subst z5
        first
          | rfl
          | simp [mj_up]
      by_cases z6 : z = 6
      · subst z6
        first
          | rfl
          | simp [mj_up]
      first
        | (simp [mj_up, z0, z1, z2, z3, z4, z5, z6]; done)
        | (simp [mj_up, z0, z1, z2, z3, z4, z5, z6]; intro q; first | exact absurd q z0 | exact absurd q z1 | exact absurd q z2 | exact absurd q z3 | exact absurd q z4 | exact absurd q z5 | exact absurd q z6)
    · refine ev_go rfl ?_
      refine ev_lo ?_ hR
      funext z
      by_cases z0 : z = 0
      · subst z0
        first
          | rfl
          | simp [mj_up]
      by_cases z1 : z = 1
      · subst z1
        first
          | rfl
          | simp [mj_up]
      by_cases z2 : z = 2
      · subst z2
        first
          | rfl
          | simp [mj_up]
      by_cases z3 : z = 3
      · subst z3
        first
          | rfl
          | simp [mj_up]
      by_cases z4 : z = 4
      · subst z4
        first
          | rfl
          | simp [mj_up]
      by_cases z5 : z = 5
      · subst z5
        first
          | rfl
          | simp [mj_up]
      by_cases z6 : z = 6
      · subst z6
        first
          | rfl
          | simp [mj_up]
      first
        | (simp [mj_up, z0, z1, z2, z3, z4, z5, z6]; done)
        | (simp [mj_up, z0, z1, z2, z3, z4, z5, z6]; intro q; first | exact absurd q z0 | exact absurd q z1 | exact absurd q z2 | exact absurd q z3 | exact absurd q z4 | exact absurd q z5 | exact absurd q z6)
  · exact absurd rfl h295
theorem lc_move (h : jq_ A M) (hi : i + 6 ≤ X.1) (hX : X.1 ≤ 3072) : ca_ X d 320 i lo M k := by
  obtain ⟨c, v, A', hv', hrs, hcs⟩ := ag_move (X := X) (d := d) h.1 (X.2 (nI i + nI 1).toNatClampNeg) (X.2 (nI i + nI 2).toNatClampNeg) (X.2 (nI i + nI 3).toNatClampNeg) (X.2 (nI i + nI 4).toNatClampNeg) (X.2 (nI i + nI 5).toNatClampNeg)
  obtain ⟨hv, hm, hc⟩ := h
  obtain ⟨M1, k1, w1, w2, w3, w4, w5⟩ := hcs M hc
  obtain ⟨M2, r1, r2, r3, r4⟩ := hrs M1 (hm.fc w4)
  refine ⟨A', M2, k + k1 + 0 + 0, mj_up (mj_up lo 5 (mv_i c)) 6 (mv_i v), ⟨hv', r2, w3.fm r3⟩, by omega, fun R hR => ?_⟩
  iterate 5 refine ev_go rfl ?_
  refine ev_ok ⟨rfl, ix_ (j := 1) (by decide) hi hX⟩ rfl ?_
  iterate 4 refine ev_go rfl ?_
  refine ev_ok ⟨rfl, ix_ (j := 2) (by decide) hi hX⟩ rfl ?_
  iterate 4 refine ev_go rfl ?_
  refine ev_ok ⟨rfl, ix_ (j := 3) (by decide) hi hX⟩ rfl ?_
  iterate 4 refine ev_go rfl ?_
  refine ev_ok ⟨rfl, ix_ (j := 4) (by decide) hi hX⟩ rfl ?_
  iterate 4 refine ev_go rfl ?_
  refine ev_ok ⟨rfl, ix_ (j := 5) (by decide) hi hX⟩ rfl ?_
  refine ev_go rfl ?_
  refine ev_callr rfl rfl rfl w1 ?_
  iterate 6 refine ev_go rfl ?_
  refine ev_ok ⟨rfl, ix_ (j := 1) (by decide) hi hX⟩ rfl ?_
  iterate 4 refine ev_go rfl ?_
  refine ev_ok ⟨rfl, ix_ (j := 2) (by decide) hi hX⟩ rfl ?_
  iterate 4 refine ev_go rfl ?_
  refine ev_ok ⟨rfl, ix_ (j := 3) (by decide) hi hX⟩ rfl ?_
  iterate 4 refine ev_go rfl ?_
  refine ev_ok ⟨rfl, ix_ (j := 4) (by decide) hi hX⟩ rfl ?_
  iterate 4 refine ev_go rfl ?_
  refine ev_ok ⟨rfl, ix_ (j := 5) (by decide) hi hX⟩ rfl ?_
  refine ev_callr rfl rfl rfl r1 ?_
  iterate 2 refine ev_go rfl ?_
  refine ev_callr rfl rfl rfl pm_thrown ?_
  refine ev_go rfl ?_
  rw [r4]
  refine ev_if rfl (fun h399 => ?_) (fun h399 => ?_)
  · refine ev_go rfl ?_
    refine ev_if rfl (fun h406 => ?_) (fun h406 => ?_)
    · iterate 6 refine ev_go rfl ?_
      show mj_Ev _ _ _ _ _ _ _ [mv_i (lg_cmp M2.2 v.toInt64)] _ _ _
      rw [r3.1, w5 h406, lg_same]
      iterate 2 refine ev_go rfl ?_
      refine ev_lo ?_ hR
      funext z
      by_cases z0 : z = 0
      · subst z0
        first
          | rfl
          | simp [mj_up]
      by_cases z1 : z = 1
      · subst z1
        first
          | rfl
          | simp [mj_up]
      by_cases z2 : z = 2
      · subst z2
        first
          | rfl
          | simp [mj_up]
      by_cases z3 : z = 3
      · subst z3
        first
          | rfl
          | simp [mj_up]
      by_cases z4 : z = 4
      · subst z4
        first
          | rfl
          | simp [mj_up]
      by_cases z5 : z = 5
      · subst z5
        first
          | rfl
          | simp [mj_up]
      by_cases z6 : z = 6
      · subst z6
        first
          | rfl
          | simp [mj_up]
      first
        | (simp [mj_up, z0, z1, z2, z3, z4, z5, z6]; done)
        | (simp [mj_up, z0, z1, z2, z3, z4, z5, z6]; intro q; first | exact absurd q z0 | exact absurd q z1 | exact absurd q z2 | exact absurd q z3 | exact absurd q z4 | exact absurd q z5 | exact absurd q z6)
    · refine ev_go rfl ?_
      refine ev_lo ?_ hR
      funext z
      by_cases z0 : z = 0
      · subst z0
        first
          | rfl
          | simp [mj_up]
      by_cases z1 : z = 1
      · subst z1
        first
          | rfl
          | simp [mj_up]
      by_cases z2 : z = 2
      · subst z2
        first
          | rfl
          | simp [mj_up]
      by_cases z3 : z = 3
      · subst z3
        first
          | rfl
          | simp [mj_up]
      by_cases z4 : z = 4
      · subst z4
        first
          | rfl
          | simp [mj_up]
      by_cases z5 : z = 5
      · subst z5
        first
          | rfl
          | simp [mj_up]
      by_cases z6 : z = 6
      · subst z6
        first
          | rfl
          | simp [mj_up]
      first
        | (simp [mj_up, z0, z1, z2, z3, z4, z5, z6]; done)
        | (simp [mj_up, z0, z1, z2, z3, z4, z5, z6]; intro q; first | exact absurd q z0 | exact absurd q z1 | exact absurd q z2 | exact absurd q z3 | exact absurd q z4 | exact absurd q z5 | exact absurd q z6)
  · exact absurd rfl h399
theorem lc_window (h : jq_ A M) (hi : i + 6 ≤ X.1) (hX : X.1 ≤ 3072) : ca_ X d 508 i lo M k := by
  obtain ⟨c, v, A', hv', hrs, hcs⟩ := ag_window (X := X) (d := d) h.1 (X.2 (nI i + nI 1).toNatClampNeg) (X.2 (nI i + nI 2).toNatClampNeg)
  obtain ⟨hv, hm, hc⟩ := h
  obtain ⟨M1, k1, w1, w2, w3, w4, w5⟩ := hcs M hc
  obtain ⟨M2, r1, r2, r3, r4⟩ := hrs M1 (hm.fc w4)
  refine ⟨A', M2, k + k1 + 0 + 0, mj_up (mj_up lo 5 (mv_i c)) 6 (mv_i v), ⟨hv', r2, w3.fm r3⟩, by omega, fun R hR => ?_⟩
  iterate 5 refine ev_go rfl ?_
  refine ev_ok ⟨rfl, ix_ (j := 1) (by decide) hi hX⟩ rfl ?_
  iterate 4 refine ev_go rfl ?_
  refine ev_ok ⟨rfl, ix_ (j := 2) (by decide) hi hX⟩ rfl ?_
  refine ev_go rfl ?_
  refine ev_callr rfl rfl rfl w1 ?_
  iterate 6 refine ev_go rfl ?_
  refine ev_ok ⟨rfl, ix_ (j := 1) (by decide) hi hX⟩ rfl ?_
  iterate 4 refine ev_go rfl ?_
  refine ev_ok ⟨rfl, ix_ (j := 2) (by decide) hi hX⟩ rfl ?_
  refine ev_callr rfl rfl rfl r1 ?_
  iterate 2 refine ev_go rfl ?_
  refine ev_callr rfl rfl rfl pm_thrown ?_
  refine ev_go rfl ?_
  rw [r4]
  refine ev_if rfl (fun h551 => ?_) (fun h551 => ?_)
  · refine ev_go rfl ?_
    refine ev_if rfl (fun h558 => ?_) (fun h558 => ?_)
    · iterate 6 refine ev_go rfl ?_
      show mj_Ev _ _ _ _ _ _ _ [mv_i (lg_cmp M2.2 v.toInt64)] _ _ _
      rw [r3.1, w5 h558, lg_same]
      iterate 2 refine ev_go rfl ?_
      refine ev_lo ?_ hR
      funext z
      by_cases z0 : z = 0
      · subst z0
        first
          | rfl
          | simp [mj_up]
      by_cases z1 : z = 1
      · subst z1
        first
          | rfl
          | simp [mj_up]
      by_cases z2 : z = 2
      · subst z2
        first
          | rfl
          | simp [mj_up]
      by_cases z3 : z = 3
      · subst z3
        first
          | rfl
          | simp [mj_up]
      by_cases z4 : z = 4
      · subst z4
        first
          | rfl
          | simp [mj_up]
      by_cases z5 : z = 5
      · subst z5
        first
          | rfl
          | simp [mj_up]
      by_cases z6 : z = 6
      · subst z6
        first
          | rfl
          | simp [mj_up]
      first
        | (simp [mj_up, z0, z1, z2, z3, z4, z5, z6]; done)
        | (simp [mj_up, z0, z1, z2, z3, z4, z5, z6]; intro q; first | exact absurd q z0 | exact absurd q z1 | exact absurd q z2 | exact absurd q z3 | exact absurd q z4 | exact absurd q z5 | exact absurd q z6)
    · refine ev_go rfl ?_
      refine ev_lo ?_ hR
      funext z
      by_cases z0 : z = 0
      · subst z0
        first
          | rfl
          | simp [mj_up]
      by_cases z1 : z = 1
      · subst z1
        first
          | rfl
          | simp [mj_up]
      by_cases z2 : z = 2
      · subst z2
        first
          | rfl
          | simp [mj_up]
      by_cases z3 : z = 3
      · subst z3
        first
          | rfl
          | simp [mj_up]
      by_cases z4 : z = 4
      · subst z4
        first
          | rfl
          | simp [mj_up]
      by_cases z5 : z = 5
      · subst z5
        first
          | rfl
          | simp [mj_up]
      by_cases z6 : z = 6
      · subst z6
        first
          | rfl
          | simp [mj_up]
      first
        | (simp [mj_up, z0, z1, z2, z3, z4, z5, z6]; done)
        | (simp [mj_up, z0, z1, z2, z3, z4, z5, z6]; intro q; first | exact absurd q z0 | exact absurd q z1 | exact absurd q z2 | exact absurd q z3 | exact absurd q z4 | exact absurd q z5 | exact absurd q z6)
  · exact absurd rfl h551
theorem lc_counted (h : jq_ A M) (hi : i + 6 ≤ X.1) (hX : X.1 ≤ 3072) : ca_ X d 576 i lo M k := by
  obtain ⟨c, v, A', hv', hrs, hcs⟩ := ag_counted (X := X) (d := d) h.1 (X.2 (nI i + nI 1).toNatClampNeg) (X.2 (nI i + nI 2).toNatClampNeg) (X.2 (nI i + nI 3).toNatClampNeg)
  obtain ⟨hv, hm, hc⟩ := h
  obtain ⟨M1, k1, w1, w2, w3, w4, w5⟩ := hcs M hc
  obtain ⟨M2, r1, r2, r3, r4⟩ := hrs M1 (hm.fc w4)
  refine ⟨A', M2, k + k1 + 0 + 0, mj_up (mj_up lo 5 (mv_i c)) 6 (mv_i v), ⟨hv', r2, w3.fm r3⟩, by omega, fun R hR => ?_⟩
  iterate 5 refine ev_go rfl ?_
  refine ev_ok ⟨rfl, ix_ (j := 1) (by decide) hi hX⟩ rfl ?_
  iterate 4 refine ev_go rfl ?_
  refine ev_ok ⟨rfl, ix_ (j := 2) (by decide) hi hX⟩ rfl ?_
  iterate 4 refine ev_go rfl ?_
  refine ev_ok ⟨rfl, ix_ (j := 3) (by decide) hi hX⟩ rfl ?_
  refine ev_go rfl ?_
  refine ev_callr rfl rfl rfl w1 ?_
  iterate 6 refine ev_go rfl ?_
  refine ev_ok ⟨rfl, ix_ (j := 1) (by decide) hi hX⟩ rfl ?_
  iterate 4 refine ev_go rfl ?_
  refine ev_ok ⟨rfl, ix_ (j := 2) (by decide) hi hX⟩ rfl ?_
  iterate 4 refine ev_go rfl ?_
  refine ev_ok ⟨rfl, ix_ (j := 3) (by decide) hi hX⟩ rfl ?_
  refine ev_callr rfl rfl rfl r1 ?_
  iterate 2 refine ev_go rfl ?_
  refine ev_callr rfl rfl rfl pm_thrown ?_
  refine ev_go rfl ?_
  rw [r4]
  refine ev_if rfl (fun h631 => ?_) (fun h631 => ?_)
  · refine ev_go rfl ?_
    refine ev_if rfl (fun h638 => ?_) (fun h638 => ?_)
    · iterate 6 refine ev_go rfl ?_
      show mj_Ev _ _ _ _ _ _ _ [mv_i (lg_cmp M2.2 v.toInt64)] _ _ _
      rw [r3.1, w5 h638, lg_same]
      iterate 2 refine ev_go rfl ?_
      refine ev_lo ?_ hR
      funext z
      by_cases z0 : z = 0
      · subst z0
        first
          | rfl
          | simp [mj_up]
      by_cases z1 : z = 1
      · subst z1
        first
          | rfl
          | simp [mj_up]
      by_cases z2 : z = 2
      · subst z2
        first
          | rfl
          | simp [mj_up]
      by_cases z3 : z = 3
      · subst z3
        first
          | rfl
          | simp [mj_up]
      by_cases z4 : z = 4
      · subst z4
        first
          | rfl
          | simp [mj_up]
      by_cases z5 : z = 5
      · subst z5
        first
          | rfl
          | simp [mj_up]
      by_cases z6 : z = 6
      · subst z6
        first
          | rfl
          | simp [mj_up]
      first
        | (simp [mj_up, z0, z1, z2, z3, z4, z5, z6]; done)
        | (simp [mj_up, z0, z1, z2, z3, z4, z5, z6]; intro q; first | exact absurd q z0 | exact absurd q z1 | exact absurd q z2 | exact absurd q z3 | exact absurd q z4 | exact absurd q z5 | exact absurd q z6)
    · refine ev_go rfl ?_
      refine ev_lo ?_ hR
      funext z
      by_cases z0 : z = 0
      · subst z0
        first
          | rfl
          | simp [mj_up]
      by_cases z1 : z = 1
      · subst z1
        first
          | rfl
          | simp [mj_up]
      by_cases z2 : z = 2
      · subst z2
        first
          | rfl
          | simp [mj_up]
      by_cases z3 : z = 3
      · subst z3
        first
          | rfl
          | simp [mj_up]
      by_cases z4 : z = 4
      · subst z4
        first
          | rfl
          | simp [mj_up]
      by_cases z5 : z = 5
      · subst z5
        first
          | rfl
          | simp [mj_up]
      by_cases z6 : z = 6
      · subst z6
        first
          | rfl
          | simp [mj_up]
      first
        | (simp [mj_up, z0, z1, z2, z3, z4, z5, z6]; done)
        | (simp [mj_up, z0, z1, z2, z3, z4, z5, z6]; intro q; first | exact absurd q z0 | exact absurd q z1 | exact absurd q z2 | exact absurd q z3 | exact absurd q z4 | exact absurd q z5 | exact absurd q z6)
  · exact absurd rfl h631
theorem lc_expected (h : jq_ A M) (hi : i + 6 ≤ X.1) (hX : X.1 ≤ 3072) : ca_ X d 656 i lo M k := by
  obtain ⟨c, v, A', hv', hrs, hcs⟩ := ag_expected (X := X) (d := d) h.1 (X.2 (nI i + nI 1).toNatClampNeg) (X.2 (nI i + nI 2).toNatClampNeg)
  obtain ⟨hv, hm, hc⟩ := h
  obtain ⟨M1, k1, w1, w2, w3, w4, w5⟩ := hcs M hc
  obtain ⟨M2, r1, r2, r3, r4⟩ := hrs M1 (hm.fc w4)
  refine ⟨A', M2, k + k1 + 0 + 0, mj_up (mj_up lo 5 (mv_i c)) 6 (mv_i v), ⟨hv', r2, w3.fm r3⟩, by omega, fun R hR => ?_⟩
  iterate 5 refine ev_go rfl ?_
  refine ev_ok ⟨rfl, ix_ (j := 1) (by decide) hi hX⟩ rfl ?_
  iterate 4 refine ev_go rfl ?_
  refine ev_ok ⟨rfl, ix_ (j := 2) (by decide) hi hX⟩ rfl ?_
  refine ev_go rfl ?_
  refine ev_callr rfl rfl rfl w1 ?_
  iterate 6 refine ev_go rfl ?_
  refine ev_ok ⟨rfl, ix_ (j := 1) (by decide) hi hX⟩ rfl ?_
  iterate 4 refine ev_go rfl ?_
  refine ev_ok ⟨rfl, ix_ (j := 2) (by decide) hi hX⟩ rfl ?_
  refine ev_callr rfl rfl rfl r1 ?_
  iterate 2 refine ev_go rfl ?_
  refine ev_callr rfl rfl rfl pm_thrown ?_
  refine ev_go rfl ?_
  rw [r4]
  refine ev_if rfl (fun h699 => ?_) (fun h699 => ?_)
  · refine ev_go rfl ?_
    refine ev_if rfl (fun h706 => ?_) (fun h706 => ?_)
    · iterate 6 refine ev_go rfl ?_
      show mj_Ev _ _ _ _ _ _ _ [mv_i (lg_cmp M2.2 v.toInt64)] _ _ _
      rw [r3.1, w5 h706, lg_same]
      iterate 2 refine ev_go rfl ?_
      refine ev_lo ?_ hR
      funext z
      by_cases z0 : z = 0
      · subst z0
        first
          | rfl
          | simp [mj_up]
      by_cases z1 : z = 1
      · subst z1
        first
          | rfl
          | simp [mj_up]
      by_cases z2 : z = 2
      · subst z2
        first
          | rfl
          | simp [mj_up]
      by_cases z3 : z = 3
      · subst z3
        first
          | rfl
          | simp [mj_up]
      by_cases z4 : z = 4
      · subst z4
        first
          | rfl
          | simp [mj_up]
      by_cases z5 : z = 5
      · subst z5
        first
          | rfl
          | simp [mj_up]
      by_cases z6 : z = 6
      · subst z6
        first
          | rfl
          | simp [mj_up]
      first
        | (simp [mj_up, z0, z1, z2, z3, z4, z5, z6]; done)
        | (simp [mj_up, z0, z1, z2, z3, z4, z5, z6]; intro q; first | exact absurd q z0 | exact absurd q z1 | exact absurd q z2 | exact absurd q z3 | exact absurd q z4 | exact absurd q z5 | exact absurd q z6)
    · refine ev_go rfl ?_
      refine ev_lo ?_ hR
      funext z
      by_cases z0 : z = 0
      · subst z0
        first
          | rfl
          | simp [mj_up]
      by_cases z1 : z = 1
      · subst z1
        first
          | rfl
          | simp [mj_up]
      by_cases z2 : z = 2
      · subst z2
        first
          | rfl
          | simp [mj_up]
      by_cases z3 : z = 3
      · subst z3
        first
          | rfl
          | simp [mj_up]
      by_cases z4 : z = 4
      · subst z4
        first
          | rfl
          | simp [mj_up]
      by_cases z5 : z = 5
      · subst z5
        first
          | rfl
          | simp [mj_up]
      by_cases z6 : z = 6
      · subst z6
        first
          | rfl
          | simp [mj_up]
      first
        | (simp [mj_up, z0, z1, z2, z3, z4, z5, z6]; done)
        | (simp [mj_up, z0, z1, z2, z3, z4, z5, z6]; intro q; first | exact absurd q z0 | exact absurd q z1 | exact absurd q z2 | exact absurd q z3 | exact absurd q z4 | exact absurd q z5 | exact absurd q z6)
  · exact absurd rfl h699
theorem lc_differ (h : jq_ A M) (hi : i + 6 ≤ X.1) (hX : X.1 ≤ 3072) : ca_ X d 724 i lo M k := by
  obtain ⟨c, v, A', hv', hrs, hcs⟩ := ag_differ (X := X) (d := d) h.1 (X.2 (nI i + nI 1).toNatClampNeg) (X.2 (nI i + nI 2).toNatClampNeg)
  obtain ⟨hv, hm, hc⟩ := h
  obtain ⟨M1, k1, w1, w2, w3, w4, w5⟩ := hcs M hc
  obtain ⟨M2, r1, r2, r3, r4⟩ := hrs M1 (hm.fc w4)
  refine ⟨A', M2, k + k1 + 0 + 0, mj_up (mj_up lo 5 (mv_i c)) 6 (mv_i v), ⟨hv', r2, w3.fm r3⟩, by omega, fun R hR => ?_⟩
  iterate 5 refine ev_go rfl ?_
  refine ev_ok ⟨rfl, ix_ (j := 1) (by decide) hi hX⟩ rfl ?_
  iterate 4 refine ev_go rfl ?_
  refine ev_ok ⟨rfl, ix_ (j := 2) (by decide) hi hX⟩ rfl ?_
  refine ev_go rfl ?_
  refine ev_callr rfl rfl rfl w1 ?_
  iterate 6 refine ev_go rfl ?_
  refine ev_ok ⟨rfl, ix_ (j := 1) (by decide) hi hX⟩ rfl ?_
  iterate 4 refine ev_go rfl ?_
  refine ev_ok ⟨rfl, ix_ (j := 2) (by decide) hi hX⟩ rfl ?_
  refine ev_callr rfl rfl rfl r1 ?_
  iterate 2 refine ev_go rfl ?_
  refine ev_callr rfl rfl rfl pm_thrown ?_
  refine ev_go rfl ?_
  rw [r4]
  refine ev_if rfl (fun h767 => ?_) (fun h767 => ?_)
  · refine ev_go rfl ?_
    refine ev_if rfl (fun h774 => ?_) (fun h774 => ?_)
    · iterate 6 refine ev_go rfl ?_
      show mj_Ev _ _ _ _ _ _ _ [mv_i (lg_cmp M2.2 v.toInt64)] _ _ _
      rw [r3.1, w5 h774, lg_same]
      iterate 2 refine ev_go rfl ?_
      refine ev_lo ?_ hR
      funext z
      by_cases z0 : z = 0
      · subst z0
        first
          | rfl
          | simp [mj_up]
      by_cases z1 : z = 1
      · subst z1
        first
          | rfl
          | simp [mj_up]
      by_cases z2 : z = 2
      · subst z2
        first
          | rfl
          | simp [mj_up]
      by_cases z3 : z = 3
      · subst z3
        first
          | rfl
          | simp [mj_up]
      by_cases z4 : z = 4
      · subst z4
        first
          | rfl
          | simp [mj_up]
      by_cases z5 : z = 5
      · subst z5
        first
          | rfl
          | simp [mj_up]
      by_cases z6 : z = 6
      · subst z6
        first
          | rfl
          | simp [mj_up]
      first
        | (simp [mj_up, z0, z1, z2, z3, z4, z5, z6]; done)
        | (simp [mj_up, z0, z1, z2, z3, z4, z5, z6]; intro q; first | exact absurd q z0 | exact absurd q z1 | exact absurd q z2 | exact absurd q z3 | exact absurd q z4 | exact absurd q z5 | exact absurd q z6)
    · refine ev_go rfl ?_
      refine ev_lo ?_ hR
      funext z
      by_cases z0 : z = 0
      · subst z0
        first
          | rfl
          | simp [mj_up]
      by_cases z1 : z = 1
      · subst z1
        first
          | rfl
          | simp [mj_up]
      by_cases z2 : z = 2
      · subst z2
        first
          | rfl
          | simp [mj_up]
      by_cases z3 : z = 3
      · subst z3
        first
          | rfl
          | simp [mj_up]
      by_cases z4 : z = 4
      · subst z4
        first
          | rfl
          | simp [mj_up]
      by_cases z5 : z = 5
      · subst z5
        first
          | rfl
          | simp [mj_up]
      by_cases z6 : z = 6
      · subst z6
        first
          | rfl
          | simp [mj_up]
      first
        | (simp [mj_up, z0, z1, z2, z3, z4, z5, z6]; done)
        | (simp [mj_up, z0, z1, z2, z3, z4, z5, z6]; intro q; first | exact absurd q z0 | exact absurd q z1 | exact absurd q z2 | exact absurd q z3 | exact absurd q z4 | exact absurd q z5 | exact absurd q z6)
  · exact absurd rfl h767
theorem lc_search (h : jq_ A M) (hi : i + 6 ≤ X.1) (hX : X.1 ≤ 3072) : ca_ X d 792 i lo M k := by
  obtain ⟨c, v, A', hv', hrs, hcs⟩ := ag_search (X := X) (d := d) h.1 (X.2 (nI i + nI 1).toNatClampNeg) (X.2 (nI i + nI 2).toNatClampNeg)
  obtain ⟨hv, hm, hc⟩ := h
  obtain ⟨M1, k1, w1, w2, w3, w4, w5⟩ := hcs M hc
  obtain ⟨M2, r1, r2, r3, r4⟩ := hrs M1 (hm.fc w4)
  refine ⟨A', M2, k + k1 + 0 + 0, mj_up (mj_up lo 5 (mv_i c)) 6 (mv_i v), ⟨hv', r2, w3.fm r3⟩, by omega, fun R hR => ?_⟩
  iterate 5 refine ev_go rfl ?_
  refine ev_ok ⟨rfl, ix_ (j := 1) (by decide) hi hX⟩ rfl ?_
  iterate 4 refine ev_go rfl ?_
  refine ev_ok ⟨rfl, ix_ (j := 2) (by decide) hi hX⟩ rfl ?_
  refine ev_go rfl ?_
  refine ev_callr rfl rfl rfl w1 ?_
  iterate 6 refine ev_go rfl ?_
  refine ev_ok ⟨rfl, ix_ (j := 1) (by decide) hi hX⟩ rfl ?_
  iterate 4 refine ev_go rfl ?_
  refine ev_ok ⟨rfl, ix_ (j := 2) (by decide) hi hX⟩ rfl ?_
  refine ev_callr rfl rfl rfl r1 ?_
  iterate 2 refine ev_go rfl ?_
  refine ev_callr rfl rfl rfl pm_thrown ?_
  refine ev_go rfl ?_
  rw [r4]
  refine ev_if rfl (fun h835 => ?_) (fun h835 => ?_)
  · refine ev_go rfl ?_
    refine ev_if rfl (fun h842 => ?_) (fun h842 => ?_)
    · iterate 6 refine ev_go rfl ?_
      show mj_Ev _ _ _ _ _ _ _ [mv_i (lg_cmp M2.2 v.toInt64)] _ _ _
      rw [r3.1, w5 h842, lg_same]
      iterate 2 refine ev_go rfl ?_
      refine ev_lo ?_ hR
      funext z
      by_cases z0 : z = 0
      · subst z0
        first
          | rfl
          | simp [mj_up]
      by_cases z1 : z = 1
      · subst z1
        first
          | rfl
          | simp [mj_up]
      by_cases z2 : z = 2
      · subst z2
        first
          | rfl
          | simp [mj_up]
      by_cases z3 : z = 3
      · subst z3
        first
          | rfl
          | simp [mj_up]
      by_cases z4 : z = 4
      · subst z4
        first
          | rfl
          | simp [mj_up]
      by_cases z5 : z = 5
      · subst z5
        first
          | rfl
          | simp [mj_up]
      by_cases z6 : z = 6
      · subst z6
        first
          | rfl
          | simp [mj_up]
      first
        | (simp [mj_up, z0, z1, z2, z3, z4, z5, z6]; done)
        | (simp [mj_up, z0, z1, z2, z3, z4, z5, z6]; intro q; first | exact absurd q z0 | exact absurd q z1 | exact absurd q z2 | exact absurd q z3 | exact absurd q z4 | exact absurd q z5 | exact absurd q z6)
    · refine ev_go rfl ?_
      refine ev_lo ?_ hR
      funext z
      by_cases z0 : z = 0
      · subst z0
        first
          | rfl
          | simp [mj_up]
      by_cases z1 : z = 1
      · subst z1
        first
          | rfl
          | simp [mj_up]
      by_cases z2 : z = 2
      · subst z2
        first
          | rfl
          | simp [mj_up]
      by_cases z3 : z = 3
      · subst z3
        first
          | rfl
          | simp [mj_up]
      by_cases z4 : z = 4
      · subst z4
        first
          | rfl
          | simp [mj_up]
      by_cases z5 : z = 5
      · subst z5
        first
          | rfl
          | simp [mj_up]
      by_cases z6 : z = 6
      · subst z6
        first
          | rfl
          | simp [mj_up]
      first
        | (simp [mj_up, z0, z1, z2, z3, z4, z5, z6]; done)
        | (simp [mj_up, z0, z1, z2, z3, z4, z5, z6]; intro q; first | exact absurd q z0 | exact absurd q z1 | exact absurd q z2 | exact absurd q z3 | exact absurd q z4 | exact absurd q z5 | exact absurd q z6)
  · exact absurd rfl h835
theorem lc_often (h : jq_ A M) (hi : i + 6 ≤ X.1) (hX : X.1 ≤ 3072) : ca_ X d 899 i lo M k := by
  obtain ⟨c, v, A', hv', hrs, hcs⟩ := ag_often (X := X) (d := d) h.1 (X.2 (nI i + nI 1).toNatClampNeg)
  obtain ⟨hv, hm, hc⟩ := h
  obtain ⟨M1, k1, w1, w2, w3, w4, w5⟩ := hcs M hc
  obtain ⟨M2, r1, r2, r3, r4⟩ := hrs M1 (hm.fc w4)
  refine ⟨A', M2, k + k1 + 0 + 0, mj_up (mj_up lo 5 (mv_i c)) 6 (mv_i v), ⟨hv', r2, w3.fm r3⟩, by omega, fun R hR => ?_⟩
  iterate 5 refine ev_go rfl ?_
  refine ev_ok ⟨rfl, ix_ (j := 1) (by decide) hi hX⟩ rfl ?_
  refine ev_go rfl ?_
  refine ev_callr rfl rfl rfl w1 ?_
  iterate 6 refine ev_go rfl ?_
  refine ev_ok ⟨rfl, ix_ (j := 1) (by decide) hi hX⟩ rfl ?_
  refine ev_callr rfl rfl rfl r1 ?_
  iterate 2 refine ev_go rfl ?_
  refine ev_callr rfl rfl rfl pm_thrown ?_
  refine ev_go rfl ?_
  rw [r4]
  refine ev_if rfl (fun h930 => ?_) (fun h930 => ?_)
  · refine ev_go rfl ?_
    refine ev_if rfl (fun h937 => ?_) (fun h937 => ?_)
    · iterate 6 refine ev_go rfl ?_
      show mj_Ev _ _ _ _ _ _ _ [mv_i (lg_cmp M2.2 v.toInt64)] _ _ _
      rw [r3.1, w5 h937, lg_same]
      iterate 2 refine ev_go rfl ?_
      refine ev_lo ?_ hR
      funext z
      by_cases z0 : z = 0
      · subst z0
        first
          | rfl
          | simp [mj_up]
      by_cases z1 : z = 1
      · subst z1
        first
          | rfl
          | simp [mj_up]
      by_cases z2 : z = 2
      · subst z2
        first
          | rfl
          | simp [mj_up]
      by_cases z3 : z = 3
      · subst z3
        first
          | rfl
          | simp [mj_up]
      by_cases z4 : z = 4
      · subst z4
        first
          | rfl
          | simp [mj_up]
      by_cases z5 : z = 5
      · subst z5
        first
          | rfl
          | simp [mj_up]
      by_cases z6 : z = 6
      · subst z6
        first
          | rfl
          | simp [mj_up]
      first
        | (simp [mj_up, z0, z1, z2, z3, z4, z5, z6]; done)
        | (simp [mj_up, z0, z1, z2, z3, z4, z5, z6]; intro q; first | exact absurd q z0 | exact absurd q z1 | exact absurd q z2 | exact absurd q z3 | exact absurd q z4 | exact absurd q z5 | exact absurd q z6)
    · refine ev_go rfl ?_
      refine ev_lo ?_ hR
      funext z
      by_cases z0 : z = 0
      · subst z0
        first
          | rfl
          | simp [mj_up]
      by_cases z1 : z = 1
      · subst z1
        first
          | rfl
          | simp [mj_up]
      by_cases z2 : z = 2
      · subst z2
        first
          | rfl
          | simp [mj_up]
      by_cases z3 : z = 3
      · subst z3
        first
          | rfl
          | simp [mj_up]
      by_cases z4 : z = 4
      · subst z4
        first
          | rfl
          | simp [mj_up]
      by_cases z5 : z = 5
      · subst z5
        first
          | rfl
          | simp [mj_up]
      by_cases z6 : z = 6
      · subst z6
        first
          | rfl
          | simp [mj_up]
      first
        | (simp [mj_up, z0, z1, z2, z3, z4, z5, z6]; done)
        | (simp [mj_up, z0, z1, z2, z3, z4, z5, z6]; intro q; first | exact absurd q z0 | exact absurd q z1 | exact absurd q z2 | exact absurd q z3 | exact absurd q z4 | exact absurd q z5 | exact absurd q z6)
  · exact absurd rfl h930
theorem lc_found (h : jq_ A M) (hi : i + 6 ≤ X.1) (hX : X.1 ≤ 3072) : ca_ X d 955 i lo M k := by
  obtain ⟨c, v, A', hv', hrs, hcs⟩ := ag_found (X := X) (d := d) h.1 (X.2 (nI i + nI 1).toNatClampNeg) (X.2 (nI i + nI 2).toNatClampNeg)
  obtain ⟨hv, hm, hc⟩ := h
  obtain ⟨M1, k1, w1, w2, w3, w4, w5⟩ := hcs M hc
  obtain ⟨M2, r1, r2, r3, r4⟩ := hrs M1 (hm.fc w4)
  refine ⟨A', M2, k + k1 + 0 + 0, mj_up (mj_up lo 5 (mv_i c)) 6 (mv_i v), ⟨hv', r2, w3.fm r3⟩, by omega, fun R hR => ?_⟩
  iterate 5 refine ev_go rfl ?_
  refine ev_ok ⟨rfl, ix_ (j := 1) (by decide) hi hX⟩ rfl ?_
  iterate 4 refine ev_go rfl ?_
  refine ev_ok ⟨rfl, ix_ (j := 2) (by decide) hi hX⟩ rfl ?_
  refine ev_go rfl ?_
  refine ev_callr rfl rfl rfl w1 ?_
  iterate 6 refine ev_go rfl ?_
  refine ev_ok ⟨rfl, ix_ (j := 1) (by decide) hi hX⟩ rfl ?_
  iterate 4 refine ev_go rfl ?_
  refine ev_ok ⟨rfl, ix_ (j := 2) (by decide) hi hX⟩ rfl ?_
  refine ev_callr rfl rfl rfl r1 ?_
  iterate 2 refine ev_go rfl ?_
  refine ev_callr rfl rfl rfl pm_thrown ?_
  refine ev_go rfl ?_
  rw [r4]
  refine ev_if rfl (fun h998 => ?_) (fun h998 => ?_)
  · refine ev_go rfl ?_
    refine ev_if rfl (fun h1005 => ?_) (fun h1005 => ?_)
    · iterate 6 refine ev_go rfl ?_
      show mj_Ev _ _ _ _ _ _ _ [mv_i (lg_cmp M2.2 v.toInt64)] _ _ _
      rw [r3.1, w5 h1005, lg_same]
      iterate 2 refine ev_go rfl ?_
      refine ev_lo ?_ hR
      funext z
      by_cases z0 : z = 0
      · subst z0
        first
          | rfl
          | simp [mj_up]
      by_cases z1 : z = 1
      · subst z1
        first
          | rfl
          | simp [mj_up]
      by_cases z2 : z = 2
      · subst z2
        first
          | rfl
          | simp [mj_up]
      by_cases z3 : z = 3
      · subst z3
        first
          | rfl
          | simp [mj_up]
      by_cases z4 : z = 4
      · subst z4
        first
          | rfl
          | simp [mj_up]
      by_cases z5 : z = 5
      · subst z5
        first
          | rfl
          | simp [mj_up]
      by_cases z6 : z = 6
      · subst z6
        first
          | rfl
          | simp [mj_up]
      first
        | (simp [mj_up, z0, z1, z2, z3, z4, z5, z6]; done)
        | (simp [mj_up, z0, z1, z2, z3, z4, z5, z6]; intro q; first | exact absurd q z0 | exact absurd q z1 | exact absurd q z2 | exact absurd q z3 | exact absurd q z4 | exact absurd q z5 | exact absurd q z6)
    · refine ev_go rfl ?_
      refine ev_lo ?_ hR
      funext z
      by_cases z0 : z = 0
      · subst z0
        first
          | rfl
          | simp [mj_up]
      by_cases z1 : z = 1
      · subst z1
        first
          | rfl
          | simp [mj_up]
      by_cases z2 : z = 2
      · subst z2
        first
          | rfl
          | simp [mj_up]
      by_cases z3 : z = 3
      · subst z3
        first
          | rfl
          | simp [mj_up]
      by_cases z4 : z = 4
      · subst z4
        first
          | rfl
          | simp [mj_up]
      by_cases z5 : z = 5
      · subst z5
        first
          | rfl
          | simp [mj_up]
      by_cases z6 : z = 6
      · subst z6
        first
          | rfl
          | simp [mj_up]
      first
        | (simp [mj_up, z0, z1, z2, z3, z4, z5, z6]; done)
        | (simp [mj_up, z0, z1, z2, z3, z4, z5, z6]; intro q; first | exact absurd q z0 | exact absurd q z1 | exact absurd q z2 | exact absurd q z3 | exact absurd q z4 | exact absurd q z5 | exact absurd q z6)
  · exact absurd rfl h998
theorem lc_accept (h : jq_ A M) (hi : i + 6 ≤ X.1) (hX : X.1 ≤ 3072) : ca_ X d 1023 i lo M k := by
  obtain ⟨c, v, A', hv', hrs, hcs⟩ := ag_accept (X := X) (d := d) h.1 
  obtain ⟨hv, hm, hc⟩ := h
  obtain ⟨M1, k1, w1, w2, w3, w4, w5⟩ := hcs M hc
  obtain ⟨M2, r1, r2, r3, r4⟩ := hrs M1 (hm.fc w4)
  refine ⟨A', M2, k + k1 + 0 + 0, mj_up (mj_up lo 5 (mv_i c)) 6 (mv_i v), ⟨hv', r2, w3.fm r3⟩, by omega, fun R hR => ?_⟩
  iterate 2 refine ev_go rfl ?_
  refine ev_callr rfl rfl rfl w1 ?_
  iterate 2 refine ev_go rfl ?_
  refine ev_callr rfl rfl rfl r1 ?_
  iterate 2 refine ev_go rfl ?_
  refine ev_callr rfl rfl rfl pm_thrown ?_
  refine ev_go rfl ?_
  rw [r4]
  refine ev_if rfl (fun h1042 => ?_) (fun h1042 => ?_)
  · refine ev_go rfl ?_
    refine ev_if rfl (fun h1049 => ?_) (fun h1049 => ?_)
    · iterate 6 refine ev_go rfl ?_
      show mj_Ev _ _ _ _ _ _ _ [mv_i (lg_cmp M2.2 v.toInt64)] _ _ _
      rw [r3.1, w5 h1049, lg_same]
      iterate 2 refine ev_go rfl ?_
      refine ev_lo ?_ hR
      funext z
      by_cases z0 : z = 0
      · subst z0
        first
          | rfl
          | simp [mj_up]
      by_cases z1 : z = 1
      · subst z1
        first
          | rfl
          | simp [mj_up]
      by_cases z2 : z = 2
      · subst z2
        first
          | rfl
          | simp [mj_up]
      by_cases z3 : z = 3
      · subst z3
        first
          | rfl
          | simp [mj_up]
      by_cases z4 : z = 4
      · subst z4
        first
          | rfl
          | simp [mj_up]
      by_cases z5 : z = 5
      · subst z5
        first
          | rfl
          | simp [mj_up]
      by_cases z6 : z = 6
      · subst z6
        first
          | rfl
          | simp [mj_up]
      first
        | (simp [mj_up, z0, z1, z2, z3, z4, z5, z6]; done)
        | (simp [mj_up, z0, z1, z2, z3, z4, z5, z6]; intro q; first | exact absurd q z0 | exact absurd q z1 | exact absurd q z2 | exact absurd q z3 | exact absurd q z4 | exact absurd q z5 | exact absurd q z6)
    · refine ev_go rfl ?_
      refine ev_lo ?_ hR
      funext z
      by_cases z0 : z = 0
      · subst z0
        first
          | rfl
          | simp [mj_up]
      by_cases z1 : z = 1
      · subst z1
        first
          | rfl
          | simp [mj_up]
      by_cases z2 : z = 2
      · subst z2
        first
          | rfl
          | simp [mj_up]
      by_cases z3 : z = 3
      · subst z3
        first
          | rfl
          | simp [mj_up]
      by_cases z4 : z = 4
      · subst z4
        first
          | rfl
          | simp [mj_up]
      by_cases z5 : z = 5
      · subst z5
        first
          | rfl
          | simp [mj_up]
      by_cases z6 : z = 6
      · subst z6
        first
          | rfl
          | simp [mj_up]
      first
        | (simp [mj_up, z0, z1, z2, z3, z4, z5, z6]; done)
        | (simp [mj_up, z0, z1, z2, z3, z4, z5, z6]; intro q; first | exact absurd q z0 | exact absurd q z1 | exact absurd q z2 | exact absurd q z3 | exact absurd q z4 | exact absurd q z5 | exact absurd q z6)
  · exact absurd rfl h1042
theorem lc_back (h : jq_ A M) (hi : i + 6 ≤ X.1) (hX : X.1 ≤ 3072) : ca_ X d 1067 i lo M k := by
  obtain ⟨c, v, A', hv', hrs, hcs⟩ := ag_back (X := X) (d := d) h.1 (X.2 (nI i + nI 1).toNatClampNeg)
  obtain ⟨hv, hm, hc⟩ := h
  obtain ⟨M1, k1, w1, w2, w3, w4, w5⟩ := hcs M hc
  obtain ⟨M2, r1, r2, r3, r4⟩ := hrs M1 (hm.fc w4)
  refine ⟨A', M2, k + k1 + 0 + 0, mj_up (mj_up lo 5 (mv_i c)) 6 (mv_i v), ⟨hv', r2, w3.fm r3⟩, by omega, fun R hR => ?_⟩
  iterate 5 refine ev_go rfl ?_
  refine ev_ok ⟨rfl, ix_ (j := 1) (by decide) hi hX⟩ rfl ?_
  refine ev_go rfl ?_
  refine ev_callr rfl rfl rfl w1 ?_
  iterate 6 refine ev_go rfl ?_
  refine ev_ok ⟨rfl, ix_ (j := 1) (by decide) hi hX⟩ rfl ?_
  refine ev_callr rfl rfl rfl r1 ?_
  iterate 2 refine ev_go rfl ?_
  refine ev_callr rfl rfl rfl pm_thrown ?_
  refine ev_go rfl ?_
  rw [r4]
  refine ev_if rfl (fun h1098 => ?_) (fun h1098 => ?_)
  · refine ev_go rfl ?_
    refine ev_if rfl (fun h1105 => ?_) (fun h1105 => ?_)
    · iterate 6 refine ev_go rfl ?_
      show mj_Ev _ _ _ _ _ _ _ [mv_i (lg_cmp M2.2 v.toInt64)] _ _ _
      rw [r3.1, w5 h1105, lg_same]
      iterate 2 refine ev_go rfl ?_
      refine ev_lo ?_ hR
      funext z
      by_cases z0 : z = 0
      · subst z0
        first
          | rfl
          | simp [mj_up]
      by_cases z1 : z = 1
      · subst z1
        first
          | rfl
          | simp [mj_up]
      by_cases z2 : z = 2
      · subst z2
        first
          | rfl
          | simp [mj_up]
      by_cases z3 : z = 3
      · subst z3
        first
          | rfl
          | simp [mj_up]
      by_cases z4 : z = 4
      · subst z4
        first
          | rfl
          | simp [mj_up]
      by_cases z5 : z = 5
      · subst z5
        first
          | rfl
          | simp [mj_up]
      by_cases z6 : z = 6
      · subst z6
        first
          | rfl
          | simp [mj_up]
      first
        | (simp [mj_up, z0, z1, z2, z3, z4, z5, z6]; done)
        | (simp [mj_up, z0, z1, z2, z3, z4, z5, z6]; intro q; first | exact absurd q z0 | exact absurd q z1 | exact absurd q z2 | exact absurd q z3 | exact absurd q z4 | exact absurd q z5 | exact absurd q z6)
    · refine ev_go rfl ?_
      refine ev_lo ?_ hR
      funext z
      by_cases z0 : z = 0
      · subst z0
        first
          | rfl
          | simp [mj_up]
      by_cases z1 : z = 1
      · subst z1
        first
          | rfl
          | simp [mj_up]
      by_cases z2 : z = 2
      · subst z2
        first
          | rfl
          | simp [mj_up]
      by_cases z3 : z = 3
      · subst z3
        first
          | rfl
          | simp [mj_up]
      by_cases z4 : z = 4
      · subst z4
        first
          | rfl
          | simp [mj_up]
      by_cases z5 : z = 5
      · subst z5
        first
          | rfl
          | simp [mj_up]
      by_cases z6 : z = 6
      · subst z6
        first
          | rfl
          | simp [mj_up]
      first
        | (simp [mj_up, z0, z1, z2, z3, z4, z5, z6]; done)
        | (simp [mj_up, z0, z1, z2, z3, z4, z5, z6]; intro q; first | exact absurd q z0 | exact absurd q z1 | exact absurd q z2 | exact absurd q z3 | exact absurd q z4 | exact absurd q z5 | exact absurd q z6)
  · exact absurd rfl h1098
theorem lc_share (h : jq_ A M) (hi : i + 6 ≤ X.1) (hX : X.1 ≤ 3072) : ca_ X d 1123 i lo M k := by
  obtain ⟨c, v, A', hv', hrs, hcs⟩ := ag_share (X := X) (d := d) h.1 (X.2 (nI i + nI 1).toNatClampNeg) (X.2 (nI i + nI 2).toNatClampNeg)
  obtain ⟨hv, hm, hc⟩ := h
  obtain ⟨M1, k1, w1, w2, w3, w4, w5⟩ := hcs M hc
  obtain ⟨M2, r1, r2, r3, r4⟩ := hrs M1 (hm.fc w4)
  refine ⟨A', M2, k + k1 + 0 + 0, mj_up (mj_up lo 5 (mv_i c)) 6 (mv_i v), ⟨hv', r2, w3.fm r3⟩, by omega, fun R hR => ?_⟩
  iterate 5 refine ev_go rfl ?_
  refine ev_ok ⟨rfl, ix_ (j := 1) (by decide) hi hX⟩ rfl ?_
  iterate 4 refine ev_go rfl ?_
  refine ev_ok ⟨rfl, ix_ (j := 2) (by decide) hi hX⟩ rfl ?_
  refine ev_go rfl ?_
  refine ev_callr rfl rfl rfl w1 ?_
  iterate 6 refine ev_go rfl ?_
  refine ev_ok ⟨rfl, ix_ (j := 1) (by decide) hi hX⟩ rfl ?_
  iterate 4 refine ev_go rfl ?_
  refine ev_ok ⟨rfl, ix_ (j := 2) (by decide) hi hX⟩ rfl ?_
  refine ev_callr rfl rfl rfl r1 ?_
  iterate 2 refine ev_go rfl ?_
  refine ev_callr rfl rfl rfl pm_thrown ?_
  refine ev_go rfl ?_
  rw [r4]
  refine ev_if rfl (fun h1166 => ?_) (fun h1166 => ?_)
  · refine ev_go rfl ?_
    refine ev_if rfl (fun h1173 => ?_) (fun h1173 => ?_)
    · iterate 6 refine ev_go rfl ?_
      show mj_Ev _ _ _ _ _ _ _ [mv_i (lg_cmp M2.2 v.toInt64)] _ _ _
      rw [r3.1, w5 h1173, lg_same]
      iterate 2 refine ev_go rfl ?_
      refine ev_lo ?_ hR
      funext z
      by_cases z0 : z = 0
      · subst z0
        first
          | rfl
          | simp [mj_up]
      by_cases z1 : z = 1
      · subst z1
        first
          | rfl
          | simp [mj_up]
      by_cases z2 : z = 2
      · subst z2
        first
          | rfl
          | simp [mj_up]
      by_cases z3 : z = 3
      · subst z3
        first
          | rfl
          | simp [mj_up]
      by_cases z4 : z = 4
      · subst z4
        first
          | rfl
          | simp [mj_up]
      by_cases z5 : z = 5
      · subst z5
        first
          | rfl
          | simp [mj_up]
      by_cases z6 : z = 6
      · subst z6
        first
          | rfl
          | simp [mj_up]
      first
        | (simp [mj_up, z0, z1, z2, z3, z4, z5, z6]; done)
        | (simp [mj_up, z0, z1, z2, z3, z4, z5, z6]; intro q; first | exact absurd q z0 | exact absurd q z1 | exact absurd q z2 | exact absurd q z3 | exact absurd q z4 | exact absurd q z5 | exact absurd q z6)
    · refine ev_go rfl ?_
      refine ev_lo ?_ hR
      funext z
      by_cases z0 : z = 0
      · subst z0
        first
          | rfl
          | simp [mj_up]
      by_cases z1 : z = 1
      · subst z1
        first
          | rfl
          | simp [mj_up]
      by_cases z2 : z = 2
      · subst z2
        first
          | rfl
          | simp [mj_up]
      by_cases z3 : z = 3
      · subst z3
        first
          | rfl
          | simp [mj_up]
      by_cases z4 : z = 4
      · subst z4
        first
          | rfl
          | simp [mj_up]
      by_cases z5 : z = 5
      · subst z5
        first
          | rfl
          | simp [mj_up]
      by_cases z6 : z = 6
      · subst z6
        first
          | rfl
          | simp [mj_up]
      first
        | (simp [mj_up, z0, z1, z2, z3, z4, z5, z6]; done)
        | (simp [mj_up, z0, z1, z2, z3, z4, z5, z6]; intro q; first | exact absurd q z0 | exact absurd q z1 | exact absurd q z2 | exact absurd q z3 | exact absurd q z4 | exact absurd q z5 | exact absurd q z6)
  · exact absurd rfl h1166
theorem lc_told (h : jq_ A M) (hi : i + 6 ≤ X.1) (hX : X.1 ≤ 3072) : ca_ X d 1191 i lo M k := by
  obtain ⟨c, v, A', hv', hrs, hcs⟩ := ag_told (X := X) (d := d) h.1 (X.2 (nI i + nI 1).toNatClampNeg) (X.2 (nI i + nI 2).toNatClampNeg)
  obtain ⟨hv, hm, hc⟩ := h
  obtain ⟨M1, k1, w1, w2, w3, w4, w5⟩ := hcs M hc
  obtain ⟨M2, r1, r2, r3, r4⟩ := hrs M1 (hm.fc w4)
  refine ⟨A', M2, k + k1 + 0 + 0, mj_up (mj_up lo 5 (mv_i c)) 6 (mv_i v), ⟨hv', r2, w3.fm r3⟩, by omega, fun R hR => ?_⟩
  iterate 5 refine ev_go rfl ?_
  refine ev_ok ⟨rfl, ix_ (j := 1) (by decide) hi hX⟩ rfl ?_
  iterate 4 refine ev_go rfl ?_
  refine ev_ok ⟨rfl, ix_ (j := 2) (by decide) hi hX⟩ rfl ?_
  refine ev_go rfl ?_
  refine ev_callr rfl rfl rfl w1 ?_
  iterate 6 refine ev_go rfl ?_
  refine ev_ok ⟨rfl, ix_ (j := 1) (by decide) hi hX⟩ rfl ?_
  iterate 4 refine ev_go rfl ?_
  refine ev_ok ⟨rfl, ix_ (j := 2) (by decide) hi hX⟩ rfl ?_
  refine ev_callr rfl rfl rfl r1 ?_
  iterate 2 refine ev_go rfl ?_
  refine ev_callr rfl rfl rfl pm_thrown ?_
  refine ev_go rfl ?_
  rw [r4]
  refine ev_if rfl (fun h1234 => ?_) (fun h1234 => ?_)
  · refine ev_go rfl ?_
    refine ev_if rfl (fun h1241 => ?_) (fun h1241 => ?_)
    · iterate 6 refine ev_go rfl ?_
      show mj_Ev _ _ _ _ _ _ _ [mv_i (lg_cmp M2.2 v.toInt64)] _ _ _
      rw [r3.1, w5 h1241, lg_same]
      iterate 2 refine ev_go rfl ?_
      refine ev_lo ?_ hR
      funext z
      by_cases z0 : z = 0
      · subst z0
        first
          | rfl
          | simp [mj_up]
      by_cases z1 : z = 1
      · subst z1
        first
          | rfl
          | simp [mj_up]
      by_cases z2 : z = 2
      · subst z2
        first
          | rfl
          | simp [mj_up]
      by_cases z3 : z = 3
      · subst z3
        first
          | rfl
          | simp [mj_up]
      by_cases z4 : z = 4
      · subst z4
        first
          | rfl
          | simp [mj_up]
      by_cases z5 : z = 5
      · subst z5
        first
          | rfl
          | simp [mj_up]
      by_cases z6 : z = 6
      · subst z6
        first
          | rfl
          | simp [mj_up]
      first
        | (simp [mj_up, z0, z1, z2, z3, z4, z5, z6]; done)
        | (simp [mj_up, z0, z1, z2, z3, z4, z5, z6]; intro q; first | exact absurd q z0 | exact absurd q z1 | exact absurd q z2 | exact absurd q z3 | exact absurd q z4 | exact absurd q z5 | exact absurd q z6)
    · refine ev_go rfl ?_
      refine ev_lo ?_ hR
      funext z
      by_cases z0 : z = 0
      · subst z0
        first
          | rfl
          | simp [mj_up]
      by_cases z1 : z = 1
      · subst z1
        first
          | rfl
          | simp [mj_up]
      by_cases z2 : z = 2
      · subst z2
        first
          | rfl
          | simp [mj_up]
      by_cases z3 : z = 3
      · subst z3
        first
          | rfl
          | simp [mj_up]
      by_cases z4 : z = 4
      · subst z4
        first
          | rfl
          | simp [mj_up]
      by_cases z5 : z = 5
      · subst z5
        first
          | rfl
          | simp [mj_up]
      by_cases z6 : z = 6
      · subst z6
        first
          | rfl
          | simp [mj_up]
      first
        | (simp [mj_up, z0, z1, z2, z3, z4, z5, z6]; done)
        | (simp [mj_up, z0, z1, z2, z3, z4, z5, z6]; intro q; first | exact absurd q z0 | exact absurd q z1 | exact absurd q z2 | exact absurd q z3 | exact absurd q z4 | exact absurd q z5 | exact absurd q z6)
  · exact absurd rfl h1234
theorem lc_of (h : jq_ A M) (hi : i + 6 ≤ X.1) (hX : X.1 ≤ 3072) : ca_ X d 1259 i lo M k := by
  obtain ⟨c, v, A', hv', hrs, hcs⟩ := ag_of (X := X) (d := d) h.1 (X.2 (nI i + nI 1).toNatClampNeg) (X.2 (nI i + nI 2).toNatClampNeg) (X.2 (nI i + nI 3).toNatClampNeg)
  obtain ⟨hv, hm, hc⟩ := h
  obtain ⟨M1, k1, w1, w2, w3, w4, w5⟩ := hcs M hc
  obtain ⟨M2, r1, r2, r3, r4⟩ := hrs M1 (hm.fc w4)
  refine ⟨A', M2, k + k1 + 0 + 0, mj_up (mj_up lo 5 (mv_i c)) 6 (mv_i v), ⟨hv', r2, w3.fm r3⟩, by omega, fun R hR => ?_⟩
  iterate 5 refine ev_go rfl ?_
  refine ev_ok ⟨rfl, ix_ (j := 1) (by decide) hi hX⟩ rfl ?_
  iterate 4 refine ev_go rfl ?_
  refine ev_ok ⟨rfl, ix_ (j := 2) (by decide) hi hX⟩ rfl ?_
  iterate 4 refine ev_go rfl ?_
  refine ev_ok ⟨rfl, ix_ (j := 3) (by decide) hi hX⟩ rfl ?_
  refine ev_go rfl ?_
  refine ev_callr rfl rfl rfl w1 ?_
  iterate 6 refine ev_go rfl ?_
  refine ev_ok ⟨rfl, ix_ (j := 1) (by decide) hi hX⟩ rfl ?_
  iterate 4 refine ev_go rfl ?_
  refine ev_ok ⟨rfl, ix_ (j := 2) (by decide) hi hX⟩ rfl ?_
  iterate 4 refine ev_go rfl ?_
  refine ev_ok ⟨rfl, ix_ (j := 3) (by decide) hi hX⟩ rfl ?_
  refine ev_callr rfl rfl rfl r1 ?_
  iterate 2 refine ev_go rfl ?_
  refine ev_callr rfl rfl rfl pm_thrown ?_
  refine ev_go rfl ?_
  rw [r4]
  refine ev_if rfl (fun h1314 => ?_) (fun h1314 => ?_)
  · refine ev_go rfl ?_
    refine ev_if rfl (fun h1321 => ?_) (fun h1321 => ?_)
    · iterate 6 refine ev_go rfl ?_
      show mj_Ev _ _ _ _ _ _ _ [mv_i (lg_cmp M2.2 v.toInt64)] _ _ _
      rw [r3.1, w5 h1321, lg_same]
      iterate 2 refine ev_go rfl ?_
      refine ev_lo ?_ hR
      funext z
      by_cases z0 : z = 0
      · subst z0
        first
          | rfl
          | simp [mj_up]
      by_cases z1 : z = 1
      · subst z1
        first
          | rfl
          | simp [mj_up]
      by_cases z2 : z = 2
      · subst z2
        first
          | rfl
          | simp [mj_up]
      by_cases z3 : z = 3
      · subst z3
        first
          | rfl
          | simp [mj_up]
      by_cases z4 : z = 4
      · subst z4
        first
          | rfl
          | simp [mj_up]
      by_cases z5 : z = 5
      · subst z5
        first
          | rfl
          | simp [mj_up]
      by_cases z6 : z = 6
      · subst z6
        first
          | rfl
          | simp [mj_up]
      first
        | (simp [mj_up, z0, z1, z2, z3, z4, z5, z6]; done)
        | (simp [mj_up, z0, z1, z2, z3, z4, z5, z6]; intro q; first | exact absurd q z0 | exact absurd q z1 | exact absurd q z2 | exact absurd q z3 | exact absurd q z4 | exact absurd q z5 | exact absurd q z6)
    · refine ev_go rfl ?_
      refine ev_lo ?_ hR
      funext z
      by_cases z0 : z = 0
      · subst z0
        first
          | rfl
          | simp [mj_up]
      by_cases z1 : z = 1
      · subst z1
        first
          | rfl
          | simp [mj_up]
      by_cases z2 : z = 2
      · subst z2
        first
          | rfl
          | simp [mj_up]
      by_cases z3 : z = 3
      · subst z3
        first
          | rfl
          | simp [mj_up]
      by_cases z4 : z = 4
      · subst z4
        first
          | rfl
          | simp [mj_up]
      by_cases z5 : z = 5
      · subst z5
        first
          | rfl
          | simp [mj_up]
      by_cases z6 : z = 6
      · subst z6
        first
          | rfl
          | simp [mj_up]
      first
        | (simp [mj_up, z0, z1, z2, z3, z4, z5, z6]; done)
        | (simp [mj_up, z0, z1, z2, z3, z4, z5, z6]; intro q; first | exact absurd q z0 | exact absurd q z1 | exact absurd q z2 | exact absurd q z3 | exact absurd q z4 | exact absurd q z5 | exact absurd q z6)
  · exact absurd rfl h1314
theorem lc_closed (h : jq_ A M) (hi : i + 6 ≤ X.1) (hX : X.1 ≤ 3072) : ca_ X d 424 i lo M k := by
  by_cases hb : X.2 (nI i + nI 2).toNatClampNeg = 0
  · obtain ⟨c, v, A', hv', hrs, hcs⟩ := ag_closed (X := X) (d := d) h.1 (X.2 (nI i + nI 1).toNatClampNeg) 0 (by decide)
    obtain ⟨hv, hm, hc⟩ := h
    obtain ⟨M1, k1, w1, w2, w3, w4, w5⟩ := hcs M hc
    obtain ⟨M2, r1, r2, r3, r4⟩ := hrs M1 (hm.fc w4)
    refine ⟨A', M2, k + k1 + 0 + 0, mj_up (mj_up lo 5 (mv_i c)) 6 (mv_i v), ⟨hv', r2, w3.fm r3⟩, by omega, fun R hR => ?_⟩
    iterate 5 refine ev_go rfl ?_
    refine ev_ok ⟨rfl, ix_ (j := 1) (by decide) hi hX⟩ rfl ?_
    iterate 4 refine ev_go rfl ?_
    refine ev_ok ⟨rfl, ix_ (j := 2) (by decide) hi hX⟩ rfl ?_
    refine ev_if rfl (fun h437 => ?_) (fun h437 => ?_)
    · iterate 2 refine ev_go rfl ?_
      refine ev_callr rfl rfl rfl w1 ?_
      iterate 6 refine ev_go rfl ?_
      refine ev_ok ⟨rfl, ix_ (j := 1) (by decide) hi hX⟩ rfl ?_
      iterate 4 refine ev_go rfl ?_
      refine ev_ok ⟨rfl, ix_ (j := 2) (by decide) hi hX⟩ rfl ?_
      refine ev_if rfl (fun h464 => ?_) (fun h464 => ?_)
      · refine ev_go rfl ?_
        refine ev_callr rfl rfl rfl r1 ?_
        iterate 2 refine ev_go rfl ?_
        refine ev_callr rfl rfl rfl pm_thrown ?_
        refine ev_go rfl ?_
        rw [r4]
        refine ev_if rfl (fun h483 => ?_) (fun h483 => ?_)
        · refine ev_go rfl ?_
          refine ev_if rfl (fun h490 => ?_) (fun h490 => ?_)
          · iterate 6 refine ev_go rfl ?_
            show mj_Ev _ _ _ _ _ _ _ [mv_i (lg_cmp M2.2 v.toInt64)] _ _ _
            rw [r3.1, w5 h490, lg_same]
            iterate 2 refine ev_go rfl ?_
            refine ev_lo ?_ hR
            funext z
            by_cases z0 : z = 0
            · subst z0
              first
                | rfl
                | simp [mj_up]
            by_cases z1 : z = 1
            · subst z1
              first
                | rfl
                | simp [mj_up]
            by_cases z2 : z = 2
            · subst z2
              first
                | rfl
                | simp [mj_up]
            by_cases z3 : z = 3
            · subst z3
              first
                | rfl
                | simp [mj_up]
            by_cases z4 : z = 4
            · subst z4
              first
                | rfl
                | simp [mj_up]
            by_cases z5 : z = 5
            · subst z5
              first
                | rfl
                | simp [mj_up]
            by_cases z6 : z = 6
            · subst z6
              first
                | rfl
                | simp [mj_up]
            first
              | (simp [mj_up, z0, z1, z2, z3, z4, z5, z6]; done)
              | (simp [mj_up, z0, z1, z2, z3, z4, z5, z6]; intro q; first | exact absurd q z0 | exact absurd q z1 | exact absurd q z2 | exact absurd q z3 | exact absurd q z4 | exact absurd q z5 | exact absurd q z6)
          · refine ev_go rfl ?_
            refine ev_lo ?_ hR
            funext z
            by_cases z0 : z = 0
            · subst z0
              first
                | rfl
                | simp [mj_up]
            by_cases z1 : z = 1
            · subst z1
              first
                | rfl
                | simp [mj_up]
            by_cases z2 : z = 2
            · subst z2
              first
                | rfl
                | simp [mj_up]
            by_cases z3 : z = 3
            · subst z3
              first
                | rfl
                | simp [mj_up]
            by_cases z4 : z = 4
            · subst z4
              first
                | rfl
                | simp [mj_up]
            by_cases z5 : z = 5
            · subst z5
              first
                | rfl
                | simp [mj_up]
            by_cases z6 : z = 6
            · subst z6
              first
                | rfl
                | simp [mj_up]
            first
              | (simp [mj_up, z0, z1, z2, z3, z4, z5, z6]; done)
              | (simp [mj_up, z0, z1, z2, z3, z4, z5, z6]; intro q; first | exact absurd q z0 | exact absurd q z1 | exact absurd q z2 | exact absurd q z3 | exact absurd q z4 | exact absurd q z5 | exact absurd q z6)
        · exact absurd rfl h483
      · exact absurd hb h464
    · exact absurd hb h437
  · obtain ⟨c, v, A', hv', hrs, hcs⟩ := ag_closed (X := X) (d := d) h.1 (X.2 (nI i + nI 1).toNatClampNeg) 1 (by decide)
    obtain ⟨hv, hm, hc⟩ := h
    obtain ⟨M1, k1, w1, w2, w3, w4, w5⟩ := hcs M hc
    obtain ⟨M2, r1, r2, r3, r4⟩ := hrs M1 (hm.fc w4)
    refine ⟨A', M2, k + k1 + 0 + 0, mj_up (mj_up lo 5 (mv_i c)) 6 (mv_i v), ⟨hv', r2, w3.fm r3⟩, by omega, fun R hR => ?_⟩
    iterate 5 refine ev_go rfl ?_
    refine ev_ok ⟨rfl, ix_ (j := 1) (by decide) hi hX⟩ rfl ?_
    iterate 4 refine ev_go rfl ?_
    refine ev_ok ⟨rfl, ix_ (j := 2) (by decide) hi hX⟩ rfl ?_
    refine ev_if rfl (fun h437 => ?_) (fun h437 => ?_)
    · exact absurd h437 hb
    · iterate 3 refine ev_go rfl ?_
      refine ev_callr rfl rfl rfl w1 ?_
      iterate 6 refine ev_go rfl ?_
      refine ev_ok ⟨rfl, ix_ (j := 1) (by decide) hi hX⟩ rfl ?_
      iterate 4 refine ev_go rfl ?_
      refine ev_ok ⟨rfl, ix_ (j := 2) (by decide) hi hX⟩ rfl ?_
      refine ev_if rfl (fun h464 => ?_) (fun h464 => ?_)
      · exact absurd h464 hb
      · iterate 2 refine ev_go rfl ?_
        refine ev_callr rfl rfl rfl r1 ?_
        iterate 2 refine ev_go rfl ?_
        refine ev_callr rfl rfl rfl pm_thrown ?_
        refine ev_go rfl ?_
        rw [r4]
        refine ev_if rfl (fun h483 => ?_) (fun h483 => ?_)
        · refine ev_go rfl ?_
          refine ev_if rfl (fun h490 => ?_) (fun h490 => ?_)
          · iterate 6 refine ev_go rfl ?_
            show mj_Ev _ _ _ _ _ _ _ [mv_i (lg_cmp M2.2 v.toInt64)] _ _ _
            rw [r3.1, w5 h490, lg_same]
            iterate 2 refine ev_go rfl ?_
            refine ev_lo ?_ hR
            funext z
            by_cases z0 : z = 0
            · subst z0
              first
                | rfl
                | simp [mj_up]
            by_cases z1 : z = 1
            · subst z1
              first
                | rfl
                | simp [mj_up]
            by_cases z2 : z = 2
            · subst z2
              first
                | rfl
                | simp [mj_up]
            by_cases z3 : z = 3
            · subst z3
              first
                | rfl
                | simp [mj_up]
            by_cases z4 : z = 4
            · subst z4
              first
                | rfl
                | simp [mj_up]
            by_cases z5 : z = 5
            · subst z5
              first
                | rfl
                | simp [mj_up]
            by_cases z6 : z = 6
            · subst z6
              first
                | rfl
                | simp [mj_up]
            first
              | (simp [mj_up, z0, z1, z2, z3, z4, z5, z6]; done)
              | (simp [mj_up, z0, z1, z2, z3, z4, z5, z6]; intro q; first | exact absurd q z0 | exact absurd q z1 | exact absurd q z2 | exact absurd q z3 | exact absurd q z4 | exact absurd q z5 | exact absurd q z6)
          · refine ev_go rfl ?_
            refine ev_lo ?_ hR
            funext z
            by_cases z0 : z = 0
            · subst z0
              first
                | rfl
                | simp [mj_up]
            by_cases z1 : z = 1
            · subst z1
              first
                | rfl
                | simp [mj_up]
            by_cases z2 : z = 2
            · subst z2
              first
                | rfl
                | simp [mj_up]
            by_cases z3 : z = 3
            · subst z3
              first
                | rfl
                | simp [mj_up]
            by_cases z4 : z = 4
            · subst z4
              first
                | rfl
                | simp [mj_up]
            by_cases z5 : z = 5
            · subst z5
              first
                | rfl
                | simp [mj_up]
            by_cases z6 : z = 6
            · subst z6
              first
                | rfl
                | simp [mj_up]
            first
              | (simp [mj_up, z0, z1, z2, z3, z4, z5, z6]; done)
              | (simp [mj_up, z0, z1, z2, z3, z4, z5, z6]; intro q; first | exact absurd q z0 | exact absurd q z1 | exact absurd q z2 | exact absurd q z3 | exact absurd q z4 | exact absurd q z5 | exact absurd q z6)
        · exact absurd rfl h483
theorem lc_exact (h : jq_ A M) (hi : i + 6 ≤ X.1) (hX : X.1 ≤ 3072) : ca_ X d 860 i lo M k := by
  obtain ⟨v, hrs, hcs⟩ := ah_exact (X := X) (d := d) h.1
  obtain ⟨hv, hm, hc⟩ := h
  obtain ⟨M1, w1, w3, w4⟩ := hcs M hc
  obtain ⟨M2, r1, r2, r3, r4⟩ := hrs M1 (hm.fc w4)
  refine ⟨A, M2, k + 0 + 0, lo, ⟨hv, r2, w3.fm r3⟩, by omega, fun R hR => ?_⟩
  refine ev_go rfl ?_
  refine ev_callr rfl rfl rfl w1 ?_
  refine ev_go rfl ?_
  refine ev_callr rfl rfl rfl r1 ?_
  refine ev_if rfl (fun h868 => ?_) (fun h868 => ?_)
  · exact hR
  · exact absurd rfl h868
theorem lc_steps (h : jq_ A M) (hi : i + 6 ≤ X.1) (hX : X.1 ≤ 3072) : ca_ X d 873 i lo M k := by
  obtain ⟨v, hrs, hcs⟩ := ah_steps (X := X) (d := d) (A := A)
  obtain ⟨hv, hm, hc⟩ := h
  obtain ⟨M1, w1, w3, w4⟩ := hcs M hc
  obtain ⟨M2, r1, r2, r3, r4⟩ := hrs M1 (hm.fc w4)
  refine ⟨A, M2, k + 0 + 0, lo, ⟨hv, r2, w3.fm r3⟩, by omega, fun R hR => ?_⟩
  refine ev_go rfl ?_
  refine ev_callr rfl rfl rfl w1 ?_
  refine ev_go rfl ?_
  refine ev_callr rfl rfl rfl r1 ?_
  refine ev_if rfl (fun h881 => ?_) (fun h881 => ?_)
  · exact hR
  · exact absurd rfl h881
theorem lc_ties (h : jq_ A M) (hi : i + 6 ≤ X.1) (hX : X.1 ≤ 3072) : ca_ X d 886 i lo M k := by
  obtain ⟨v, hrs, hcs⟩ := ah_ties (X := X) (d := d) (A := A)
  obtain ⟨hv, hm, hc⟩ := h
  obtain ⟨M1, w1, w3, w4⟩ := hcs M hc
  obtain ⟨M2, r1, r2, r3, r4⟩ := hrs M1 (hm.fc w4)
  refine ⟨A, M2, k + 0 + 0, lo, ⟨hv, r2, w3.fm r3⟩, by omega, fun R hR => ?_⟩
  refine ev_go rfl ?_
  refine ev_callr rfl rfl rfl w1 ?_
  refine ev_go rfl ?_
  refine ev_callr rfl rfl rfl r1 ?_
  refine ev_if rfl (fun h894 => ?_) (fun h894 => ?_)
  · exact hR
  · exact absurd rfl h894
theorem lc_count (h : jq_ A M) (hi : i + 6 ≤ X.1) (hX : X.1 ≤ 3072) : ca_ X d 1339 i lo M k := by
  obtain ⟨v, hrs, hcs⟩ := ah_count (X := X) (d := d) h.1 (X.2 (nI i + nI 1).toNatClampNeg)
  obtain ⟨hv, hm, hc⟩ := h
  obtain ⟨M1, w1, w3, w4⟩ := hcs M hc
  obtain ⟨M2, r1, r2, r3, r4⟩ := hrs M1 (hm.fc w4)
  refine ⟨A, M2, k + 0 + 0, lo, ⟨hv, r2, w3.fm r3⟩, by omega, fun R hR => ?_⟩
  iterate 5 refine ev_go rfl ?_
  refine ev_ok ⟨rfl, ix_ (j := 1) (by decide) hi hX⟩ rfl ?_
  refine ev_callr rfl rfl rfl w1 ?_
  iterate 5 refine ev_go rfl ?_
  refine ev_ok ⟨rfl, ix_ (j := 1) (by decide) hi hX⟩ rfl ?_
  refine ev_callr rfl rfl rfl r1 ?_
  refine ev_if rfl (fun h1359 => ?_) (fun h1359 => ?_)
  · exact hR
  · exact absurd rfl h1359
end
