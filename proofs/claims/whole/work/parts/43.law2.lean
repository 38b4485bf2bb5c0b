/-! the law's loop: all of it -/
section
variable {X : Nat × (Nat → Int32)} {d : Nat} {M A : mj_M} {i k : Nat} {lo : mj_L}
theorem lw_sw (y : Int32) (h : jq_ A M) (hi : i + 6 ≤ X.1) (hX : X.1 ≤ 3072) : ∃ A' M' k' lo', jq_ A' M' ∧ k' ≤ k + 1 ∧ ∀ R, mj_Ev mj_S0 X mj_P (d + 14) mt_W_law 1364 (mj_up (mj_up (mj_up (mj_up (mj_up lo' 0 (mv_p 29)) 1 (mv_p 0)) 2 (mv_p 12)) 3 (mv_p 28)) 4 (mv_i (nI i))) [] M' k' R → mj_Ev mj_S0 X mj_P (d + 14) mt_W_law 40 (mj_up (mj_up (mj_up (mj_up (mj_up lo 0 (mv_p 29)) 1 (mv_p 0)) 2 (mv_p 12)) 3 (mv_p 28)) 4 (mv_i (nI i))) [mv_i y] M k R := by
  by_cases g0 : 0 ≤ y ∧ y ≤ 19
  · obtain ⟨j9, g1, g2⟩ := nI_of2 (n := 19) rfl (by grind) g0.2
    subst g2
    have g3 : j9 = 0 ∨ j9 = 1 ∨ j9 = 2 ∨ j9 = 3 ∨ j9 = 4 ∨ j9 = 5 ∨ j9 = 6 ∨ j9 = 7 ∨ j9 = 8 ∨ j9 = 9 ∨ j9 = 10 ∨ j9 = 11 ∨ j9 = 12 ∨ j9 = 13 ∨ j9 = 14 ∨ j9 = 15 ∨ j9 = 16 ∨ j9 = 17 ∨ j9 = 18 ∨ j9 = 19 := by omega
    rcases g3 with g3 | g3 | g3 | g3 | g3 | g3 | g3 | g3 | g3 | g3 | g3 | g3 | g3 | g3 | g3 | g3 | g3 | g3 | g3 | g3 <;> subst g3
    · obtain ⟨A', M', k', lo', c1, c2, c3⟩ := lc_put (X := X) (d := d) (lo := lo) (k := k) h hi hX
      exact ⟨A', M', k', lo', c1, c2, fun R hR => ev_go rfl (c3 R hR)⟩
    · obtain ⟨A', M', k', lo', c1, c2, c3⟩ := lc_take (X := X) (d := d) (lo := lo) (k := k) h hi hX
      exact ⟨A', M', k', lo', c1, c2, fun R hR => ev_go rfl (c3 R hR)⟩
    · obtain ⟨A', M', k', lo', c1, c2, c3⟩ := lc_move (X := X) (d := d) (lo := lo) (k := k) h hi hX
      exact ⟨A', M', k', lo', c1, c2, fun R hR => ev_go rfl (c3 R hR)⟩
    · obtain ⟨A', M', k', lo', c1, c2, c3⟩ := lc_closed (X := X) (d := d) (lo := lo) (k := k) h hi hX
      exact ⟨A', M', k', lo', c1, c2, fun R hR => ev_go rfl (c3 R hR)⟩
    · obtain ⟨A', M', k', lo', c1, c2, c3⟩ := lc_window (X := X) (d := d) (lo := lo) (k := k) h hi hX
      exact ⟨A', M', k', lo', c1, c2, fun R hR => ev_go rfl (c3 R hR)⟩
    · obtain ⟨A', M', k', lo', c1, c2, c3⟩ := lc_counted (X := X) (d := d) (lo := lo) (k := k) h hi hX
      exact ⟨A', M', k', lo', c1, c2, fun R hR => ev_go rfl (c3 R hR)⟩
    · obtain ⟨A', M', k', lo', c1, c2, c3⟩ := lc_expected (X := X) (d := d) (lo := lo) (k := k) h hi hX
      exact ⟨A', M', k', lo', c1, c2, fun R hR => ev_go rfl (c3 R hR)⟩
    · obtain ⟨A', M', k', lo', c1, c2, c3⟩ := lc_differ (X := X) (d := d) (lo := lo) (k := k) h hi hX
      exact ⟨A', M', k', lo', c1, c2, fun R hR => ev_go rfl (c3 R hR)⟩
    · obtain ⟨A', M', k', lo', c1, c2, c3⟩ := lc_search (X := X) (d := d) (lo := lo) (k := k) h hi hX
      exact ⟨A', M', k', lo', c1, c2, fun R hR => ev_go rfl (c3 R hR)⟩
    · obtain ⟨A', M', k', lo', c1, c2, c3⟩ := lc_exact (X := X) (d := d) (lo := lo) (k := k) h hi hX
      exact ⟨A', M', k', lo', c1, c2, fun R hR => ev_go rfl (c3 R hR)⟩
    · obtain ⟨A', M', k', lo', c1, c2, c3⟩ := lc_steps (X := X) (d := d) (lo := lo) (k := k) h hi hX
      exact ⟨A', M', k', lo', c1, c2, fun R hR => ev_go rfl (c3 R hR)⟩
    · obtain ⟨A', M', k', lo', c1, c2, c3⟩ := lc_ties (X := X) (d := d) (lo := lo) (k := k) h hi hX
      exact ⟨A', M', k', lo', c1, c2, fun R hR => ev_go rfl (c3 R hR)⟩
    · obtain ⟨A', M', k', lo', c1, c2, c3⟩ := lc_often (X := X) (d := d) (lo := lo) (k := k) h hi hX
      exact ⟨A', M', k', lo', c1, c2, fun R hR => ev_go rfl (c3 R hR)⟩
    · obtain ⟨A', M', k', lo', c1, c2, c3⟩ := lc_found (X := X) (d := d) (lo := lo) (k := k) h hi hX
      exact ⟨A', M', k', lo', c1, c2, fun R hR => ev_go rfl (c3 R hR)⟩
    · obtain ⟨A', M', k', lo', c1, c2, c3⟩ := lc_accept (X := X) (d := d) (lo := lo) (k := k) h hi hX
      exact ⟨A', M', k', lo', c1, c2, fun R hR => ev_go rfl (c3 R hR)⟩
    · obtain ⟨A', M', k', lo', c1, c2, c3⟩ := lc_back (X := X) (d := d) (lo := lo) (k := k) h hi hX
      exact ⟨A', M', k', lo', c1, c2, fun R hR => ev_go rfl (c3 R hR)⟩
    · obtain ⟨A', M', k', lo', c1, c2, c3⟩ := lc_share (X := X) (d := d) (lo := lo) (k := k) h hi hX
      exact ⟨A', M', k', lo', c1, c2, fun R hR => ev_go rfl (c3 R hR)⟩
    · obtain ⟨A', M', k', lo', c1, c2, c3⟩ := lc_told (X := X) (d := d) (lo := lo) (k := k) h hi hX
      exact ⟨A', M', k', lo', c1, c2, fun R hR => ev_go rfl (c3 R hR)⟩
    · obtain ⟨A', M', k', lo', c1, c2, c3⟩ := lc_of (X := X) (d := d) (lo := lo) (k := k) h hi hX
      exact ⟨A', M', k', lo', c1, c2, fun R hR => ev_go rfl (c3 R hR)⟩
    · obtain ⟨A', M', k', lo', c1, c2, c3⟩ := lc_count (X := X) (d := d) (lo := lo) (k := k) h hi hX
      exact ⟨A', M', k', lo', c1, c2, fun R hR => ev_go rfl (c3 R hR)⟩
  · have g4 : y.toInt < 0 ∨ 19 < y.toInt := by
      have g5 : y < 0 ∨ 19 < y := by grind
      rcases g5 with g5 | g5
      · exact Or.inl (Int32.lt_iff_toInt_lt.mp g5)
      · exact Or.inr (Int32.lt_iff_toInt_lt.mp g5)
    exact ⟨A, M, k, lo, h, by omega, fun R hR => ev_pos g4 rfl hR⟩
theorem lw_cmp {N i : Nat} (hN : N < 2 ^ 30) (hi : i < 2 ^ 30) : Int32.ofNat N - 6 < nI i ↔ N < i + 6 := by
  rw [Int32.lt_iff_toInt_lt, show Int32.ofNat N - 6 = nI N - nI 6 from rfl, pk_sub_toInt hN (by decide), nI_toInt (by omega)]
  omega
theorem lw_loop (hX : X.1 ≤ 3072) : ∀ n i lo M A k, i + 6 * n = 3072 → jq_ A M → ∃ M' k', mj_Ev mj_S0 X mj_P (d + 14) mt_W_law 23 (mj_up (mj_up (mj_up (mj_up (mj_up lo 0 (mv_p 29)) 1 (mv_p 0)) 2 (mv_p 12)) 3 (mv_p 28)) 4 (mv_i (nI i))) [] M k (.inr (some (.inl 1)), M', k') ∧ k' ≤ k + n := by
  intro n
  induction n with
  | zero =>
    intro i lo M A k hn h
    refine ⟨M, k, ?_, Nat.le_refl _⟩
    iterate 5 refine ev_go rfl ?_
    refine ev_if rfl (fun h30 => ?_) (fun h30 => ?_)
    · refine ev_go rfl ?_
      refine ev_end rfl ?_
      rfl
    · exact absurd ((lw_cmp (by omega) (by omega)).2 (by omega)) h30
  | succ n ih =>
    intro i lo M A k hn h
    by_cases hi : i + 6 ≤ X.1
    · obtain ⟨A', M', k', lo', c1, c2, c3⟩ := lw_sw (X := X) (d := d) (lo := lo) (k := k) (i := i) (X.2 (nI i).toNatClampNeg &&& 31) h hi hX
      obtain ⟨M9, k9, e1, e2⟩ := ih (i + 6) lo' M' A' k' (by omega) c1
      refine ⟨M9, k9, ?_, by omega⟩
      have key := c3 (.inr (some (.inl 1)), M9, k9) (by
        refine ev_go rfl ?_
        refine ev_go rfl ?_
        refine ev_lo ?_ e1
        rw [show nI (i + 6) = nI i + 6 from (nI_add i 6).symm]
        exact mj_upo)
      iterate 5 refine ev_go rfl ?_
      refine ev_if rfl (fun h30 => ?_) (fun h30 => ?_)
      · exact absurd ((lw_cmp (by omega) (by omega)).1 h30) (by omega)
      · iterate 2 refine ev_go rfl ?_
        refine ev_ok ⟨rfl, nI_in (show i < X.1 by omega) (by omega)⟩ rfl ?_
        iterate 2 refine ev_go rfl ?_
        exact key
    · refine ⟨M, k, ?_, by omega⟩
      iterate 5 refine ev_go rfl ?_
      refine ev_if rfl (fun h30 => ?_) (fun h30 => ?_)
      · refine ev_go rfl ?_
        refine ev_end rfl ?_
        rfl
      · exact absurd ((lw_cmp (by omega) (by omega)).2 (by omega)) h30
/-- the law, from where its objects are made, comes to true -/
theorem lw_all (hX : X.1 ≤ 3072) (h : jq_ A M) : ∃ M' k', mj_Ev mj_S0 X mj_P (d + 14) mt_W_law 20 (mj_up (mj_up (mj_up (mj_up lo 0 (mv_p 29)) 1 (mv_p 0)) 2 (mv_p 12)) 3 (mv_p 28)) [] M 0 (.inr (some (.inl 1)), M', k') ∧ k' ≤ 512 := by
  obtain ⟨M', k', e1, e2⟩ := lw_loop (X := X) (d := d) hX 512 0 lo M A 0 (by omega) h
  refine ⟨M', k', ?_, by omega⟩
  refine ev_go rfl ?_
  refine ev_go rfl ?_
  exact e1
end
