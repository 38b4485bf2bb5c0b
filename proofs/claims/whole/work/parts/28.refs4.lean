/-! the reference goes through the sets of one size: all of it -/
section
variable {X : Nat × (Nat → Int32)} {d : Nat} {M A s : mj_M} {cs x : Nat → Nat} {m n c size : Nat} {lim : Int32}
theorem gt_loop {rec : (Nat → Nat) → mj_M → Bool × mj_M} (hn : n < 4) (hm : m ≤ 24) (hcs : ∀ i, i < m → cs i < 24 ∧ vs_rw A (cs i)) (hk : ∀ x s, rb_ A s → rb_ A (rec x s).2) (hrec : ∀ x' s1 M1, gs_ A cs m x' (n + 1) M1 → rm_ s1 M1 → rb_ A s1 → ∃ M', rm_ (rec x' s1).2 M' ∧ fz_ M1 M' ∧ (((rec x' s1).1 = true ∧ gs_ A cs m x' (n + 1) M' ∧ ∀ R, mj_Ev mj_S0 X mj_P (d + 2) mt_M_goThrough 16 (mj_up (fun j => [mv_p 12, mv_i (nI size), mv_i lim][j]?) 3 (mv_i (nI n))) [] M' 0 R → mj_Ev mj_S0 X mj_P (d + 2) mt_M_goThrough 120 (mj_up (fun j => [mv_p 12, mv_i (nI size), mv_i lim][j]?) 3 (mv_i (nI n))) [] M1 0 R) ∨ ((rec x' s1).1 = false ∧ mj_Ev mj_S0 X mj_P (d + 2) mt_M_goThrough 120 (mj_up (fun j => [mv_p 12, mv_i (nI size), mv_i lim][j]?) 3 (mv_i (nI n))) [] M1 0 (mv_R 0 M')))) : ∀ j c x s M, c + j = 2 * m → gs_ A cs m x n M → M.1 26 n = nI c - 1 → rm_ s M → rb_ A s → ∃ M', rm_ (se_l rec lim (2 * m) n j x s).2 M' ∧ fz_ M M' ∧ (((se_l rec lim (2 * m) n j x s).1 = true ∧ gs_ A cs m x n M' ∧ ∀ R, mj_Ev mj_S0 X mj_P (d + 2) mt_M_goThrough 16 (mj_up (fun j => [mv_p 12, mv_i (nI size), mv_i lim][j]?) 3 (mv_i (nI n + -1))) [] M' 0 R → mj_Ev mj_S0 X mj_P (d + 2) mt_M_goThrough 40 (mj_up (fun j => [mv_p 12, mv_i (nI size), mv_i lim][j]?) 3 (mv_i (nI n))) [] M 0 R) ∨ ((se_l rec lim (2 * m) n j x s).1 = false ∧ mj_Ev mj_S0 X mj_P (d + 2) mt_M_goThrough 40 (mj_up (fun j => [mv_p 12, mv_i (nI size), mv_i lim][j]?) 3 (mv_i (nI n))) [] M 0 (mv_R 0 M'))) := by
  intro j
  induction j with
  | zero =>
    intro c x s M hc h h2 hs hb
    have ec : c = 2 * m := by omega
    subst ec
    obtain ⟨M', a1, a2, a3, a4⟩ := gt_end (X := X) (d := d) (size := size) (lim := lim) hn hm h h2 hs
    exact ⟨M', a2, a3, Or.inl ⟨rfl, a1, a4⟩⟩
  | succ j ih =>
    intro c x s M hc h h2 hs hb
    by_cases hl : s.1 12 14 = lim
    · obtain ⟨M', a2, a3, a4⟩ := gt_lim (X := X) (d := d) (size := size) hn hm (show c < 2 * m by omega) h h2 hs hl
      have e : se_l rec lim (2 * m) n (j + 1) x s = (false, s) := if_pos hl
      rw [e]
      exact ⟨M', a2, a3, Or.inr ⟨rfl, a4⟩⟩
    · obtain ⟨M1, b1, b2, b3, b4⟩ := gt_step (X := X) (d := d) (size := size) hn hm hcs (show c < 2 * m by omega) h h2 hs hb hl
      have hb1 : rb_ A (mj_st s 12 14 (s.1 12 14 + 1)) := hb.st (by omega)
      obtain ⟨M2, c1, c2, c3⟩ := hrec (upN x n c) _ M1 b1 b2 hb1
      have hb2 := hk (upN x n c) _ hb1
      have e : se_l rec lim (2 * m) n (j + 1) x s = (match rec (upN x n c) (mj_st s 12 14 (s.1 12 14 + 1)) with
          | (true, s') => se_l rec lim (2 * m) n j x s'
          | (false, s') => (false, s')) := by
        have e0 : 2 * m - (j + 1) = c := by omega
        rw [← e0]
        exact if_neg hl
      rw [e]
      cases hq : rec (upN x n c) (mj_st s 12 14 (s.1 12 14 + 1)) with
      | mk b s' =>
        rw [hq] at c1 c3 hb2
        cases b with
        | false =>
          rcases c3 with ⟨c4, -⟩ | ⟨-, c5⟩
          · exact Bool.noConfusion c4
          · exact ⟨M2, c1, b3.trans c2, Or.inr ⟨rfl, b4 _ c5⟩⟩
        | true =>
          rcases c3 with ⟨-, c5, c6⟩ | ⟨c4, -⟩
          · obtain ⟨M3, d1, d2, d3, d4⟩ := gt_undo (X := X) (d := d) (size := size) (lim := lim) hn hm hcs c5 (hb2.trans c1.rb)
            obtain ⟨M4, e1, e2, e3⟩ := ih (c + 1) x s' M3 (by omega) d1 (by rw [d2, nI_pred]) (d3.rm c1) hb2
            refine ⟨M4, e1, ((b3.trans c2).trans d3.fz).trans e2, ?_⟩
            rcases e3 with ⟨e4, e5, e6⟩ | ⟨e4, e5⟩
            · exact Or.inl ⟨e4, e5, fun R hR => b4 R (c6 R (d4 R (e6 R hR)))⟩
            · exact Or.inr ⟨e4, b4 _ (c6 _ (d4 _ e5))⟩
          · exact Bool.noConfusion c4
theorem gt_rec (hz : size ≤ 4) (hm : m ≤ 24) (hcs : ∀ i, i < m → cs i < 24 ∧ vs_rw A (cs i)) : ∀ r n x' s1 M1, n + r + 1 = size → gs_ A cs m x' (n + 1) M1 → rm_ s1 M1 → rb_ A s1 → ∃ M', rm_ (se_ A cs lim (2 * m) r (n + 1) ((x' n / 2 + 1) * 2) x' s1).2 M' ∧ fz_ M1 M' ∧ (((se_ A cs lim (2 * m) r (n + 1) ((x' n / 2 + 1) * 2) x' s1).1 = true ∧ gs_ A cs m x' (n + 1) M' ∧ ∀ R, mj_Ev mj_S0 X mj_P (d + 2) mt_M_goThrough 16 (mj_up (fun j => [mv_p 12, mv_i (nI size), mv_i lim][j]?) 3 (mv_i (nI n))) [] M' 0 R → mj_Ev mj_S0 X mj_P (d + 2) mt_M_goThrough 120 (mj_up (fun j => [mv_p 12, mv_i (nI size), mv_i lim][j]?) 3 (mv_i (nI n))) [] M1 0 R) ∨ ((se_ A cs lim (2 * m) r (n + 1) ((x' n / 2 + 1) * 2) x' s1).1 = false ∧ mj_Ev mj_S0 X mj_P (d + 2) mt_M_goThrough 120 (mj_up (fun j => [mv_p 12, mv_i (nI size), mv_i lim][j]?) 3 (mv_i (nI n))) [] M1 0 (mv_R 0 M'))) := by
  intro r
  induction r with
  | zero =>
    intro n x' s1 M1 hn h hs hb
    obtain ⟨M', a1, a2, a3, a4⟩ := gt_leaf (X := X) (d := d) (lim := lim) (show n + 1 = size by omega) hz hm hcs h hs
    exact ⟨M', a2, a3, Or.inl ⟨rfl, a1, a4⟩⟩
  | succ r ih =>
    intro n x' s1 M1 hn h hs hb
    have ex : upN x' n (x' n) = x' := by
      funext i
      by_cases hi : i = n
      · rw [hi, upN_s]
      · exact upN_n hi
    have lx : x' n < 2 * m := (h.2.2.2 n (by omega)).1.2
    obtain ⟨M2, b1, b2, b3, b4, b5⟩ := gt_down (X := X) (d := d) (lim := lim) (c := x' n) (x := x') (show n + 1 < size by omega) hz hm (by rw [ex]; exact h) hs
    rw [ex] at b1
    obtain ⟨M3, c1, c2, c3⟩ := gt_loop (X := X) (d := d) (size := size) (lim := lim) (rec := fun y t => se_ A cs lim (2 * m) r (n + 1 + 1) ((y (n + 1) / 2 + 1) * 2) y t) (n := n + 1) (by omega) hm hcs (fun y t ht => se_rb ht) (fun y t N hN1 hN2 hN3 => ih (n + 1) y t N (by omega) hN1 hN2 hN3) (2 * m - (x' n / 2 + 1) * 2) ((x' n / 2 + 1) * 2) x' s1 M2 (by omega) b1 b2 b3 hb
    refine ⟨M3, c1, b4.trans c2, ?_⟩
    rw [pk_m1] at c3
    rcases c3 with ⟨c4, c5, c6⟩ | ⟨c4, c5⟩
    · exact Or.inl ⟨c4, c5, fun R hR => b5 R (c6 R hR)⟩
    · exact Or.inr ⟨c4, b5 _ c5⟩
theorem pm_goThrough (h0 : 0 < size) (hz : size ≤ 4) (hm : m ≤ 24) (hcs : ∀ i, i < m → cs i < 24 ∧ vs_rw A (cs i)) (h : gs_ A cs m x 0 M) (hs : rm_ s M) (hb : rb_ A s) : ∃ M', mj_C0 X (d + 2) mt_M_goThrough [mv_p 12, mv_i (nI size), mv_i lim] M (mv_R (if (se_ A cs lim (2 * m) size 0 0 x s).1 = true then 1 else 0) M') ∧ rm_ (se_ A cs lim (2 * m) size 0 0 x s).2 M' ∧ fz_ M M' ∧ ((se_ A cs lim (2 * m) size 0 0 x s).1 = true → gs_ A cs m x 0 M') := by
  obtain ⟨r, hr⟩ : ∃ r, size = r + 1 := ⟨size - 1, by omega⟩
  have g1 : gs_ A cs m x 0 (mj_st (mj_st M 26 0 (-1)) 27 0 0) := (h.st (by omega)).st (by omega)
  have g2 : rm_ s (mj_st (mj_st M 26 0 (-1)) 27 0 0) := (hs.sr (by unfold aq_k; omega)).sr (by unfold aq_k; omega)
  have g3 : fz_ M (mj_st (mj_st M 26 0 (-1)) 27 0 0) := ((fz_.refl M).st (by omega) (by omega)).st (by omega) (by omega)
  obtain ⟨M3, c1, c2, c3⟩ := gt_loop (X := X) (d := d) (size := size) (lim := lim) (rec := fun y t => se_ A cs lim (2 * m) r (0 + 1) ((y 0 / 2 + 1) * 2) y t) (n := 0) (by omega) hm hcs (fun y t ht => se_rb ht) (fun y t N hN1 hN2 hN3 => gt_rec hz hm hcs r 0 y t N (by omega) hN1 hN2 hN3) (2 * m) 0 x s _ (by omega) g1 (by rw [pm_st1 (by omega), pm_st0]; rfl) g2 hb
  have e : se_ A cs lim (2 * m) size 0 0 x s = se_l (fun y t => se_ A cs lim (2 * m) r (0 + 1) ((y 0 / 2 + 1) * 2) y t) lim (2 * m) 0 (2 * m) x s := by
    rw [hr]
    rfl
  rw [e]
  refine ⟨M3, ?_, c1, g3.trans c2, fun q => ?_⟩
  · have key : ∀ R, mj_Ev mj_S0 X mj_P (d + 2) mt_M_goThrough 40 (mj_up (fun j => [mv_p 12, mv_i (nI size), mv_i lim][j]?) 3 (mv_i (nI 0))) [] (mj_st (mj_st M 26 0 (-1)) 27 0 0) 0 R → mj_C0 X (d + 2) mt_M_goThrough [mv_p 12, mv_i (nI size), mv_i lim] M R := by
      intro R hR
      iterate 19 refine ev_go rfl ?_
      exact hR
    rcases c3 with ⟨c4, c5, c6⟩ | ⟨c4, c5⟩
    · rw [if_pos c4]
      refine key _ (c6 _ ?_)
      refine ev_go rfl ?_
      refine ev_go rfl ?_
      refine ev_go rfl ?_
      refine ev_end rfl ?_
      rfl
    · rw [if_neg (by rw [c4]; decide)]
      exact key _ c5
  · rcases c3 with ⟨c4, c5, c6⟩ | ⟨c4, c5⟩
    · exact c5
    · rw [c4] at q
      exact absurd q (by decide)
end
