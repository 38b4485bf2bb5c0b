/-! the search, told once for the class and for the reference -/
def upN (x : Nat → Nat) (n c : Nat) : Nat → Nat := fun i => if i = n then c else x i
/-- what is expected once the first n changes are made -/
def aq_L (A : mj_M) (cs x : Nat → Nat) : Nat → Nat → Int32
  | 0 => aq_E A
  | n + 1 => fun z => aq_L A cs x n z - aq_sg (x n) * aq_ad A (cs (x n / 2)) (nI z)
theorem aq_L_c {A : mj_M} {cs x y : Nat → Nat} : ∀ {n : Nat}, (∀ i, i < n → x i = y i) → aq_L A cs x n = aq_L A cs y n
  | 0, _ => rfl
  | n + 1, h => by
    show (fun z => aq_L A cs x n z - aq_sg (x n) * aq_ad A (cs (x n / 2)) (nI z)) = _
    rw [aq_L_c (fun i hi => h i (by omega)), h n (by omega)]
    rfl
/-- an explanation is written down -/
def nt_ (cs x : Nat → Nat) (s : mj_M) : Nat → mj_M
  | 0 => s
  | k + 1 => if s.1 12 15 = 1 then mj_st (mj_st (nt_ cs x s k) 22 (cs (x k / 2)) ((nt_ cs x s k).1 22 (cs (x k / 2)) + 1)) 23 k (2 * nI (cs (x k / 2)) + nI (x k % 2)) else mj_st (nt_ cs x s k) 22 (cs (x k / 2)) ((nt_ cs x s k).1 22 (cs (x k / 2)) + 1)
def nq_ (cs x : Nat → Nat) (n : Nat) (s : mj_M) : mj_M := if s.1 12 15 = 1 then mj_st (nt_ cs x s n) 12 17 (nI n) else nt_ cs x s n
def no_ (cs x : Nat → Nat) (n : Nat) (s : mj_M) : mj_M := nq_ cs x n (mj_st s 12 15 (s.1 12 15 + 1))
theorem nt_pos {cs x : Nat → Nat} {s : mj_M} {k : Nat} (h : s.1 12 15 = 1) : nt_ cs x s (k + 1) = mj_st (mj_st (nt_ cs x s k) 22 (cs (x k / 2)) ((nt_ cs x s k).1 22 (cs (x k / 2)) + 1)) 23 k (2 * nI (cs (x k / 2)) + nI (x k % 2)) := if_pos h
theorem nt_neg {cs x : Nat → Nat} {s : mj_M} {k : Nat} (h : ¬ s.1 12 15 = 1) : nt_ cs x s (k + 1) = mj_st (nt_ cs x s k) 22 (cs (x k / 2)) ((nt_ cs x s k).1 22 (cs (x k / 2)) + 1) := if_neg h
theorem nt_q {cs x : Nat → Nat} {s : mj_M} {q : Nat} (h1 : q ≠ 22) (h2 : q ≠ 23) (j : Nat) : ∀ k, (nt_ cs x s k).1 q j = s.1 q j
  | 0 => rfl
  | k + 1 => by
    unfold nt_
    split
    · rw [pm_st1 (Or.inl h2), pm_st1 (Or.inl h1)]
      exact nt_q h1 h2 j k
    · rw [pm_st1 (Or.inl h1)]
      exact nt_q h1 h2 j k
theorem nt_2 {cs x : Nat → Nat} {s : mj_M} : ∀ k, (nt_ cs x s k).2 = s.2
  | 0 => rfl
  | k + 1 => by
    unfold nt_
    split
    · rw [pm_st2, pm_st2]
      exact nt_2 k
    · rw [pm_st2]
      exact nt_2 k
theorem nt_rm {cs x : Nat → Nat} {s M : mj_M} (h : rm_ s M) : ∀ k, rm_ (nt_ cs x s k) (nt_ cs x M k)
  | 0 => h
  | k + 1 => by
    have ih := nt_rm (cs := cs) (x := x) h k
    have e1 : M.1 12 15 = s.1 12 15 := h.s (by decide)
    have e2 : (nt_ cs x M k).1 22 (cs (x k / 2)) = (nt_ cs x s k).1 22 (cs (x k / 2)) := ih.q (by decide) (by decide)
    unfold nt_
    rw [e1, e2]
    split
    · exact (ih.st _ _ _).st _ _ _
    · exact ih.st _ _ _
theorem no_rm {cs x : Nat → Nat} {n : Nat} {s M : mj_M} (h : rm_ s M) : rm_ (no_ cs x n s) (no_ cs x n M) := by
  have e1 : M.1 12 15 = s.1 12 15 := h.s (by decide)
  unfold no_ nq_
  rw [pm_st0, pm_st0, e1]
  have h2 := nt_rm (cs := cs) (x := x) (h.st 12 15 (s.1 12 15 + 1)) n
  split
  · exact h2.st _ _ _
  · exact h2
theorem nq_q {cs x : Nat → Nat} {n : Nat} {s : mj_M} {q : Nat} (h1 : q ≠ 22) (h2 : q ≠ 23) {j : Nat} (h3 : q ≠ 12 ∨ j ≠ 17) : (nq_ cs x n s).1 q j = s.1 q j := by
  unfold nq_
  split
  · rw [pm_st1 h3]
    exact nt_q h1 h2 j n
  · exact nt_q h1 h2 j n
theorem no_q {cs x : Nat → Nat} {n : Nat} {s : mj_M} {q : Nat} (h1 : q ≠ 22) (h2 : q ≠ 23) {j : Nat} (h3 : q ≠ 12 ∨ (j ≠ 17 ∧ j ≠ 15)) : (no_ cs x n s).1 q j = s.1 q j := by
  unfold no_
  rw [nq_q h1 h2 (by omega), pm_st1 (by omega)]
theorem no_2 {cs x : Nat → Nat} {n : Nat} {s : mj_M} : (no_ cs x n s).2 = s.2 := by
  unfold no_ nq_
  split
  · rw [pm_st2, nt_2, pm_st2]
  · rw [nt_2, pm_st2]
/-- the codes from m2 - j on are tried at place n; false: the steps have run out -/
def se_l (rec : (Nat → Nat) → mj_M → Bool × mj_M) (lim : Int32) (m2 n : Nat) : Nat → (Nat → Nat) → mj_M → Bool × mj_M
  | 0, _, s => (true, s)
  | j + 1, x, s => if s.1 12 14 = lim then (false, s) else (match rec (upN x n (m2 - (j + 1))) (mj_st s 12 14 (s.1 12 14 + 1)) with
    | (true, s') => se_l rec lim m2 n j x s'
    | (false, s') => (false, s'))
def se_ (A : mj_M) (cs : Nat → Nat) (lim : Int32) (m2 : Nat) : Nat → Nat → Nat → (Nat → Nat) → mj_M → Bool × mj_M
  | 0, n, _, x, s => (true, if aq_nd A (aq_L A cs x n) = 0 then no_ cs x n s else s)
  | r + 1, n, c0, x, s => se_l (fun x' s' => se_ A cs lim m2 r (n + 1) ((x' n / 2 + 1) * 2) x' s') lim m2 n (m2 - c0) x s
/-- what the search keeps -/
theorem se_l_keep {P : mj_M → Prop} {rec : (Nat → Nat) → mj_M → Bool × mj_M} {lim : Int32} {m2 n : Nat} (hs : ∀ s, P s → P (mj_st s 12 14 (s.1 12 14 + 1))) (hr : ∀ x s, P s → P (rec x s).2) : ∀ j x s, P s → P (se_l rec lim m2 n j x s).2
  | 0, _, _, h => h
  | j + 1, x, s, h => by
    unfold se_l
    split
    · exact h
    · have h2 := hr (upN x n (m2 - (j + 1))) _ (hs s h)
      split
      · rename_i s' e
        rw [e] at h2
        exact se_l_keep hs hr j x s' h2
      · rename_i s' e
        rw [e] at h2
        exact h2
theorem se_keep {P : mj_M → Prop} {A : mj_M} {cs : Nat → Nat} {lim : Int32} {m2 : Nat} (hs : ∀ s, P s → P (mj_st s 12 14 (s.1 12 14 + 1))) (hn : ∀ x n s, P s → P (no_ cs x n s)) : ∀ r n c0 x s, P s → P (se_ A cs lim m2 r n c0 x s).2
  | 0, n, c0, x, s, h => by
    show P (if aq_nd A (aq_L A cs x n) = 0 then no_ cs x n s else s)
    split
    · exact hn x n s h
    · exact h
  | r + 1, n, c0, x, s, h => se_l_keep hs (fun x' s' h' => se_keep hs hn r (n + 1) _ x' s' h') _ x s h
theorem rb_.st {A M : mj_M} (h : rb_ A M) {q j : Nat} {x : Int32} (hk : ¬ ((13 ≤ q ∧ q ≤ 21) ∨ (q = 12 ∧ (j = 1 ∨ j = 10 ∨ j = 11)))) : rb_ A (mj_st M q j x) := by
  intro q' j' hk'
  have h2 : q' ≠ q ∨ j' ≠ j := by
    by_cases h1 : q' = q ∧ j' = j
    · obtain ⟨h1, h2⟩ := h1
      subst h1 h2
      exact absurd hk' hk
    · omega
  rw [pm_st1 h2]
  exact h q' j' hk'
theorem no_rb {A : mj_M} {cs x : Nat → Nat} {n : Nat} {s : mj_M} (h : rb_ A s) : rb_ A (no_ cs x n s) := fun q j hk => by rw [no_q (by omega) (by omega) (by omega)]; exact h q j hk
theorem se_rb {A : mj_M} {cs : Nat → Nat} {lim : Int32} {m2 : Nat} {r n c0 : Nat} {x : Nat → Nat} {s : mj_M} (h : rb_ A s) : rb_ A (se_ A cs lim m2 r n c0 x s).2 := se_keep (P := fun s => rb_ A s) (fun _ h => h.st (by omega)) (fun _ _ _ h => no_rb h) r n c0 x s h
section
variable {X : Nat × (Nat → Int32)} {d : Nat} {M A : mj_M} {L : Nat → Int32}
theorem pm_foundOne_l {cs x : Nat → Nat} {n m : Nat} (hn : n ≤ 4) (hm : m ≤ 24) (hc : ∀ i, i < m → M.1 25 i = nI (cs i) ∧ cs i < 24) (hx : ∀ i, i < n → M.1 26 i = nI (x i) ∧ x i < 2 * m) : ∀ j k lo, k + j = n → mj_Ev mj_S0 X mj_P d mt_M_foundOne 12 (mj_up (mj_up (mj_up lo 0 (mv_p 12)) 1 (mv_i (nI n))) 2 (mv_i (nI k))) [] (nt_ cs x M k) 0 (mv_V (nq_ cs x n M)) := by
  have e15 : ∀ k, (nt_ cs x M k).1 12 15 = M.1 12 15 := fun k => nt_q (by decide) (by decide) 15 k
  intro j
  induction j with
  | zero =>
    intro k lo hk
    iterate 2 refine ev_go rfl ?_
    refine ev_if rfl (fun h14 => ?_) (fun h14 => ?_)
    · iterate 3 refine ev_go rfl ?_
      refine ev_if rfl (fun h82 => ?_) (fun h82 => ?_)
      · iterate 3 refine ev_go rfl ?_
        refine ev_end rfl ?_
        show some (mv_V _) = some (mv_V _)
        unfold nq_
        rw [show k = n by omega] at h82 ⊢
        rw [e15] at h82
        first
          | rw [if_pos h82]
          | rw [if_neg h82]
      · refine ev_end rfl ?_
        show some (mv_V _) = some (mv_V _)
        unfold nq_
        rw [show k = n by omega] at h82 ⊢
        rw [e15] at h82
        first
          | rw [if_pos h82]
          | rw [if_neg h82]
    · exact absurd (nI_le (show n ≤ k by omega) (by omega)) h14
  | succ j ih =>
    intro k lo hk
    have hk2 : x k / 2 < m := by have := (hx k (by omega)).2; omega
    have a1 := (hc _ hk2).2
    have e1 : nI (x k) / 2 = nI (x k / 2) := pk_div (d := 2) (by omega) (by decide) (by decide)
    have e2 : nI (x k) - nI (x k) / 2 * 2 = nI (x k % 2) := pk_rem (d := 2) (by omega) (by decide) (by decide)
    have s26 : ∀ (s : mj_M), s = nt_ cs x M k → s.1 26 k = nI (x k) := fun s hs => by rw [hs, nt_q (by decide) (by decide)]; exact (hx k (by omega)).1
    have s25 : (nt_ cs x M k).1 25 (x k / 2) = nI (cs (x k / 2)) := by rw [nt_q (by decide) (by decide)]; exact (hc _ hk2).1
    iterate 2 refine ev_go rfl ?_
    refine ev_if rfl (fun h14 => ?_) (fun h14 => ?_)
    · exact absurd h14 (nI_ge (by omega) (by omega))
    · iterate 5 refine ev_go rfl ?_
      refine ev_ok (nI_in (show k < 5 by omega) (by decide)) rfl ?_
      rw [nI_clamp (by omega), s26 _ rfl]
      iterate 2 refine ev_go rfl ?_
      show mj_Ev _ _ _ _ _ _ _ [mv_i (nI (x k) / 2), _] _ _ _
      rw [e1]
      refine ev_ok (nI_in (show x k / 2 < 24 by omega) (by decide)) rfl ?_
      rw [nI_clamp (by omega), s25]
      iterate 7 refine ev_go rfl ?_
      refine ev_ok (nI_in a1 (by decide)) rfl ?_
      rw [nI_clamp (by omega)]
      iterate 2 refine ev_go rfl ?_
      refine ev_ok (nI_in a1 (by decide)) rfl ?_
      rw [nI_clamp (by omega)]
      iterate 3 refine ev_go rfl ?_
      refine ev_if rfl (fun h50 => ?_) (fun h50 => ?_)
      · iterate 9 refine ev_go rfl ?_
        refine ev_ok (nI_in (show k < 5 by omega) (by decide)) rfl ?_
        rw [nI_clamp (by omega)]
        rw [show (mj_st (nt_ cs x M k) 22 (cs (x k / 2)) ((fun x y => x + y) ((nt_ cs x M k).1 22 (cs (x k / 2))) 1)).1 26 k = nI (x k) from s26 (nt_ cs x M k) rfl]
        iterate 3 refine ev_go rfl ?_
        show mj_Ev _ _ _ _ _ _ _ [mv_i (2 * nI (cs (x k / 2)) + (nI (x k) - nI (x k) / 2 * 2)), _, _] _ _ _
        rw [e2]
        refine ev_ok (nI_in (show k < 4 by omega) (by decide)) rfl ?_
        try rw [nI_clamp (show k < 2 ^ 31 by omega)]
        iterate 2 refine ev_go rfl ?_
        first
          | (have k50 : M.1 12 15 = 1 := by rw [← e15 k]; exact h50
             refine ev_lo ?_ (nt_pos (cs := cs) (x := x) (k := k) k50 ▸ ih (k + 1) (mj_up lo 3 (mv_i (nI (cs (x k / 2))))) (by omega)))
          | (have k50 : ¬ M.1 12 15 = 1 := by rw [← e15 k]; exact h50
             refine ev_lo ?_ (nt_neg (cs := cs) (x := x) (k := k) k50 ▸ ih (k + 1) (mj_up lo 3 (mv_i (nI (cs (x k / 2))))) (by omega)))
        rw [nI_1]
        funext z
        by_cases z0 : z = 0
        · subst z0
          first
            | rfl
            | simp [mj_up]
        by_cases z1 : z = 1
        · subst z1
          first
            | rfl
            | simp [mj_up]
        by_cases z2 : z = 2
        · subst z2
          first
            | rfl
            | simp [mj_up]
        by_cases z3 : z = 3
        · subst z3
          first
            | rfl
            | simp [mj_up]
        first
          | (simp [mj_up, z0, z1, z2, z3]; done)
          | (simp [mj_up, z0, z1, z2, z3]; intro q; first | exact absurd q z0 | exact absurd q z1 | exact absurd q z2 | exact absurd q z3)
      · try rw [nI_clamp (show k < 2 ^ 31 by omega)]
        iterate 2 refine ev_go rfl ?_
        first
          | (have k50 : M.1 12 15 = 1 := by rw [← e15 k]; exact h50
             refine ev_lo ?_ (nt_pos (cs := cs) (x := x) (k := k) k50 ▸ ih (k + 1) (mj_up lo 3 (mv_i (nI (cs (x k / 2))))) (by omega)))
          | (have k50 : ¬ M.1 12 15 = 1 := by rw [← e15 k]; exact h50
             refine ev_lo ?_ (nt_neg (cs := cs) (x := x) (k := k) k50 ▸ ih (k + 1) (mj_up lo 3 (mv_i (nI (cs (x k / 2))))) (by omega)))
        rw [nI_1]
        funext z
        by_cases z0 : z = 0
        · subst z0
          first
            | rfl
            | simp [mj_up]
        by_cases z1 : z = 1
        · subst z1
          first
            | rfl
            | simp [mj_up]
        by_cases z2 : z = 2
        · subst z2
          first
            | rfl
            | simp [mj_up]
        by_cases z3 : z = 3
        · subst z3
          first
            | rfl
            | simp [mj_up]
        first
          | (simp [mj_up, z0, z1, z2, z3]; done)
          | (simp [mj_up, z0, z1, z2, z3]; intro q; first | exact absurd q z0 | exact absurd q z1 | exact absurd q z2 | exact absurd q z3)
theorem pm_foundOne {cs x : Nat → Nat} {n m : Nat} (hn : n ≤ 4) (hm : m ≤ 24) (hc : ∀ i, i < m → M.1 25 i = nI (cs i) ∧ cs i < 24) (hx : ∀ i, i < n → M.1 26 i = nI (x i) ∧ x i < 2 * m) : mj_C0 X d mt_M_foundOne [mv_p 12, mv_i (nI n)] M (mv_V (no_ cs x n M)) := by
  have key := pm_foundOne_l (X := X) (d := d) (M := mj_st M 12 15 (M.1 12 15 + 1)) (cs := cs) (x := x) hn hm hc hx n 0 (fun j => [mv_p 12, mv_i (nI n)][j]?) (by omega)
  iterate 8 refine ev_go rfl ?_
  refine ev_lo ?_ key
  funext z
  by_cases z0 : z = 0
  · subst z0
    first
      | rfl
      | simp [mj_up]
  by_cases z1 : z = 1
  · subst z1
    first
      | rfl
      | simp [mj_up]
  by_cases z2 : z = 2
  · subst z2
    first
      | rfl
      | simp [mj_up]
  first
    | (simp [mj_up, z0, z1, z2]; done)
    | (simp [mj_up, z0, z1, z2]; intro q; first | exact absurd q z0 | exact absurd q z1 | exact absurd q z2)
end
