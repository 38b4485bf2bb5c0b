/-! the class's search -/
def ek_ (A : mj_M) (cs : Nat → Nat) (m : Nat) (lim : Int32) (size : Nat) (x : Nat → Nat) (n : Nat) (s M : mj_M) : Prop := rc_b A M ∧ rc_L A (aq_L A cs x n) M ∧ rc_s s M ∧ (M.1 2 6 = nI m ∧ M.1 2 7 = nI size ∧ M.1 2 8 = lim) ∧ (∀ i, i < m → M.1 6 i = nI (cs i)) ∧ (∀ i, i < n → (M.1 7 i = nI (cs (x i / 2)) ∧ M.1 8 i = nI (x i % 2)) ∧ x i / 2 < m) ∧ s.1 12 14 ≤ lim
def at_ (rec : (Nat → Nat) → mj_M → Bool × mj_M) (lim : Int32) (n : Nat) (x : Nat → Nat) (s : mj_M) (c : Nat) : Bool × mj_M := if s.1 12 14 = lim then (false, s) else rec (upN x n c) (mj_st s 12 14 (s.1 12 14 + 1))
theorem se_l_at {rec : (Nat → Nat) → mj_M → Bool × mj_M} {lim : Int32} {m2 n j : Nat} {x : Nat → Nat} {s : mj_M} : se_l rec lim m2 n (j + 1) x s = (match at_ rec lim n x s (m2 - (j + 1)) with
    | (true, s') => se_l rec lim m2 n j x s'
    | (false, s') => (false, s')) := by
  unfold at_
  by_cases h : s.1 12 14 = lim
  · rw [if_pos h]
    exact if_pos h
  · rw [if_neg h]
    exact if_neg h
theorem ev_stk {S : mj_S} {X : Nat × (Nat → Int32)} {P : List mj_T} {d : Nat} {T : mj_T} {pc : Nat} {lo : mj_L} {st st' : List mj_V} {M : mj_M} {k : Nat} {r : mj_R} (h : st = st') (e : mj_Ev S X P d T pc lo st' M k r) : mj_Ev S X P d T pc lo st M k r := h ▸ e
theorem if01 (b : Bool) : (if b = true then (1 : Int32) else 0) = 0 ∨ (if b = true then (1 : Int32) else 0) = 1 := by
  cases b
  · exact Or.inl rfl
  · exact Or.inr rfl
section
variable {X : Nat × (Nat → Int32)} {d : Nat} {M A s : mj_M} {cs x : Nat → Nat} {m n c size mo : Nat} {lim : Int32}
theorem fl_ek {M' : mj_M} {n' : Nat} {x' : Nat → Nat} (h : ek_ A cs m lim size x' n' s M) (f : fl_ M M') (hn : n ≤ n') (e : ∀ i, i < n → x' i = x i) (hL : rc_L A (aq_L A cs x n) M') : ek_ A cs m lim size x n s M' := by
  obtain ⟨a1, a2, a3, ⟨a4, a5, a6⟩, a7, a8, a9⟩ := h
  refine ⟨f.rb a1, hL, f.rs a3, ⟨?_, ?_, ?_⟩, fun i hi => ?_, fun i hi => ?_, a9⟩
  · rw [f.2 _ _ (by omega)]; exact a4
  · rw [f.2 _ _ (by omega)]; exact a5
  · rw [f.2 _ _ (by omega)]; exact a6
  · rw [f.2 _ _ (by omega)]; exact a7 i hi
  · rw [f.2 _ _ (by omega), f.2 _ _ (by omega), ← e i hi]; exact a8 i (by omega)
theorem pk_attempt {rec : (Nat → Nat) → mj_M → Bool × mj_M} {ch h : Nat} (hz : size ≤ 4) (hn : n < size) (hm : m ≤ 24) (hcs : ∀ i, i < m → cs i < 24 ∧ vs_rw A (cs i)) (ht : ∀ c, -1 ≤ A.1 21 c) (hch : ch < m) (hh : h < 2) (hc : c = 2 * ch + h)
  (hE : ∀ s1 M1, ek_ A cs m lim size (upN x n c) (n + 1) s1 M1 → ∃ M', mj_C0 X (d + 2) mt_K_extend [mv_p 2, mv_p 1, mv_i (nI (n + 1)), mv_i (nI (ch + 1))] M1 (mv_R (if (rec (upN x n c) s1).1 = true then 1 else 0) M') ∧ ek_ A cs m lim size (upN x n c) (n + 1) (rec (upN x n c) s1).2 M' ∧ fc_ M1 M')
  (hk : ek_ A cs m lim size x n s M) : ∃ M', mj_C0 X (d + 3) mt_K_attempt [mv_p 2, mv_p 1, mv_i (nI n), mv_i (nI ch), mv_i (nI h)] M (mv_R (if (at_ rec lim n x s c).1 = true then 1 else 0) M') ∧ ek_ A cs m lim size x n (at_ rec lim n x s c).2 M' ∧ fc_ M M' := by
  have hk0 := hk
  obtain ⟨a1, a2, a3, ⟨a4, a5, a6⟩, a7, a8, a9⟩ := hk
  have e9 : M.1 2 9 = s.1 12 14 := a3.1
  by_cases hl : s.1 12 14 = lim
  · have e : (at_ rec lim n x s c) = (false, s) := if_pos hl
    rw [e]
    refine ⟨M, ?_, hk0, fc_.refl M⟩
    iterate 4 refine ev_go rfl ?_
    rw [e9, a6]
    refine ev_if rfl (fun h8 => ?_) (fun h8 => ?_)
    · exact absurd h8 (by rw [hl]; grind)
    · refine ev_go rfl ?_
      refine ev_end rfl ?_
      rfl
  · have e : (at_ rec lim n x s c) = rec (upN x n c) (mj_st s 12 14 (s.1 12 14 + 1)) := if_neg hl
    rw [e]
    obtain ⟨k1, k2⟩ := hcs ch hch
    have cd : c / 2 = ch := by omega
    have cm : c % 2 = h := by omega
    have hp : ∀ a, pr_ a = 30 + a := pr_e
    obtain ⟨N, hN⟩ : ∃ N : mj_M, N = mj_st (mj_st (mj_st M 2 9 (s.1 12 14 + 1)) 7 n (nI (cs ch))) 8 n (nI h) := ⟨_, rfl⟩
    have qN : ∀ q j, (q ≠ 2 ∨ j ≠ 9) → ((q ≠ 7 ∧ q ≠ 8) ∨ j ≠ n) → N.1 q j = M.1 q j := fun q j u1 u2 => by
      rw [hN, pm_st1 (by omega), pm_st1 (by omega), pm_st1 (by omega)]
    have b1 : rc_b A N := by
      refine ⟨fun a ha j hj => ?_, fun c hc => ?_, ?_, ?_, ?_⟩
      · rw [qN _ _ (by rw [hp]; omega) (by rw [hp]; omega)]; exact a1.1 a ha j hj
      · rw [qN _ _ (by omega) (by omega)]; exact a1.2.1 c hc
      · rw [qN _ _ (by omega) (by omega)]; exact a1.2.2.1
      · rw [qN _ _ (by omega) (by omega)]; exact a1.2.2.2.1
      · rw [qN _ _ (by omega) (by omega)]; exact a1.2.2.2.2
    have b2 : rc_L A (aq_L A cs x n) N := ⟨fun c hc => by rw [qN _ _ (by omega) (by omega)]; exact a2.1 c hc, by rw [qN _ _ (by omega) (by omega)]; exact a2.2⟩
    have b3 : rc_s (mj_st s 12 14 (s.1 12 14 + 1)) N := by
      obtain ⟨c1, c2, c3, c4, c5⟩ := a3
      refine ⟨?_, ?_, ?_, fun a ha => ?_, fun i hi => ?_⟩
      · rw [pm_st0, hN, pm_st1 (by omega), pm_st1 (by omega), pm_st0]
      · rw [qN _ _ (by omega) (by omega), pm_st1 (by omega)]; exact c2
      · rw [qN _ _ (by omega) (by omega), pm_st1 (by omega)]; exact c3
      · rw [qN _ _ (by omega) (by omega), pm_st1 (by omega)]; exact c4 a ha
      · rw [pm_st1 (by omega)] at hi
        rw [qN _ _ (by omega) (by omega), qN _ _ (by omega) (by omega), pm_st1 (by omega)]; exact c5 i hi
    have fN : fc_ M N := by rw [hN]; exact (((fc_.refl M).st (by omega)).st (by omega)).st (by omega)
    obtain ⟨t, et⟩ : ∃ t : Int32, t = -aq_sg c := ⟨_, rfl⟩
    have L1 : rc_L A (aq_L A cs (upN x n c) (n + 1)) (pm_ca N (cs ch) t) := (rc_ca (t := t) k1 k2 b1 b2 ht).congr (fun z _ => by
      show aq_L A cs x n z + t * aq_ad A (cs ch) (nI z) = aq_L A cs (upN x n c) n z - aq_sg (upN x n c n) * aq_ad A (cs (upN x n c n / 2)) (nI z)
      rw [upN_s, aq_L_c (x := upN x n c) (y := x) (fun i hi => upN_n (by omega)), cd, et]
      grind)
    have E1 : ek_ A cs m lim size (upN x n c) (n + 1) (mj_st s 12 14 (s.1 12 14 + 1)) (pm_ca N (cs ch) t) := by
      have f := fl_ca N (cs ch) t
      refine ⟨f.rb b1, L1, f.rs b3, ⟨?_, ?_, ?_⟩, fun i hi => ?_, fun i hi => ?_, ?_⟩
      · rw [f.2 _ _ (by omega), qN _ _ (by omega) (by omega)]; exact a4
      · rw [f.2 _ _ (by omega), qN _ _ (by omega) (by omega)]; exact a5
      · rw [f.2 _ _ (by omega), qN _ _ (by omega) (by omega)]; exact a6
      · rw [f.2 _ _ (by omega), qN _ _ (by omega) (by omega)]; exact a7 i hi
      · rw [f.2 _ _ (by omega), f.2 _ _ (by omega)]
        by_cases q : i = n
        · rw [q, upN_s, cd, cm, hN, pm_st0, pm_st1 (by omega), pm_st0]
          exact ⟨⟨rfl, rfl⟩, hch⟩
        · rw [upN_n q, qN _ _ (by omega) (by omega), qN _ _ (by omega) (by omega)]
          exact a8 i (by omega)
      · rw [pm_st0]
        grind
    obtain ⟨M2, x1, x2, x3⟩ := hE _ _ E1
    have L2 : rc_L A (aq_L A cs x n) (pm_ca M2 (cs ch) (-t)) := (rc_ca (t := -t) k1 k2 x2.1 x2.2.1 ht).congr (fun z _ => by
      show aq_L A cs (upN x n c) n z - aq_sg (upN x n c n) * aq_ad A (cs (upN x n c n / 2)) (nI z) + -t * aq_ad A (cs ch) (nI z) = aq_L A cs x n z
      rw [upN_s, aq_L_c (x := upN x n c) (y := x) (fun i hi => upN_n (by omega)), cd, et]
      grind)
    refine ⟨pm_ca M2 (cs ch) (-t), ?_, fl_ek x2 (fl_ca _ _ _) (by omega) (fun i hi => upN_n (by omega)) L2, ((fN.trans (fl_ca _ _ _).fc).trans x3).trans (fl_ca _ _ _).fc⟩
    have p1 : pv_row N (cs ch) := (b1.pv k1 k2).1
    have p2 : pv_row M2 (cs ch) := (x2.1.pv k1 k2).1
    have tail : mj_Ev mj_S0 X mj_P (d + 3) mt_K_attempt 57 (mj_up (fun j => [mv_p 2, mv_p 1, mv_i (nI n), mv_i (nI ch), mv_i (nI h)][j]?) 5 (mv_i (nI (cs ch)))) [mv_i t] N 0 (mv_R (if (rec (upN x n c) (mj_st s 12 14 (s.1 12 14 + 1))).1 = true then 1 else 0) (pm_ca M2 (cs ch) (-t))) := by
      iterate 4 refine ev_go rfl ?_
      refine ev_callv rfl rfl rfl (pl_carry k1 p1) ?_
      iterate 5 refine ev_go rfl ?_
      show mj_Ev _ _ _ _ _ _ _ [mv_i (nI n + 1), _, _] _ _ _
      rw [nI_1]
      iterate 3 refine ev_go rfl ?_
      show mj_Ev _ _ _ _ _ _ _ [mv_i (nI ch + 1), _, _, _] _ _ _
      rw [nI_1]
      refine ev_callr rfl rfl rfl x1 ?_
      iterate 5 refine ev_go rfl ?_
      refine ev_callv rfl rfl rfl (pl_carry k1 p2) ?_
      refine ev_go rfl ?_
      refine ev_end rfl ?_
      exact if_pos (if01 _)
    iterate 4 refine ev_go rfl ?_
    rw [e9, a6]
    refine ev_if rfl (fun h8 => ?_) (fun h8 => ?_)
    · iterate 5 refine ev_go rfl ?_
      show mj_Ev _ _ _ _ _ _ _ [mv_i (M.1 2 9 + 1), _] _ _ _
      rw [e9]
      iterate 4 refine ev_go rfl ?_
      refine ev_ok (nI_in (show ch < 24 by omega) (by decide)) rfl ?_
      rw [nI_clamp (by omega), show (mj_st M 2 9 (s.1 12 14 + 1)).1 6 ch = nI (cs ch) from a7 ch hch]
      iterate 5 refine ev_go rfl ?_
      refine ev_ok (nI_in (show n < 4 by omega) (by decide)) rfl ?_
      rw [nI_clamp (by omega)]
      iterate 4 refine ev_go rfl ?_
      refine ev_ok (nI_in (show n < 4 by omega) (by decide)) rfl ?_
      rw [nI_clamp (by omega), ← hN]
      refine ev_go rfl ?_
      refine ev_if rfl (fun h49 => ?_) (fun h49 => ?_)
      · have e52 : (-1 : Int32) = t := by
          have q : h = 0 := by
            rcases Nat.eq_zero_or_pos h with q | q
            · exact q
            · exact absurd h49 (nI_ne0 q (by omega))
          rw [et]
          unfold aq_sg
          rw [cm, q]
          rfl
        iterate 2 refine ev_go rfl ?_
        refine ev_stk ?_ tail
        rw [← e52]
      · have e52 : (1 : Int32) = t := by
          have q : h = 1 := by
            rcases Nat.eq_zero_or_pos h with q | q
            · exact absurd (by rw [q]; rfl) h49
            · omega
          rw [et]
          unfold aq_sg
          rw [cm, q]
          rfl
        refine ev_go rfl ?_
        refine ev_stk ?_ tail
        rw [← e52]
    · exact absurd (by grind) h8
theorem pk_extend (hz : size ≤ 4) (hm : m ≤ 24) (hcs : ∀ i, i < m → cs i < 24 ∧ vs_rw A (cs i)) (ht : ∀ c, -1 ≤ A.1 21 c) : ∀ r n ch x s M, n + r = size → ch ≤ m → ek_ A cs m lim size x n s M → ∃ M', mj_C0 X (d + 2 * r + 2) mt_K_extend [mv_p 2, mv_p 1, mv_i (nI n), mv_i (nI ch)] M (mv_R (if (se_ A cs lim (2 * m) r n (2 * ch) x s).1 = true then 1 else 0) M') ∧ ek_ A cs m lim size x n (se_ A cs lim (2 * m) r n (2 * ch) x s).2 M' ∧ fc_ M M' := by
  intro r
  induction r with
  | zero =>
    intro n ch x s M hn hch hk
    have hk0 := hk
    obtain ⟨a1, a2, a3, ⟨a4, a5, a6⟩, a7, a8, a9⟩ := hk
    have en : n = size := by omega
    subst en
    have ed : M.1 1 4 = aq_nd A (aq_L A cs x n) := a2.2
    by_cases hw : aq_nd A (aq_L A cs x n) = 0
    · have es : se_ A cs lim (2 * m) 0 n (2 * ch) x s = (true, no_ cs x n s) := by
        show (true, if aq_nd A (aq_L A cs x n) = 0 then no_ cs x n s else s) = _
        rw [if_pos hw]
      rw [es]
      obtain ⟨M', n1, n2, n3⟩ := pk_note (X := X) (d := d + 1) (M := M) (cs := cs) (x := x) hz a5 (fun i hi => ⟨(a8 i hi).1.1, (hcs _ (a8 i hi).2).1⟩) (fun i hi => (a8 i hi).1.2) a3
      have hp : ∀ a, pr_ a = 30 + a := pr_e
      refine ⟨M', ?_, ⟨⟨fun a ha j hj => ?_, fun c hc => ?_, ?_, ?_, ?_⟩, ⟨fun c hc => ?_, ?_⟩, n2, ⟨?_, ?_, ?_⟩, fun i hi => ?_, fun i hi => ?_, ?_⟩, fun q j u1 u2 => n3 q j (by omega)⟩
      · iterate 3 refine ev_go rfl ?_
        rw [a5]
        refine ev_if rfl (fun h5 => ?_) (fun h5 => ?_)
        · exact absurd h5 (nI_nlt (Nat.le_refl _) (by omega))
        · iterate 2 refine ev_go rfl ?_
          refine ev_if rfl (fun h12 => ?_) (fun h12 => ?_)
          · refine ev_go rfl ?_
            refine ev_callv rfl rfl rfl n1 ?_
            first
              | exact absurd (ed.trans hw) h12
              | (refine ev_go rfl ?_
                 refine ev_end rfl ?_
                 rfl)
          · first
              | exact absurd (ed.trans hw) h12
              | (refine ev_go rfl ?_
                 refine ev_end rfl ?_
                 rfl)
      · rw [n3 _ _ (by rw [hp]; omega)]; exact a1.1 a ha j hj
      · rw [n3 _ _ (by omega)]; exact a1.2.1 c hc
      · rw [n3 _ _ (by omega)]; exact a1.2.2.1
      · rw [n3 _ _ (by omega)]; exact a1.2.2.2.1
      · rw [n3 _ _ (by omega)]; exact a1.2.2.2.2
      · rw [n3 _ _ (by omega)]; exact a2.1 c hc
      · rw [n3 _ _ (by omega)]; exact a2.2
      · rw [n3 _ _ (by omega)]; exact a4
      · rw [n3 _ _ (by omega)]; exact a5
      · rw [n3 _ _ (by omega)]; exact a6
      · rw [n3 _ _ (by omega)]; exact a7 i hi
      · rw [n3 _ _ (by omega), n3 _ _ (by omega)]; exact a8 i hi
      · show (no_ cs x n s).1 12 14 ≤ lim
        rw [no_q (by omega) (by omega) (by omega)]; exact a9
    · have es : se_ A cs lim (2 * m) 0 n (2 * ch) x s = (true, s) := by
        show (true, if aq_nd A (aq_L A cs x n) = 0 then no_ cs x n s else s) = _
        rw [if_neg hw]
      rw [es]
      refine ⟨M, ?_, hk0, fc_.refl M⟩
      iterate 3 refine ev_go rfl ?_
      rw [a5]
      refine ev_if rfl (fun h5 => ?_) (fun h5 => ?_)
      · exact absurd h5 (nI_nlt (Nat.le_refl _) (by omega))
      · iterate 2 refine ev_go rfl ?_
        refine ev_if rfl (fun h12 => ?_) (fun h12 => ?_)
        · exact absurd (ed.symm.trans h12) hw
        · refine ev_go rfl ?_
          refine ev_end rfl ?_
          rfl
  | succ r ih =>
    intro n ch x s M hn hch hk
    have loop : ∀ (fc : mj_V) i ch s M, ch + i = m → ek_ A cs m lim size x n s M → ∃ M', mj_Ev mj_S0 X mj_P (d + 2 * (r + 1) + 2) mt_K_extend 24 (mj_up (fun j => [mv_p 2, mv_p 1, mv_i (nI n), fc][j]?) 4 (mv_i (nI ch))) [] M 0 (mv_R (if (se_l (fun x' s' => se_ A cs lim (2 * m) r (n + 1) ((x' n / 2 + 1) * 2) x' s') lim (2 * m) n (2 * i) x s).1 = true then 1 else 0) M') ∧ ek_ A cs m lim size x n (se_l (fun x' s' => se_ A cs lim (2 * m) r (n + 1) ((x' n / 2 + 1) * 2) x' s') lim (2 * m) n (2 * i) x s).2 M' ∧ fc_ M M' := by
      intro fc i
      induction i with
      | zero =>
        intro ch s M hc hk
        refine ⟨M, ?_, hk, fc_.refl M⟩
        have e6 : M.1 2 6 = nI m := hk.2.2.2.1.1
        iterate 3 refine ev_go rfl ?_
        refine ev_if rfl (fun h30 => ?_) (fun h30 => ?_)
        · refine ev_go rfl ?_
          refine ev_end rfl ?_
          rfl
        · exact absurd (show M.1 2 6 ≤ nI ch by rw [e6]; exact nI_le (by omega) (by omega)) h30
      | succ i ihi =>
        intro ch s M hc hk
        have e6 : M.1 2 6 = nI m := hk.2.2.2.1.1
        have rule : ∀ h s M, h < 2 → ek_ A cs m lim size x n s M → ∃ M', mj_C0 X (d + 2 * r + 3) mt_K_attempt [mv_p 2, mv_p 1, mv_i (nI n), mv_i (nI ch), mv_i (nI h)] M (mv_R (if (at_ (fun x' s' => se_ A cs lim (2 * m) r (n + 1) ((x' n / 2 + 1) * 2) x' s') lim n x s (2 * ch + h)).1 = true then 1 else 0) M') ∧ ek_ A cs m lim size x n (at_ (fun x' s' => se_ A cs lim (2 * m) r (n + 1) ((x' n / 2 + 1) * 2) x' s') lim n x s (2 * ch + h)).2 M' ∧ fc_ M M' := by
          intro h s M hh hk
          refine pk_attempt (rec := (fun x' s' => se_ A cs lim (2 * m) r (n + 1) ((x' n / 2 + 1) * 2) x' s')) hz (by omega) hm hcs ht (by omega) hh rfl (fun s1 M1 hk1 => ?_) hk
          have hx := ih (n + 1) (ch + 1) (upN x n (2 * ch + h)) s1 M1 (by omega) (by omega) hk1
          have e2 : (upN x n (2 * ch + h) n / 2 + 1) * 2 = 2 * (ch + 1) := by rw [upN_s]; omega
          show ∃ M', mj_C0 X (d + 2 * r + 2) mt_K_extend _ M1 (mv_R (if (se_ A cs lim (2 * m) r (n + 1) ((upN x n (2 * ch + h) n / 2 + 1) * 2) (upN x n (2 * ch + h)) s1).1 = true then 1 else 0) M') ∧ ek_ A cs m lim size (upN x n (2 * ch + h)) (n + 1) (se_ A cs lim (2 * m) r (n + 1) ((upN x n (2 * ch + h) n / 2 + 1) * 2) (upN x n (2 * ch + h)) s1).2 M' ∧ fc_ M1 M'
          rw [e2]
          exact hx
        have s1 := se_l_at (rec := (fun x' s' => se_ A cs lim (2 * m) r (n + 1) ((x' n / 2 + 1) * 2) x' s')) (lim := lim) (m2 := 2 * m) (n := n) (j := 2 * i + 1) (x := x) (s := s)
        rw [show 2 * m - (2 * i + 1 + 1) = 2 * ch + 0 by omega] at s1
        rw [show 2 * (i + 1) = 2 * i + 1 + 1 by omega, s1]
        obtain ⟨M1, b1, b2, b3⟩ := rule 0 s M (by decide) hk
        cases h1 : at_ (fun x' s' => se_ A cs lim (2 * m) r (n + 1) ((x' n / 2 + 1) * 2) x' s') lim n x s (2 * ch + 0) with
        | mk p s' =>
          rw [h1] at b1 b2
          cases p with
          | false =>
            refine ⟨M1, ?_, b2, b3⟩
            iterate 3 refine ev_go rfl ?_
            refine ev_if rfl (fun h30 => ?_) (fun h30 => ?_)
            · exact absurd h30 (by rw [e6]; exact nI_ge (by omega) (by omega))
            · iterate 5 refine ev_go rfl ?_
              refine ev_callr rfl rfl rfl b1 ?_
              iterate 2 refine ev_go rfl ?_
              refine ev_end rfl ?_
              rfl
          | true =>
            have s2 := se_l_at (rec := (fun x' s' => se_ A cs lim (2 * m) r (n + 1) ((x' n / 2 + 1) * 2) x' s')) (lim := lim) (m2 := 2 * m) (n := n) (j := 2 * i) (x := x) (s := s')
            rw [show 2 * m - (2 * i + 1) = 2 * ch + 1 by omega] at s2
            show ∃ M', mj_Ev mj_S0 X mj_P (d + 2 * (r + 1) + 2) mt_K_extend 24 (mj_up (fun j => [mv_p 2, mv_p 1, mv_i (nI n), fc][j]?) 4 (mv_i (nI ch))) [] M 0 (mv_R (if (se_l (fun x' s' => se_ A cs lim (2 * m) r (n + 1) ((x' n / 2 + 1) * 2) x' s') lim (2 * m) n (2 * i + 1) x s').1 = true then 1 else 0) M') ∧ ek_ A cs m lim size x n (se_l (fun x' s' => se_ A cs lim (2 * m) r (n + 1) ((x' n / 2 + 1) * 2) x' s') lim (2 * m) n (2 * i + 1) x s').2 M' ∧ fc_ M M'
            rw [s2]
            obtain ⟨M2, c1, c2, c3⟩ := rule 1 s' M1 (by decide) b2
            cases h2 : at_ (fun x' s' => se_ A cs lim (2 * m) r (n + 1) ((x' n / 2 + 1) * 2) x' s') lim n x s' (2 * ch + 1) with
            | mk p2 s'' =>
              rw [h2] at c1 c2
              cases p2 with
              | false =>
                refine ⟨M2, ?_, c2, b3.trans c3⟩
                iterate 3 refine ev_go rfl ?_
                refine ev_if rfl (fun h30 => ?_) (fun h30 => ?_)
                · exact absurd h30 (by rw [e6]; exact nI_ge (by omega) (by omega))
                · iterate 5 refine ev_go rfl ?_
                  refine ev_callr rfl rfl rfl b1 ?_
                  iterate 6 refine ev_go rfl ?_
                  refine ev_callr rfl rfl rfl c1 ?_
                  iterate 2 refine ev_go rfl ?_
                  refine ev_end rfl ?_
                  rfl
              | true =>
                obtain ⟨M3, d1, d2, d3⟩ := ihi (ch + 1) s'' M2 (by omega) c2
                refine ⟨M3, ?_, d2, (b3.trans c3).trans d3⟩
                iterate 3 refine ev_go rfl ?_
                refine ev_if rfl (fun h30 => ?_) (fun h30 => ?_)
                · exact absurd h30 (by rw [e6]; exact nI_ge (by omega) (by omega))
                · iterate 5 refine ev_go rfl ?_
                  refine ev_callr rfl rfl rfl b1 ?_
                  iterate 6 refine ev_go rfl ?_
                  refine ev_callr rfl rfl rfl c1 ?_
                  iterate 3 refine ev_go rfl ?_
                  refine ev_lo ?_ d1
                  rw [nI_1]
                  exact mj_upo
    have es : se_ A cs lim (2 * m) (r + 1) n (2 * ch) x s = se_l (fun x' s' => se_ A cs lim (2 * m) r (n + 1) ((x' n / 2 + 1) * 2) x' s') lim (2 * m) n (2 * (m - ch)) x s := by
      rw [show 2 * (m - ch) = 2 * m - 2 * ch by omega]
      rfl
    rw [es]
    obtain ⟨M', l1, l2, l3⟩ := loop (mv_i (nI ch)) (m - ch) ch s M (by omega) hk
    have e7 : M.1 2 7 = nI size := hk.2.2.2.1.2.1
    refine ⟨M', ?_, l2, l3⟩
    iterate 3 refine ev_go rfl ?_
    rw [e7]
    refine ev_if rfl (fun h5 => ?_) (fun h5 => ?_)
    · iterate 2 refine ev_go rfl ?_
      exact l1
    · exact absurd (nI_lt (show n < size by omega) (by omega)) h5
end
