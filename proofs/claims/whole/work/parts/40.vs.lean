/-! states stay such as may be -/
/-- the part of validity that a search changes -/
def vq_ (A s : mj_M) : Prop := (s.1 12 13 = 0 ∨ s.1 12 13 = 1) ∧ ∃ m, m ≤ 4 ∧ s.1 12 17 = nI m ∧ ∀ i, i < m → ∃ a h, a < aq_n A ∧ h < 2 ∧ s.1 23 i = nI (2 * a + h)
theorem vs_of {A s : mj_M} (hv : vs_A A) (hb : rb_ A s) (hq : vq_ A s) : vs_A s := by
  obtain ⟨⟨a1, a2⟩, a3, a4, a5, a6, a7, -, -⟩ := hv
  refine ⟨⟨?_, ?_⟩, fun a ha => ?_, fun a => ?_, fun a => ?_, fun a ha => ?_, fun c => ?_, hq.1, ?_⟩
  · rw [rb_n hb, hb.s (by decide)]; exact a1
  · rw [rb_n hb]; exact a2
  · rw [rb_n hb] at ha; rw [rb_rw hb]; exact a3 a ha
  · rw [hb.q (by decide) (by decide)]; exact a4 a
  · rw [hb.q (by decide) (by decide)]; exact a5 a
  · rw [rb_n hb] at ha; rw [hb.q (by decide) (by decide)]; exact a6 a ha
  · rw [hb.q (by decide) (by decide)]; exact a7 c
  · rw [rb_n hb]; exact hq.2
theorem vs_vq {A : mj_M} (hv : vs_A A) : vq_ A A := hv.2.2.2.2.2.2
theorem vq_.st {A s : mj_M} {q j : Nat} {x : Int32} (h : vq_ A s) (hq : q ≠ 23 ∧ (q ≠ 12 ∨ (j ≠ 13 ∧ j ≠ 17))) : vq_ A (mj_st s q j x) := by
  obtain ⟨h1, m, h2, h3, h4⟩ := h
  refine ⟨?_, m, h2, ?_, fun i hi => ?_⟩
  · rw [pm_st1 (by omega)]; exact h1
  · rw [pm_st1 (by omega)]; exact h3
  · rw [pm_st1 (by omega)]; exact h4 i hi
theorem vq_no {A s : mj_M} {cs x : Nat → Nat} {n : Nat} (hn : n ≤ 4) (hx : ∀ i, i < n → cs (x i / 2) < aq_n A) (h : vq_ A s) : vq_ A (no_ cs x n s) := by
  obtain ⟨h1, m, h2, h3, h4⟩ := h
  have e13 : (no_ cs x n s).1 12 13 = s.1 12 13 := no_q (by omega) (by omega) (by omega)
  refine ⟨by rw [e13]; exact h1, ?_⟩
  by_cases f1 : (mj_st s 12 15 (s.1 12 15 + 1)).1 12 15 = 1
  · have en : no_ cs x n s = mj_st (nt_ cs x (mj_st s 12 15 (s.1 12 15 + 1)) n) 12 17 (nI n) := if_pos f1
    refine ⟨n, hn, by rw [en, pm_st0], fun i hi => ⟨cs (x i / 2), x i % 2, hx i hi, by omega, ?_⟩⟩
    rw [en, pm_st1 (by omega), nt_23p f1 hi, show (2 : Int32) = nI 2 from rfl, pk_mul, nI_add]
  · have en : no_ cs x n s = nt_ cs x (mj_st s 12 15 (s.1 12 15 + 1)) n := if_neg f1
    refine ⟨m, h2, ?_, fun i hi => ?_⟩
    · rw [en, nt_q (by decide) (by decide), pm_st1 (by omega)]; exact h3
    · rw [en, nt_23n f1, pm_st1 (by omega)]; exact h4 i hi
theorem se_l_keep2 {P : mj_M → Prop} {rec : (Nat → Nat) → mj_M → Bool × mj_M} {lim : Int32} {m2 n : Nat} {x : Nat → Nat} (hs : ∀ s, P s → P (mj_st s 12 14 (s.1 12 14 + 1))) (hr : ∀ c, c < m2 → ∀ s, P s → P (rec (upN x n c) s).2) : ∀ j s, j ≤ m2 → P s → P (se_l rec lim m2 n j x s).2
  | 0, _, _, h => h
  | j + 1, s, hj, h => by
    unfold se_l
    split
    · exact h
    · have h2 := hr (m2 - (j + 1)) (by omega) _ (hs s h)
      split
      · rename_i s' e
        rw [e] at h2
        exact se_l_keep2 hs hr j s' (by omega) h2
      · rename_i s' e
        rw [e] at h2
        exact h2
theorem se_vq {A : mj_M} {cs : Nat → Nat} {lim : Int32} {m : Nat} (hcs : ∀ i, i < m → cs i < aq_n A) : ∀ r n c0 x s, n + r ≤ 4 → (∀ i, i < n → x i < 2 * m) → vq_ A s → vq_ A (se_ A cs lim (2 * m) r n c0 x s).2
  | 0, n, c0, x, s, hn, hx, h => by
    show vq_ A (if aq_nd A (aq_L A cs x n) = 0 then no_ cs x n s else s)
    split
    · exact vq_no (by omega) (fun i hi => hcs _ (by have := hx i hi; omega)) h
    · exact h
  | r + 1, n, c0, x, s, hn, hx, h => by
    show vq_ A (se_l (fun x' s' => se_ A cs lim (2 * m) r (n + 1) ((x' n / 2 + 1) * 2) x' s') lim (2 * m) n (2 * m - c0) x s).2
    refine se_l_keep2 (P := fun s => vq_ A s) (fun s h => h.st (by omega)) (fun c hc s h => ?_) _ s (by omega) h
    refine se_vq hcs r (n + 1) _ (upN x n c) s (by omega) (fun i hi => ?_) h
    by_cases q : i = n
    · rw [q, upN_s]; exact hc
    · rw [upN_n q]; exact hx i (by omega)
theorem ss_v {A : mj_M} {lim : Int32} : ∀ j z s, z + j ≤ 5 → rb_ A s → vq_ A s → rb_ A (ss_ A (aq_cs A) lim (2 * aq_m A) j z s) ∧ vq_ A (ss_ A (aq_cs A) lim (2 * aq_m A) j z s)
  | 0, _, _, _, h1, h2 => ⟨h1, h2⟩
  | j + 1, z, s, hz, h1, h2 => by
    unfold ss_
    split
    · exact ⟨h1, h2⟩
    · have q1 := se_rb (cs := aq_cs A) (lim := lim) (m2 := 2 * aq_m A) (r := z) (n := 0) (c0 := 0) (x := fun _ => 0) h1
      have q2 := se_vq (cs := aq_cs A) (lim := lim) (fun i hi => aq_cs_in hi) z 0 0 (fun _ => 0) s (by omega) (fun i hi => absurd hi (Nat.not_lt_zero _)) h2
      refine ss_v j (z + 1) _ (by omega) (q1.st (by omega)) ⟨?_, ?_⟩
      · rw [pm_st0]
        exact if01 _
      · obtain ⟨-, m, k1, k2, k3⟩ := q2
        refine ⟨m, k1, ?_, fun i hi => ?_⟩
        · rw [pm_st1 (by omega)]; exact k2
        · rw [pm_st1 (by omega)]; exact k3 i hi
theorem vs_sr {A : mj_M} {lim : Int32} {mo : Nat} (hv : vs_A A) (hmo : mo ≤ 4) : vs_A (sr_ A lim mo) := by
  obtain ⟨o1, o2, o3, o4⟩ := ob_s (A := A)
  have q0 : vq_ A (ob_ A) := ⟨Or.inr o4, 0, by decide, o1, fun i hi => absurd hi (Nat.not_lt_zero _)⟩
  unfold sr_
  split
  · exact vs_of hv (oz_rb A 24) q0
  · obtain ⟨k1, k2⟩ := ss_v (lim := lim) mo 1 (ob_ A) (by omega) (oz_rb A 24) q0
    exact vs_of hv k1 k2
section
variable {A : mj_M}
theorem vs_on {k p o g n w : Int32} (hv : vs_A A) (hl : aq_n A < 24) (hk : k = 0 ∨ k = 1 ∨ k = 2) (h : on_ok A k p o g n w) : vs_A (on_st A k p o g n w) ∧ vs_rw (on_st A k p o g n w) (aq_n A) := by
  have en := aq_n_on (A := A) (k := k) (p := p) (o := o) (g := g) (n := n) (w := w) hl
  obtain ⟨g1, g2, g3, g4, g5, g6⟩ := on_n (A := A) (k := k) (p := p) (o := o) (g := g) (n := n) (w := w)
  obtain ⟨⟨a1, a2⟩, a3, a4, a5, a6, a7, a8, m, a9, a10, a11⟩ := hv
  unfold on_ok at h
  obtain ⟨h1, h2, h3, h4, h5, h6, h7, h8, h9, h10⟩ := h
  have r1 : vs_rw (on_st A k p o g n w) (aq_n A) := by
    unfold vs_rw
    rw [g1, g2, g3, g4, g5, g6]
    obtain ⟨p', hp, ep⟩ := nI_of2 (n := 9) rfl (by grind) h2
    obtain ⟨g', hg, eg⟩ := nI_of2 (n := 5) rfl (by grind) h5
    refine ⟨p', g', by omega, by omega, ep, eg, fun q => ?_, by grind, by grind, hk, h8⟩
    obtain ⟨u1, u2, u3⟩ := h3 q
    obtain ⟨o', ho, eo⟩ := nI_of2 (n := 9) rfl (by grind) u2
    refine ⟨o', by omega, fun q2 => u3 ?_, eo⟩
    rw [eo, ep, q2]
  refine ⟨⟨⟨?_, by omega⟩, fun a ha => ?_, fun a => ?_, fun a => ?_, fun a ha => ?_, fun c => ?_, ?_, m, a9, ?_, fun i hi => ?_⟩, r1⟩
  · rw [en]
    unfold on_st
    rw [pm_st0]
  · by_cases q : a = aq_n A
    · rw [q]; exact r1
    · have q2 := a3 a (by omega)
      unfold vs_rw at q2 ⊢
      rw [on_q (by omega), on_q (by omega), on_q (by omega), on_q (by omega), on_q (by omega), on_q (by omega)]
      exact q2
  · rw [on_q (by omega)]; exact a4 a
  · rw [on_q (by omega)]; exact a5 a
  · rw [on_q (by omega)]; exact a6 a (by omega)
  · rw [on_q (by omega)]; exact a7 c
  · rw [on_q (by omega)]; exact a8
  · rw [on_q (by omega)]; exact a10
  · rw [on_q (by omega), en]
    obtain ⟨a, h, k1, k2⟩ := a11 i hi
    exact ⟨a, h, by omega, k2⟩
/-- a change that touches none of what validity speaks of, but for the places named -/
theorem vs_st {q j : Nat} {x : Int32} (hv : vs_A A) (h : (q = 12 ∧ (j = 10 ∨ j = 11)) ∨ (q = 19 ∧ j < aq_n A ∧ (x = 0 ∨ x = 1 ∨ x = 2)) ∨ (q = 20 ∧ (x = 0 ∨ x = 1)) ∨ (q = 21 ∧ -1 ≤ x) ∨ (q = 12 ∧ j = 17 ∧ x = 0)) : vs_A (mj_st A q j x) := by
  obtain ⟨⟨a1, a2⟩, a3, a4, a5, a6, a7, a8, m, a9, a10, a11⟩ := hv
  have en : aq_n (mj_st A q j x) = aq_n A := by unfold aq_n; rw [pm_st1 (by omega)]
  refine ⟨⟨?_, by omega⟩, fun a ha => ?_, fun a => ?_, fun a => ?_, fun a ha => ?_, fun c => ?_, ?_, ?_⟩
  · rw [en, pm_st1 (by omega)]; exact a1
  · have q2 := a3 a (by omega)
    unfold vs_rw at q2 ⊢
    rw [pm_st1 (by omega), pm_st1 (by omega), pm_st1 (by omega), pm_st1 (by omega), pm_st1 (by omega), pm_st1 (by omega)]
    exact q2
  · by_cases u : 19 = q ∧ a = j
    · obtain ⟨u1, u2⟩ := u
      subst u1 u2
      rw [pm_st0]
      rcases h with h | h | h | h | h
      · omega
      · exact h.2.2
      · omega
      · omega
      · omega
    · rw [pm_st1 (by omega)]; exact a4 a
  · by_cases u : 20 = q ∧ a = j
    · obtain ⟨u1, u2⟩ := u
      subst u1 u2
      rw [pm_st0]
      rcases h with h | h | h | h | h
      · omega
      · omega
      · exact h.2
      · omega
      · omega
    · rw [pm_st1 (by omega)]; exact a5 a
  · rw [pm_st1 (by omega)]; exact a6 a (by omega)
  · by_cases u : 21 = q ∧ c = j
    · obtain ⟨u1, u2⟩ := u
      subst u1 u2
      rw [pm_st0]
      rcases h with h | h | h | h | h
      · omega
      · omega
      · omega
      · exact h.2
      · omega
    · rw [pm_st1 (by omega)]; exact a7 c
  · rw [pm_st1 (by omega)]; exact a8
  · by_cases u : q = 12 ∧ j = 17
    · obtain ⟨u1, u2⟩ := u
      subst u1 u2
      rw [pm_st0]
      rcases h with h | h | h | h | h
      · omega
      · omega
      · omega
      · omega
      · exact ⟨0, by decide, h.2.2, fun i hi => absurd hi (Nat.not_lt_zero _)⟩
    · refine ⟨m, a9, ?_, fun i hi => ?_⟩
      · rw [pm_st1 (by omega)]; exact a10
      · rw [pm_st1 (by omega), en]; exact a11 i hi
theorem vs_oa (hv : vs_A A) {m : Nat} (hm : ∀ i, i < m → (aq_fh A i = 0 ∨ aq_fh A i = 1) ∧ aq_fa A i < aq_n A) : ∀ k, k ≤ m → vs_A (oa_ A k)
  | 0, _ => hv
  | k + 1, hk => by
    refine vs_st (vs_oa hv hm k (by omega)) (Or.inr (Or.inl ⟨rfl, by rw [oa_n]; exact (hm k (by omega)).2, ?_⟩))
    rcases (hm k (by omega)).1 with q | q <;> rw [q]
    · exact Or.inr (Or.inl rfl)
    · exact Or.inr (Or.inr rfl)
end
