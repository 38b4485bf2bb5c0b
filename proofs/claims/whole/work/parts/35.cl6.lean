/-! the class's search from size to size; settling -/
section
variable {X : Nat × (Nat → Int32)} {d : Nat} {M A s : mj_M} {cs x : Nat → Nat} {m n c size mo : Nat} {lim : Int32}
def e0_ (A : mj_M) (lim : Int32) (M0 s M : mj_M) : Prop := rc_b A M ∧ rc_L A (aq_E A) M ∧ rc_s s M ∧ M.1 2 12 = s.1 12 13 ∧ (M.1 2 6 = nI (aq_m A) ∧ M.1 2 8 = lim) ∧ (∀ i, i < aq_m A → M.1 6 i = nI (aq_cs A i)) ∧ s.1 12 14 ≤ lim ∧ rb_ A s ∧ fc_ M0 M
theorem rc_of {A' : mj_M} (hb : rb_ A A') (h1 : rc_b A M) (h2 : rc_L A (aq_E A) M) (h3 : rc_s A' M) (h4 : M.1 2 12 = A'.1 12 13) : rc_ A' M := by
  refine ⟨⟨fun a ha j hj => ?_, fun c hc => ?_, ?_, ?_, ?_⟩, ⟨fun c hc => ?_, ?_⟩, h3, h4⟩
  · rw [hb.q (by omega) (by omega)]; exact h1.1 a ha j hj
  · rw [hb.q (by omega) (by omega)]; exact h1.2.1 c hc
  · rw [hb.s (by omega)]; exact h1.2.2.1
  · rw [hb.s (by omega)]; exact h1.2.2.2.1
  · rw [hb.s (by omega)]; exact h1.2.2.2.2
  · rw [rb_E hb]; exact h2.1 c hc
  · rw [rb_E hb, rb_nd hb]; exact h2.2
theorem pk_seek_l {M0 : mj_M} (hv : vs_A A) (hmo : mo ≤ 4) : ∀ j z s M, z + j = mo + 1 → 0 < z → e0_ A lim M0 s M → ∃ M', mj_Ev mj_S0 X mj_P (d + 11) mt_K_seek 22 (mj_up (fun j => [mv_p 2, mv_p 1, mv_i (nI mo), mv_i lim][j]?) 4 (mv_i (nI z))) [] M 0 (mv_R (if (ss_ A (aq_cs A) lim (2 * aq_m A) j z s).1 12 15 = 0 then -1 else (ss_ A (aq_cs A) lim (2 * aq_m A) j z s).1 12 17) M') ∧ e0_ A lim M0 (ss_ A (aq_cs A) lim (2 * aq_m A) j z s) M' := by
  have hcs : ∀ i, i < aq_m A → aq_cs A i < 24 ∧ vs_rw A (aq_cs A i) := fun i hi => by
    have := aq_cs_in hi
    have := hv.1.2
    exact ⟨by omega, hv.2.1 _ (by omega)⟩
  have ex : ∀ z s M, e0_ A lim M0 s M → mj_Ev mj_S0 X mj_P (d + 11) mt_K_seek 65 (mj_up (fun j => [mv_p 2, mv_p 1, mv_i (nI mo), mv_i lim][j]?) 4 (mv_i (nI z))) [] M 0 (mv_R (if s.1 12 15 = 0 then -1 else s.1 12 17) M) := by
    intro z s M h
    have e15 : M.1 2 10 = s.1 12 15 := h.2.2.1.2.1
    have e17 : M.1 2 11 = s.1 12 17 := h.2.2.1.2.2.1
    iterate 2 refine ev_go rfl ?_
    rw [e15]
    refine ev_if rfl (fun h69 => ?_) (fun h69 => ?_)
    · iterate 2 refine ev_go rfl ?_
      refine ev_end rfl ?_
      show some _ = some (mv_R _ M)
      first
        | (rw [if_pos h69]; done)
        | (rw [if_neg h69, ← e17]; done)
    · iterate 2 refine ev_go rfl ?_
      refine ev_end rfl ?_
      show some _ = some (mv_R _ M)
      first
        | (rw [if_pos h69]; done)
        | (rw [if_neg h69, ← e17]; done)
  intro j
  induction j with
  | zero =>
    intro z s M hz h0 h
    refine ⟨M, ?_, h⟩
    have e1 := ex z s M h
    iterate 2 refine ev_go rfl ?_
    refine ev_if rfl (fun h25 => ?_) (fun h25 => ?_)
    · exact e1
    · exact absurd (nI_lt (show mo < z by omega) (by omega)) h25
  | succ j ih =>
    intro z s M hz h0 h
    have e13 : M.1 2 12 = s.1 12 13 := h.2.2.2.1
    have e15 : M.1 2 10 = s.1 12 15 := h.2.2.1.2.1
    by_cases hx : s.1 12 13 = 0 ∨ ¬ s.1 12 15 = 0
    · have he : ss_ A (aq_cs A) lim (2 * aq_m A) (j + 1) z s = s := if_pos hx
      rw [he]
      refine ⟨M, ?_, h⟩
      have e1 := ex z s M h
      iterate 2 refine ev_go rfl ?_
      refine ev_if rfl (fun h25 => ?_) (fun h25 => ?_)
      · exact e1
      · iterate 2 refine ev_go rfl ?_
        refine ev_if rfl (fun h32 => ?_) (fun h32 => ?_)
        · exact e1
        · iterate 2 refine ev_go rfl ?_
          refine ev_if rfl (fun h39 => ?_) (fun h39 => ?_)
          · rw [e13] at h32
            rw [e15] at h39
            rcases hx with q | q
            · exact absurd q h32
            · exact absurd h39 q
          · exact e1
    · have k13 : ¬ s.1 12 13 = 0 := fun q => hx (Or.inl q)
      have k15 : s.1 12 15 = 0 := by
        by_cases q : s.1 12 15 = 0
        · exact q
        · exact absurd (Or.inr q) hx
      have he : ss_ A (aq_cs A) lim (2 * aq_m A) (j + 1) z s = ss_ A (aq_cs A) lim (2 * aq_m A) j (z + 1) (mj_st (se_ A (aq_cs A) lim (2 * aq_m A) z 0 0 (fun _ => 0) s).2 12 13 (if (se_ A (aq_cs A) lim (2 * aq_m A) z 0 0 (fun _ => 0) s).1 = true then 1 else 0)) := if_neg hx
      rw [he]
      have hp : ∀ a, pr_ a = 30 + a := pr_e
      obtain ⟨a1, a2, a3, a4, ⟨a5, a6⟩, a7, a8, a9, a10⟩ := h
      have ek : ek_ A (aq_cs A) (aq_m A) lim z (fun _ => 0) 0 s (mj_st M 2 7 (nI z)) := by
        refine ⟨⟨fun a ha j hj => ?_, fun c hc => ?_, ?_, ?_, ?_⟩, ⟨fun c hc => ?_, ?_⟩, a3.M (fun q j hq => pm_st1 (by omega)), ⟨?_, pm_st0, ?_⟩, fun i hi => ?_, fun i hi => absurd hi (Nat.not_lt_zero _), a8⟩
        · rw [pm_st1 (by rw [hp]; omega)]; exact a1.1 a ha j hj
        · rw [pm_st1 (by omega)]; exact a1.2.1 c hc
        · rw [pm_st1 (by omega)]; exact a1.2.2.1
        · rw [pm_st1 (by omega)]; exact a1.2.2.2.1
        · rw [pm_st1 (by omega)]; exact a1.2.2.2.2
        · rw [pm_st1 (by omega)]; exact a2.1 c hc
        · rw [pm_st1 (by omega)]; exact a2.2
        · rw [pm_st1 (by omega)]; exact a5
        · rw [pm_st1 (by omega)]; exact a6
        · rw [pm_st1 (by omega)]; exact a7 i hi
      obtain ⟨M1, g1, g2, g3⟩ := pk_extend (X := X) (d := d + (8 - 2 * z)) (lim := lim) (show z ≤ 4 by omega) (aq_m_le A) hcs hv.2.2.2.2.2.1 z 0 0 (fun _ => 0) s _ (by omega) (by omega) ek
      rw [show d + (8 - 2 * z) + 2 * z + 2 = d + 10 by omega, show 2 * 0 = 0 from rfl] at g1
      rw [show 2 * 0 = 0 from rfl] at g2
      obtain ⟨b1, b2, b3, ⟨b4, b5, b6⟩, b7, b8, b9⟩ := g2
      have ok3 : e0_ A lim M0 (mj_st (se_ A (aq_cs A) lim (2 * aq_m A) z 0 0 (fun _ => 0) s).2 12 13 (if (se_ A (aq_cs A) lim (2 * aq_m A) z 0 0 (fun _ => 0) s).1 = true then 1 else 0)) (mj_st M1 2 12 (if (se_ A (aq_cs A) lim (2 * aq_m A) z 0 0 (fun _ => 0) s).1 = true then 1 else 0)) := by
        refine ⟨⟨fun a ha j hj => ?_, fun c hc => ?_, ?_, ?_, ?_⟩, ⟨fun c hc => ?_, ?_⟩, (b3.A (fun q j hq => pm_st1 (by omega))).M (fun q j hq => pm_st1 (by omega)), by rw [pm_st0, pm_st0], ⟨?_, ?_⟩, fun i hi => ?_, ?_, (se_rb a9).st (by omega), (a10.trans (((fc_.refl M).st (by omega)).trans g3)).st (by omega)⟩
        · rw [pm_st1 (by rw [hp]; omega)]; exact b1.1 a ha j hj
        · rw [pm_st1 (by omega)]; exact b1.2.1 c hc
        · rw [pm_st1 (by omega)]; exact b1.2.2.1
        · rw [pm_st1 (by omega)]; exact b1.2.2.2.1
        · rw [pm_st1 (by omega)]; exact b1.2.2.2.2
        · rw [pm_st1 (by omega)]; exact b2.1 c hc
        · rw [pm_st1 (by omega)]; exact b2.2
        · rw [pm_st1 (by omega)]; exact b4
        · rw [pm_st1 (by omega)]; exact b6
        · rw [pm_st1 (by omega)]; exact b7 i hi
        · rw [pm_st1 (by omega)]; exact b9
      obtain ⟨M', e1, e2⟩ := ih (z + 1) _ _ (by omega) (by omega) ok3
      refine ⟨M', ?_, e2⟩
      iterate 2 refine ev_go rfl ?_
      refine ev_if rfl (fun h25 => ?_) (fun h25 => ?_)
      · first
          | exact absurd h25 (nI_nlt (show z ≤ mo by omega) (by omega))
          | exact absurd (e13.symm.trans h32) k13
          | exact absurd (e15.trans k15) h39
      · iterate 2 refine ev_go rfl ?_
        refine ev_if rfl (fun h32 => ?_) (fun h32 => ?_)
        · first
            | exact absurd h25 (nI_nlt (show z ≤ mo by omega) (by omega))
            | exact absurd (e13.symm.trans h32) k13
            | exact absurd (e15.trans k15) h39
        · iterate 2 refine ev_go rfl ?_
          refine ev_if rfl (fun h39 => ?_) (fun h39 => ?_)
          · iterate 8 refine ev_go rfl ?_
            refine ev_callr rfl rfl rfl g1 ?_
            refine ev_ok (Or.inr (if01 _)) rfl ?_
            iterate 2 refine ev_go rfl ?_
            refine ev_lo ?_ e1
            rw [nI_1]
            exact mj_upo
          · first
              | exact absurd h25 (nI_nlt (show z ≤ mo by omega) (by omega))
              | exact absurd (e13.symm.trans h32) k13
              | exact absurd (e15.trans k15) h39
theorem pk_seek (hv : vs_A A) (h : rc_ A M) (h0 : 0 < mo) (hmo : mo ≤ 4) (hl : 0 ≤ lim) : ∃ M', mj_C0 X (d + 11) mt_K_seek [mv_p 2, mv_p 1, mv_i (nI mo), mv_i lim] M (mv_R (sv_ A lim mo) M') ∧ rc_ (sr_ A lim mo) M' ∧ fc_ M M' := by
  obtain ⟨b1, b2, b3⟩ := rc_bg (l := lim) h
  obtain ⟨g1, g2, g3, g4, g5⟩ := bg_s (M := M) (l := lim)
  obtain ⟨o1, o2, o3, o4⟩ := ob_s (A := A)
  have fb : fc_ M (pm_bg M lim) := fun q j u1 u2 => bg_q (by omega)
  have ed : (pm_bg M lim).1 1 4 = aq_nd A (aq_E A) := b2.2
  by_cases hz : aq_nd A (aq_E A) = 0
  · have er : sr_ A lim mo = ob_ A := if_pos hz
    have ev : sv_ A lim mo = 0 := if_pos hz
    rw [er, ev]
    refine ⟨pm_bg M lim, ?_, rc_of (oz_rb A 24) b1 b2 b3 (g5.trans o4.symm), fb⟩
    iterate 2 refine ev_go rfl ?_
    refine ev_callv rfl rfl rfl pk_begin ?_
    iterate 2 refine ev_go rfl ?_
    refine ev_if rfl (fun h9 => ?_) (fun h9 => ?_)
    · refine ev_go rfl ?_
      refine ev_end rfl ?_
      rfl
    · exact absurd (ed.trans hz) h9
  · have er : sr_ A lim mo = ss_ A (aq_cs A) lim (2 * aq_m A) mo 1 (ob_ A) := if_neg hz
    have ev : sv_ A lim mo = if (sr_ A lim mo).1 12 15 = 0 then -1 else (sr_ A lim mo).1 12 17 := if_neg hz
    rw [ev, er]
    obtain ⟨M1, t1, t2, t3, t4⟩ := pk_gather (X := X) (d := d + 7) (M := pm_bg M lim) hv b1
    have hp : ∀ a, pr_ a = 30 + a := pr_e
    have ok3 : e0_ A lim M (ob_ A) M1 := by
      refine ⟨⟨fun a ha j hj => ?_, fun c hc => ?_, ?_, ?_, ?_⟩, ⟨fun c hc => ?_, ?_⟩, b3.M (fun q j hq => t4 q j (by omega)), ?_, ⟨t2, ?_⟩, t3, ?_, oz_rb A 24, fb.trans (fun q j u1 u2 => t4 q j (by omega))⟩
      · rw [t4 _ _ (by rw [hp]; omega)]; exact b1.1 a ha j hj
      · rw [t4 _ _ (by omega)]; exact b1.2.1 c hc
      · rw [t4 _ _ (by omega)]; exact b1.2.2.1
      · rw [t4 _ _ (by omega)]; exact b1.2.2.2.1
      · rw [t4 _ _ (by omega)]; exact b1.2.2.2.2
      · rw [t4 _ _ (by omega)]; exact b2.1 c hc
      · rw [t4 _ _ (by omega)]; exact b2.2
      · rw [t4 _ _ (by omega)]; exact g5.trans o4.symm
      · rw [t4 _ _ (by omega)]; exact g1
      · rw [o3]; exact hl
    obtain ⟨M', e1, e2⟩ := pk_seek_l (X := X) (d := d) (lim := lim) (mo := mo) hv hmo mo 1 (ob_ A) M1 (by omega) (by omega) ok3
    refine ⟨M', ?_, rc_of e2.2.2.2.2.2.2.2.1 e2.1 e2.2.1 e2.2.2.1 e2.2.2.2.1, e2.2.2.2.2.2.2.2.2⟩
    iterate 2 refine ev_go rfl ?_
    refine ev_callv rfl rfl rfl pk_begin ?_
    iterate 2 refine ev_go rfl ?_
    refine ev_if rfl (fun h9 => ?_) (fun h9 => ?_)
    · exact absurd (ed.symm.trans h9) hz
    · iterate 2 refine ev_go rfl ?_
      refine ev_callv rfl rfl rfl t1 ?_
      iterate 2 refine ev_go rfl ?_
      exact e1
end
