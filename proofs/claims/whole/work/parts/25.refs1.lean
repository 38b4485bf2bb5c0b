/-! the search: what is left over, in the reference -/
/-- the part of the state that a search leaves alone -/
def rb_ (A M : mj_M) : Prop := ∀ q j, ((13 ≤ q ∧ q ≤ 21) ∨ (q = 12 ∧ (j = 1 ∨ j = 10 ∨ j = 11))) → M.1 q j = A.1 q j
theorem rm_.rb {A M : mj_M} (h : rm_ A M) : rb_ A M := fun q j hk => h q j (by unfold aq_k; omega)
theorem rb_.refl (A : mj_M) : rb_ A A := fun _ _ _ => rfl
theorem rb_.trans {A M N : mj_M} (h : rb_ A M) (h' : rb_ M N) : rb_ A N := fun q j hk => (h' q j hk).trans (h q j hk)
theorem rb_.q {A M : mj_M} (h : rb_ A M) {q j : Nat} (h1 : 13 ≤ q) (h2 : q ≤ 21) : M.1 q j = A.1 q j := h q j (Or.inl ⟨h1, h2⟩)
theorem rb_.s {A M : mj_M} (h : rb_ A M) {j : Nat} (h1 : j = 1 ∨ j = 10 ∨ j = 11) : M.1 12 j = A.1 12 j := h 12 j (Or.inr ⟨rfl, h1⟩)
section
variable {A M : mj_M}
theorem rb_n (h : rb_ A M) : aq_n M = aq_n A := by unfold aq_n; rw [h.s (by decide)]
theorem rb_ad (h : rb_ A M) (a : Nat) (c : Int32) : aq_ad M a c = aq_ad A a c := by
  unfold aq_ad
  simp only [h.q (show 13 ≤ 13 by decide) (by decide), h.q (show 13 ≤ 14 by decide) (by decide), h.q (show 13 ≤ 15 by decide) (by decide), h.q (show 13 ≤ 16 by decide) (by decide), h.q (show 13 ≤ 17 by decide) (by decide)]
theorem rb_tm (h : rb_ A M) (a : Nat) : aq_tm M a = aq_tm A a := by
  unfold aq_tm
  rw [h.q (by decide) (by decide)]
theorem rb_E (h : rb_ A M) : aq_E M = aq_E A := by
  funext c
  unfold aq_E aq_ex
  rw [rb_n h]
  exact sm_congr (fun a _ => by simp only [rb_tm h, rb_ad h])
theorem rb_df (h : rb_ A M) (L : Nat → Int32) (c : Nat) : aq_df M L c = aq_df A L c := by
  unfold aq_df
  rw [h.q (by decide) (by decide)]
theorem rb_w (h : rb_ A M) (L : Nat → Int32) : aq_w M L = aq_w A L := by
  funext c
  unfold aq_w
  rw [rb_df h]
theorem rb_nd (h : rb_ A M) (L : Nat → Int32) : aq_nd M L = aq_nd A L := by
  unfold aq_nd
  rw [rb_w h]
theorem rb_c1 (h : rb_ A M) (a : Nat) : aq_c1 M a = aq_c1 A a := by
  unfold aq_c1
  rw [h.q (show 13 ≤ 14 by decide) (by decide), h.q (show 13 ≤ 16 by decide) (by decide)]
theorem rb_c2 (h : rb_ A M) (a : Nat) : aq_c2 M a = aq_c2 A a := by
  unfold aq_c2
  rw [h.q (show 13 ≤ 15 by decide) (by decide), h.q (show 13 ≤ 16 by decide) (by decide)]
theorem rb_ca (h : rb_ A M) (a : Nat) : aq_ca M a = aq_ca A a := by
  unfold aq_ca
  rw [rb_c1 h, rb_c2 h, h.s (show 10 = 1 ∨ 10 = 10 ∨ 10 = 11 by decide), h.s (show 11 = 1 ∨ 11 = 10 ∨ 11 = 11 by decide)]
  simp only [h.q (show 13 ≤ 13 by decide) (by decide), h.q (show 13 ≤ 18 by decide) (by decide), h.q (show 13 ≤ 19 by decide) (by decide), h.q (show 13 ≤ 20 by decide) (by decide), h.q (show 13 ≤ 21 by decide) (by decide)]
theorem rb_rw (h : rb_ A M) (a : Nat) : vs_rw M a ↔ vs_rw A a := by
  unfold vs_rw
  simp only [h.q (show 13 ≤ 13 by decide) (by decide), h.q (show 13 ≤ 14 by decide) (by decide), h.q (show 13 ≤ 15 by decide) (by decide), h.q (show 13 ≤ 16 by decide) (by decide), h.q (show 13 ≤ 17 by decide) (by decide), h.q (show 13 ≤ 18 by decide) (by decide)]
end
/-- the reference's differences where L is expected -/
def rl_ (A : mj_M) (L : Nat → Int32) (M : mj_M) : Prop := (∀ c, c < 60 → M.1 24 c = aq_df A L c) ∧ M.1 12 20 = aq_nd A L
def fs_ (M M' : mj_M) : Prop := M'.2 = M.2 ∧ ∀ q j, ¬ (q = 24 ∨ (q = 12 ∧ j = 20)) → M'.1 q j = M.1 q j
theorem fs_.refl (M : mj_M) : fs_ M M := ⟨rfl, fun _ _ _ => rfl⟩
theorem fs_.trans {M M' M'' : mj_M} (h : fs_ M M') (h' : fs_ M' M'') : fs_ M M'' := ⟨h'.1.trans h.1, fun q j hq => (h'.2 q j hq).trans (h.2 q j hq)⟩
theorem fs_.st {M M' : mj_M} (h : fs_ M M') {q j : Nat} {x : Int32} (h1 : q = 24 ∨ (q = 12 ∧ j = 20)) : fs_ M (mj_st M' q j x) := ⟨h.1, fun q' j' hq => by rw [pm_st1 (by omega)]; exact h.2 q' j' hq⟩
theorem fs_.rb {A M M' : mj_M} (h : fs_ M M') (hb : rb_ A M) : rb_ A M' := fun q j hk => by rw [h.2 q j (by omega)]; exact hb q j hk
theorem fs_.rm {A M M' : mj_M} (h : fs_ M M') (hb : rm_ A M) : rm_ A M' := fun q j hk => by rw [h.2 q j (by unfold aq_k at hk; omega)]; exact hb q j hk
theorem fs_.fm {M M' : mj_M} (h : fs_ M M') : fm_ M M' := ⟨h.1, fun q j hq => h.2 q j (by omega)⟩
theorem aq_nd_c {A : mj_M} {L L' : Nat → Int32} (h : ∀ c, c < 60 → L c = L' c) : aq_nd A L = aq_nd A L' := sm_congr (fun c hc => by unfold aq_w aq_df; rw [h c hc])
theorem rl_.congr {A M : mj_M} {L L' : Nat → Int32} (h : rl_ A L M) (e : ∀ c, c < 60 → L c = L' c) : rl_ A L' M := ⟨fun c hc => by rw [h.1 c hc]; unfold aq_df; rw [e c hc], by rw [h.2, aq_nd_c e]⟩
def aq_sb (L : Nat → Int32) (c : Nat) (v : Int32) : Nat → Int32 := fun z => if z = c then L z - v else L z
def pm_ad1 (M : mj_M) (c : Nat) : mj_M := if M.1 24 c = 0 then M else mj_st M 12 20 (M.1 12 20 - 1)
def pm_ad2 (M : mj_M) (c : Nat) (v : Int32) : mj_M := mj_st (pm_ad1 M c) 24 c (M.1 24 c + v)
def pm_ad (M : mj_M) (c : Nat) (v : Int32) : mj_M := if M.1 21 c < 0 then M else if M.1 24 c + v = 0 then pm_ad2 M c v else mj_st (pm_ad2 M c v) 12 20 ((pm_ad2 M c v).1 12 20 + 1)
theorem aq_nd_one {A : mj_M} {L : Nat → Int32} {c : Nat} {v : Int32} (hc : c < 60) : aq_nd A (aq_sb L c v) = aq_nd A L + (aq_w A (aq_sb L c v) c - aq_w A L c) := by
  have h := sm_one (f := aq_w A L) (g := aq_w A (aq_sb L c v)) (c := c) (fun k hk => by unfold aq_w aq_df aq_sb; rw [if_neg hk]) 60
  rw [if_pos hc] at h
  exact h
theorem fs_ad (M : mj_M) (c : Nat) (v : Int32) : fs_ M (pm_ad M c v) := by
  unfold pm_ad pm_ad2 pm_ad1
  split
  · exact fs_.refl M
  · split
    · split
      · exact (fs_.refl M).st (by omega)
      · exact ((fs_.refl M).st (by omega)).st (by omega)
    · split
      · exact ((fs_.refl M).st (by omega)).st (by omega)
      · exact (((fs_.refl M).st (by omega)).st (by omega)).st (by omega)
theorem rl_ad {A M : mj_M} {L : Nat → Int32} {c : Nat} {v : Int32} (hc : c < 60) (hb : rb_ A M) (h : rl_ A L M) : rl_ A (aq_sb L c v) (pm_ad M c v) := by
  have e21 : M.1 21 c = A.1 21 c := hb.q (by decide) (by decide)
  obtain ⟨h1, h2⟩ := h
  have hn := aq_nd_one (A := A) (L := L) (c := c) (v := v) hc
  by_cases hz : A.1 21 c < 0
  · have e0 : pm_ad M c v = M := by unfold pm_ad; rw [e21, if_pos hz]
    rw [e0]
    have ew : ∀ L' : Nat → Int32, aq_df A L' c = 0 := fun L' => by unfold aq_df; rw [if_pos hz]
    refine ⟨fun z hz' => ?_, ?_⟩
    · rw [h1 z hz']
      by_cases hzc : z = c
      · subst hzc
        rw [ew, ew]
      · unfold aq_df aq_sb
        rw [if_neg hzc]
    · rw [hn, h2]
      unfold aq_w
      rw [ew, ew]
      grind
  · have d1 : M.1 24 c = A.1 21 c - L c := by rw [h1 c hc]; unfold aq_df; rw [if_neg hz]
    have dd : aq_df A (aq_sb L c v) c = M.1 24 c + v := by
      unfold aq_df aq_sb
      rw [if_neg hz, if_pos rfl, d1]
      grind
    have dl : aq_df A L c = M.1 24 c := (h1 c hc).symm
    have p24 : ∀ z, (pm_ad M c v).1 24 z = if z = c then M.1 24 c + v else M.1 24 z := by
      intro z
      have k2 : (pm_ad2 M c v).1 24 z = if z = c then M.1 24 c + v else M.1 24 z := by
        unfold pm_ad2
        by_cases hzc : z = c
        · subst hzc
          rw [pm_st0, if_pos rfl]
        · rw [pm_st1 (Or.inr hzc), if_neg hzc]
          unfold pm_ad1
          split
          · rfl
          · rw [pm_st1 (by omega)]
      unfold pm_ad
      rw [e21, if_neg hz]
      split
      · exact k2
      · rw [pm_st1 (by omega)]
        exact k2
    have p20 : (pm_ad M c v).1 12 20 = M.1 12 20 + ((if M.1 24 c + v = 0 then 0 else 1) - (if M.1 24 c = 0 then 0 else 1)) := by
      have k2 : (pm_ad2 M c v).1 12 20 = M.1 12 20 - (if M.1 24 c = 0 then 0 else 1) := by
        unfold pm_ad2 pm_ad1
        rw [pm_st1 (by omega)]
        split
        · grind
        · rw [pm_st0]
      unfold pm_ad
      rw [e21, if_neg hz]
      by_cases hv : M.1 24 c + v = 0
      · rw [if_pos hv, if_pos hv, k2]
        grind
      · rw [if_neg hv, if_neg hv, pm_st0, k2]
        grind
    refine ⟨fun z hz' => ?_, ?_⟩
    · rw [p24]
      by_cases hzc : z = c
      · subst hzc
        rw [if_pos rfl, dd]
      · rw [if_neg hzc, h1 z hz']
        unfold aq_df aq_sb
        rw [if_neg hzc]
    · rw [p20, hn, h2]
      unfold aq_w
      rw [dd, dl]
section
variable {X : Nat × (Nat → Int32)} {d : Nat} {M A : mj_M} {L : Nat → Int32}
theorem pm_add {c : Nat} {v : Int32} (hc : c < 60) : mj_C0 X d mt_M_add [mv_p 12, mv_i (nI c), mv_i v] M (mv_V (pm_ad M c v)) := by
  have h1 : mj_in (nI c) 60 := nI_in hc (by decide)
  have h2 : (nI c).toNatClampNeg = c := nI_clamp (by omega)
  iterate 3 refine ev_go rfl ?_
  refine ev_ok h1 rfl ?_
  rw [h2]
  refine ev_if rfl (fun h6 => ?_) (fun h6 => ?_)
  · iterate 3 refine ev_go rfl ?_
    refine ev_ok h1 rfl ?_
    rw [h2]
    refine ev_if rfl (fun h16 => ?_) (fun h16 => ?_)
    · iterate 6 refine ev_go rfl ?_
      refine ev_ok h1 rfl ?_
      rw [h2]
      iterate 2 refine ev_go rfl ?_
      refine ev_ok h1 rfl ?_
      rw [h2]
      iterate 3 refine ev_go rfl ?_
      refine ev_ok h1 rfl ?_
      rw [h2]
      refine ev_if rfl (fun h49 => ?_) (fun h49 => ?_)
      · refine ev_end rfl ?_
        show some (mv_V _) = some (mv_V _)
        unfold pm_ad pm_ad2 pm_ad1
        have g6 : ¬ M.1 21 c < 0 := by grind
        first
          | (have g16 : M.1 24 c = 0 := h16
             have g49 : M.1 24 c + v = 0 := by
               have q := h49
               simp only [pm_st0] at q
               exact q
             rw [if_neg g6, if_pos g49, if_pos g16])
          | (have g16 : M.1 24 c = 0 := h16
             have g49 : ¬ M.1 24 c + v = 0 := by
               have q := h49
               simp only [pm_st0] at q
               exact q
             rw [if_neg g6, if_neg g49, if_pos g16])
          | (have g16 : ¬ M.1 24 c = 0 := h16
             have g49 : M.1 24 c + v = 0 := by
               have q := h49
               simp only [pm_st0] at q
               exact q
             rw [if_neg g6, if_pos g49, if_neg g16]
             rfl)
          | (have g16 : ¬ M.1 24 c = 0 := h16
             have g49 : ¬ M.1 24 c + v = 0 := by
               have q := h49
               simp only [pm_st0] at q
               exact q
             rw [if_neg g6, if_neg g49, if_neg g16]
             rfl)
      · iterate 6 refine ev_go rfl ?_
        refine ev_end rfl ?_
        show some (mv_V _) = some (mv_V _)
        unfold pm_ad pm_ad2 pm_ad1
        have g6 : ¬ M.1 21 c < 0 := by grind
        first
          | (have g16 : M.1 24 c = 0 := h16
             have g49 : M.1 24 c + v = 0 := by
               have q := h49
               simp only [pm_st0] at q
               exact q
             rw [if_neg g6, if_pos g49, if_pos g16])
          | (have g16 : M.1 24 c = 0 := h16
             have g49 : ¬ M.1 24 c + v = 0 := by
               have q := h49
               simp only [pm_st0] at q
               exact q
             rw [if_neg g6, if_neg g49, if_pos g16])
          | (have g16 : ¬ M.1 24 c = 0 := h16
             have g49 : M.1 24 c + v = 0 := by
               have q := h49
               simp only [pm_st0] at q
               exact q
             rw [if_neg g6, if_pos g49, if_neg g16]
             rfl)
          | (have g16 : ¬ M.1 24 c = 0 := h16
             have g49 : ¬ M.1 24 c + v = 0 := by
               have q := h49
               simp only [pm_st0] at q
               exact q
             rw [if_neg g6, if_neg g49, if_neg g16]
             rfl)
    · iterate 12 refine ev_go rfl ?_
      refine ev_ok h1 rfl ?_
      rw [h2]
      iterate 2 refine ev_go rfl ?_
      refine ev_ok h1 rfl ?_
      rw [h2]
      iterate 3 refine ev_go rfl ?_
      refine ev_ok h1 rfl ?_
      rw [h2]
      refine ev_if rfl (fun h49 => ?_) (fun h49 => ?_)
      · refine ev_end rfl ?_
        show some (mv_V _) = some (mv_V _)
        unfold pm_ad pm_ad2 pm_ad1
        have g6 : ¬ M.1 21 c < 0 := by grind
        first
          | (have g16 : M.1 24 c = 0 := h16
             have g49 : M.1 24 c + v = 0 := by
               have q := h49
               simp only [pm_st0] at q
               exact q
             rw [if_neg g6, if_pos g49, if_pos g16])
          | (have g16 : M.1 24 c = 0 := h16
             have g49 : ¬ M.1 24 c + v = 0 := by
               have q := h49
               simp only [pm_st0] at q
               exact q
             rw [if_neg g6, if_neg g49, if_pos g16])
          | (have g16 : ¬ M.1 24 c = 0 := h16
             have g49 : M.1 24 c + v = 0 := by
               have q := h49
               simp only [pm_st0] at q
               exact q
             rw [if_neg g6, if_pos g49, if_neg g16]
             rfl)
          | (have g16 : ¬ M.1 24 c = 0 := h16
             have g49 : ¬ M.1 24 c + v = 0 := by
               have q := h49
               simp only [pm_st0] at q
               exact q
             rw [if_neg g6, if_neg g49, if_neg g16]
             rfl)
      · iterate 6 refine ev_go rfl ?_
        refine ev_end rfl ?_
        show some (mv_V _) = some (mv_V _)
        unfold pm_ad pm_ad2 pm_ad1
        have g6 : ¬ M.1 21 c < 0 := by grind
        first
          | (have g16 : M.1 24 c = 0 := h16
             have g49 : M.1 24 c + v = 0 := by
               have q := h49
               simp only [pm_st0] at q
               exact q
             rw [if_neg g6, if_pos g49, if_pos g16])
          | (have g16 : M.1 24 c = 0 := h16
             have g49 : ¬ M.1 24 c + v = 0 := by
               have q := h49
               simp only [pm_st0] at q
               exact q
             rw [if_neg g6, if_neg g49, if_pos g16])
          | (have g16 : ¬ M.1 24 c = 0 := h16
             have g49 : M.1 24 c + v = 0 := by
               have q := h49
               simp only [pm_st0] at q
               exact q
             rw [if_neg g6, if_pos g49, if_neg g16]
             rfl)
          | (have g16 : ¬ M.1 24 c = 0 := h16
             have g49 : ¬ M.1 24 c + v = 0 := by
               have q := h49
               simp only [pm_st0] at q
               exact q
             rw [if_neg g6, if_neg g49, if_neg g16]
             rfl)
  · refine ev_end rfl ?_
    show some (mv_V _) = some (mv_V _)
    unfold pm_ad
    rw [if_pos (show M.1 21 c < 0 by grind)]
theorem aq_ad0 {a z : Nat} (hr : vs_rw A a) (hz : z < 60) (h1 : z ≠ aq_c1 A a) (h2 : A.1 13 a = 2 → z ≠ aq_c2 A a) : aq_ad A a (nI z) = 0 := by
  unfold aq_ad
  have l1 := hr.c1.2
  rw [hr.c1.1, if_neg, if_neg]
  · rw [nI_eq (by omega) (by omega)]
    exact h1
  · rintro ⟨h3, h4⟩
    have l2 := (hr.c2 h3).2.1
    rw [(hr.c2 h3).1, nI_eq (by omega) (by omega)] at h4
    exact h2 h3 h4
theorem pm_apply_t {a : Nat} {x : mj_V} {s b : Int32} (ha : a < 24) (hr : vs_rw A a) (hb : rb_ A M) (h : rl_ A L M) : ∃ M', mj_Ev mj_S0 X mj_P (d + 1) mt_M_apply 20 (mj_up (fun j => [mv_p 12, x, mv_i s][j]?) 3 (mv_i (nI a))) [mv_i b] M 0 (mv_V M') ∧ rl_ A (fun z => L z - b * s * aq_ad A a (nI z)) M' ∧ fs_ M M' := by
  have h1 : mj_in (nI a) 24 := nI_in ha (by decide)
  have h2 : (nI a).toNatClampNeg = a := nI_clamp (by omega)
  have hrM : vs_rw M a := (rb_rw hb a).2 hr
  obtain ⟨e1, l1⟩ := hrM.c1
  rw [rb_c1 hb] at e1 l1
  have r1 := rl_ad (v := b * s * aq_ad A a (nI (aq_c1 A a))) l1 hb h
  have f1 := fs_ad M (aq_c1 A a) (b * s * aq_ad A a (nI (aq_c1 A a)))
  by_cases hk : A.1 13 a = 2
  · obtain ⟨e2, l2, n2⟩ := hrM.c2 (by rw [hb.q (by decide) (by decide)]; exact hk)
    rw [rb_c2 hb] at e2 l2 n2
    rw [rb_c1 hb] at n2
    refine ⟨pm_ad (pm_ad M (aq_c1 A a) (b * s * aq_ad A a (nI (aq_c1 A a)))) (aq_c2 A a) (b * s * aq_ad A a (nI (aq_c2 A a))), ?_, ?_, f1.trans (fs_ad _ _ _)⟩
    · iterate 7 refine ev_go rfl ?_
      refine ev_ok h1 rfl ?_
      rw [h2]
      iterate 4 refine ev_go rfl ?_
      refine ev_ok h1 rfl ?_
      refine ev_go rfl ?_
      rw [h2]
      show mj_Ev _ _ _ _ _ _ _ [mv_i (6 * M.1 14 a + M.1 16 a)] _ _ _
      rw [e1]
      iterate 7 refine ev_go rfl ?_
      refine ev_callr rfl rfl rfl (pm_adds ha) ?_
      rw [rb_ad hb]
      refine ev_go rfl ?_
      refine ev_callv rfl rfl rfl (pm_add l1) ?_
      iterate 3 refine ev_go rfl ?_
      refine ev_ok h1 rfl ?_
      rw [h2]
      rw [f1.2 13 a (by omega), hb.q (by decide) (by decide)]
      refine ev_go rfl ?_
      refine ev_if rfl (fun h65 => ?_) (fun h65 => ?_)
      · iterate 4 refine ev_go rfl ?_
        refine ev_ok h1 rfl ?_
        rw [h2]
        rw [f1.2 15 a (by omega)]
        iterate 4 refine ev_go rfl ?_
        refine ev_ok h1 rfl ?_
        refine ev_go rfl ?_
        rw [h2]
        rw [f1.2 16 a (by omega)]
        show mj_Ev _ _ _ _ _ _ _ [mv_i (6 * M.1 15 a + M.1 16 a)] _ _ _
        rw [e2]
        iterate 7 refine ev_go rfl ?_
        refine ev_callr rfl rfl rfl (pm_adds ha) ?_
        rw [rb_ad (f1.rb hb)]
        refine ev_go rfl ?_
        refine ev_callv rfl rfl rfl (pm_add l2) ?_
        first
          | exact absurd hk h65
          | (refine ev_end rfl ?_
             rfl)
      · first
          | exact absurd hk h65
          | (refine ev_end rfl ?_
             rfl)
    · refine (rl_ad l2 (f1.rb hb) r1).congr (fun z hz => ?_)
      unfold aq_sb
      by_cases z1 : z = aq_c1 A a
      · rw [if_neg (by omega), if_pos z1, z1]
      · rw [if_neg z1]
        by_cases z2 : z = aq_c2 A a
        · rw [if_pos z2, z2]
        · rw [if_neg z2, aq_ad0 hr hz z1 (fun _ => z2)]
          grind
  · refine ⟨pm_ad M (aq_c1 A a) (b * s * aq_ad A a (nI (aq_c1 A a))), ?_, ?_, f1⟩
    · iterate 7 refine ev_go rfl ?_
      refine ev_ok h1 rfl ?_
      rw [h2]
      iterate 4 refine ev_go rfl ?_
      refine ev_ok h1 rfl ?_
      refine ev_go rfl ?_
      rw [h2]
      show mj_Ev _ _ _ _ _ _ _ [mv_i (6 * M.1 14 a + M.1 16 a)] _ _ _
      rw [e1]
      iterate 7 refine ev_go rfl ?_
      refine ev_callr rfl rfl rfl (pm_adds ha) ?_
      rw [rb_ad hb]
      refine ev_go rfl ?_
      refine ev_callv rfl rfl rfl (pm_add l1) ?_
      iterate 3 refine ev_go rfl ?_
      refine ev_ok h1 rfl ?_
      rw [h2]
      rw [f1.2 13 a (by omega), hb.q (by decide) (by decide)]
      refine ev_go rfl ?_
      refine ev_if rfl (fun h65 => ?_) (fun h65 => ?_)
      · exact absurd h65 hk
      · refine ev_end rfl ?_
        rfl
    · refine r1.congr (fun z hz => ?_)
      unfold aq_sb
      by_cases z1 : z = aq_c1 A a
      · rw [if_pos z1, z1]
      · rw [if_neg z1, aq_ad0 hr hz z1 (fun q => absurd q hk)]
        grind
/-- 1 for an act left out, -1 for one done twice -/
def aq_sg (x : Nat) : Int32 := if x % 2 = 0 then 1 else -1
theorem pm_apply {x a : Nat} {s : Int32} (hx : x < 48) (hc : M.1 25 (x / 2) = nI a) (ha : a < 24) (hr : vs_rw A a) (hb : rb_ A M) (h : rl_ A L M) : ∃ M', mj_C0 X (d + 1) mt_M_apply [mv_p 12, mv_i (nI x), mv_i s] M (mv_V M') ∧ rl_ A (fun z => L z - aq_sg x * s * aq_ad A a (nI z)) M' ∧ fs_ M M' := by
  obtain ⟨M', e, r, f⟩ := pm_apply_t (X := X) (d := d) (x := mv_i (nI x)) (s := s) (b := aq_sg x) ha hr hb h
  refine ⟨M', ?_, r, f⟩
  have e1 : nI x / 2 = nI (x / 2) := pk_div (d := 2) (by omega) (by decide) (by decide)
  have e2 : nI x - nI x / 2 * 2 = nI (x % 2) := pk_rem (d := 2) (by omega) (by decide) (by decide)
  have i1 : mj_in (nI (x / 2)) 24 := nI_in (by omega) (by decide)
  iterate 5 refine ev_go rfl ?_
  show mj_Ev _ _ _ _ _ _ _ [mv_i (nI x / 2), _] _ _ _
  rw [e1]
  refine ev_ok i1 rfl ?_
  rw [nI_clamp (by omega), hc]
  iterate 4 refine ev_go rfl ?_
  show mj_Ev _ _ _ _ _ _ _ [mv_i (nI x - nI x / 2 * 2)] _ _ _
  rw [e2]
  refine ev_if rfl (fun h12 => ?_) (fun h12 => ?_)
  · have z9 : x % 2 = 0 := by
      rcases Nat.mod_two_eq_zero_or_one x with q | q
      · exact q
      · exact absurd h12 (by rw [q]; decide)
    unfold aq_sg at e
    rw [if_pos z9] at e
    iterate 2 refine ev_go rfl ?_
    exact e
  · have z9 : ¬ x % 2 = 0 := fun q => h12 (by rw [q]; rfl)
    unfold aq_sg at e
    rw [if_neg z9] at e
    refine ev_go rfl ?_
    exact e
end
