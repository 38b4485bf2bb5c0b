/-! pure walks: told, of, accept, count of the reference -/
theorem ev_pos {S : mj_S} {X : Nat × (Nat → Int32)} {P : List mj_T} {d : Nat} {T : mj_T} {pc : Nat} {lo : mj_L} {st : List mj_V} {M : mj_M} {k : Nat} {r : mj_R} {c : Prop} {dc : Decidable c} {pc' : Nat} {lo' : mj_L} {st' : List mj_V} {M' : mj_M} {o : Option mj_C} (hc : c) (h : mj_go S X T pc lo st M = if c then some (pc', lo', st', M') else o) (e : mj_Ev S X P d T pc' lo' st' M' k r) : mj_Ev S X P d T pc lo st M k r := by
  rw [if_pos hc] at h
  exact ev_go h e
def aq_to (A : mj_M) (a w : Nat) : Int32 := if w = 8 then aq_ca A a else if w = 7 then (if A.1 20 a = 0 then 0 else 1) else A.1 (13 + w) a
/-- the act number i among those for which f isn't 0, from act k on -/
def aq_fo (f : Nat → Int32) (i : Int32) : Nat → Nat → Int32 → Int32
  | 0, _, _ => -1
  | j + 1, k, b => if f k = 0 then aq_fo f i j (k + 1) b else if b = i then nI k else aq_fo f i j (k + 1) (b + 1)
def aq_fa (A : mj_M) (i : Nat) : Nat := (A.1 23 i / 2).toNatClampNeg
def aq_fh (A : mj_M) (i : Nat) : Int32 := A.1 23 i - A.1 23 i / 2 * 2
/-- the first k changes taken over -/
def oa_ (A : mj_M) : Nat → mj_M
  | 0 => A
  | k + 1 => mj_st (oa_ A k) 19 (aq_fa A k) (1 + aq_fh A k)
theorem oa_q (A : mj_M) {q : Nat} (h : q ≠ 19) (j : Nat) : ∀ k, (oa_ A k).1 q j = A.1 q j
  | 0 => rfl
  | k + 1 => by
    show (mj_st (oa_ A k) 19 (aq_fa A k) (1 + aq_fh A k)).1 q j = _
    rw [pm_st1 (Or.inl h)]
    exact oa_q A h j k
theorem oa_n (A : mj_M) (k : Nat) : aq_n (oa_ A k) = aq_n A := by unfold aq_n; rw [oa_q A (by decide)]
section
variable {X : Nat × (Nat → Int32)} {d : Nat} {M A : mj_M}
theorem pm_told_x {a w : Int32} (h : ¬ pd_na M a = 0) : mj_C0 X (d + 1) mt_M_told [mv_p 12, mv_i a, mv_i w] M (mv_R 0 (mj_st M 12 0 1)) := by
  iterate 3 refine ev_go rfl ?_
  refine ev_callr rfl rfl rfl pm_noAct ?_
  refine ev_if rfl (fun h6 => ?_) (fun h6 => ?_)
  · exact absurd h6 h
  · iterate 7 refine ev_go rfl ?_
    refine ev_end rfl ?_
    rfl
theorem pm_told_y {a w : Int32} (h : pd_na M a = 0) (h' : ¬ (0 ≤ w ∧ w ≤ 8)) : mj_C0 X (d + 1) mt_M_told [mv_p 12, mv_i a, mv_i w] M (mv_R 0 (mj_st M 12 0 2)) := by
  iterate 3 refine ev_go rfl ?_
  refine ev_callr rfl rfl rfl pm_noAct ?_
  refine ev_if rfl (fun h6 => ?_) (fun h6 => ?_)
  · iterate 3 refine ev_go rfl ?_
    refine ev_callr rfl rfl rfl pm_not ?_
    refine ev_if rfl (fun h20 => ?_) (fun h20 => ?_)
    · exfalso
      grind [pd_no0]
    · iterate 7 refine ev_go rfl ?_
      refine ev_end rfl ?_
      rfl
  · exact absurd h h6
theorem pm_told {a w : Nat} (ha : a < 24) (h : pd_na M (nI a) = 0) (hw : w ≤ 8) (hr : vs_rw M a) : mj_C0 X (d + 1) mt_M_told [mv_p 12, mv_i (nI a), mv_i (nI w)] M (mv_R (aq_to M a w) (mj_st M 12 0 0)) := by
  have h1 : mj_in (nI a) 24 := nI_in ha (by decide)
  have h2 : (nI a).toNatClampNeg = a := nI_clamp (by omega)
  have h' : 0 ≤ nI w ∧ nI w ≤ 8 := ⟨nI_pos' (by omega), nI_le (b := 8) hw (by decide)⟩
  have ec : aq_ca (mj_st M 12 0 0) a = aq_ca M a := rm_ca rm_0 a
  iterate 3 refine ev_go rfl ?_
  refine ev_callr rfl rfl rfl pm_noAct ?_
  refine ev_if rfl (fun h6 => ?_) (fun h6 => ?_)
  · iterate 3 refine ev_go rfl ?_
    refine ev_callr rfl rfl rfl pm_not ?_
    refine ev_if rfl (fun h20 => ?_) (fun h20 => ?_)
    · iterate 6 refine ev_go rfl ?_
      have h9 : w = 0 ∨ w = 1 ∨ w = 2 ∨ w = 3 ∨ w = 4 ∨ w = 5 ∨ w = 6 ∨ w = 7 ∨ w = 8 := by omega
      rcases h9 with h9 | h9 | h9 | h9 | h9 | h9 | h9 | h9 | h9 <;> subst h9
      · refine ev_go rfl ?_
        iterate 3 refine ev_go rfl ?_
        refine ev_ok h1 rfl ?_
        refine ev_end rfl ?_
        show some _ = some _
        rw [h2]
        rfl
      · refine ev_go rfl ?_
        iterate 3 refine ev_go rfl ?_
        refine ev_ok h1 rfl ?_
        refine ev_end rfl ?_
        show some _ = some _
        rw [h2]
        rfl
      · refine ev_go rfl ?_
        iterate 3 refine ev_go rfl ?_
        refine ev_ok h1 rfl ?_
        refine ev_end rfl ?_
        show some _ = some _
        rw [h2]
        rfl
      · refine ev_go rfl ?_
        iterate 3 refine ev_go rfl ?_
        refine ev_ok h1 rfl ?_
        refine ev_end rfl ?_
        show some _ = some _
        rw [h2]
        rfl
      · refine ev_go rfl ?_
        iterate 3 refine ev_go rfl ?_
        refine ev_ok h1 rfl ?_
        refine ev_end rfl ?_
        show some _ = some _
        rw [h2]
        rfl
      · refine ev_go rfl ?_
        iterate 3 refine ev_go rfl ?_
        refine ev_ok h1 rfl ?_
        refine ev_end rfl ?_
        show some _ = some _
        rw [h2]
        rfl
      · refine ev_go rfl ?_
        iterate 3 refine ev_go rfl ?_
        refine ev_ok h1 rfl ?_
        refine ev_end rfl ?_
        show some _ = some _
        rw [h2]
        rfl
      · refine ev_go rfl ?_
        iterate 3 refine ev_go rfl ?_
        refine ev_ok h1 rfl ?_
        rw [h2]
        refine ev_if rfl (fun h143 => ?_) (fun h143 => ?_)
        · refine ev_go rfl ?_
          refine ev_end rfl ?_
          show some _ = some _
          first
            | (show some _ = some (mv_R (if M.1 20 a = 0 then 0 else 1) _); rw [if_pos (show M.1 20 a = 0 from h143)])
            | (show some _ = some (mv_R (if M.1 20 a = 0 then 0 else 1) _); rw [if_neg (show ¬ M.1 20 a = 0 from h143)])
        · iterate 2 refine ev_go rfl ?_
          refine ev_end rfl ?_
          show some _ = some _
          first
            | (show some _ = some (mv_R (if M.1 20 a = 0 then 0 else 1) _); rw [if_pos (show M.1 20 a = 0 from h143)])
            | (show some _ = some (mv_R (if M.1 20 a = 0 then 0 else 1) _); rw [if_neg (show ¬ M.1 20 a = 0 from h143)])
      · refine ev_go rfl ?_
        iterate 2 refine ev_go rfl ?_
        refine ev_callr rfl rfl rfl (pm_isCandidate ha ((rm_rw rm_0 a).2 hr)) ?_
        refine ev_if rfl (fun h157 => ?_) (fun h157 => ?_)
        · refine ev_go rfl ?_
          refine ev_end rfl ?_
          show some _ = some _
          rcases aq_ca01 (mj_st M 12 0 0) a with h | h
          · first
              | exact absurd h h157
              | (show _ = some (mv_R (aq_ca M a) _); rw [← ec, h])
          · first
              | exact absurd (h.symm.trans h157) (by decide)
              | (show _ = some (mv_R (aq_ca M a) _); rw [← ec, h])
        · iterate 2 refine ev_go rfl ?_
          refine ev_end rfl ?_
          show some _ = some _
          rcases aq_ca01 (mj_st M 12 0 0) a with h | h
          · first
              | exact absurd h h157
              | (show _ = some (mv_R (aq_ca M a) _); rw [← ec, h])
          · first
              | exact absurd (h.symm.trans h157) (by decide)
              | (show _ = some (mv_R (aq_ca M a) _); rw [← ec, h])
    · exfalso
      grind [pd_no0]
  · exact absurd h h6
theorem pm_of_x {p g i : Int32} (h : ¬ (0 ≤ p ∧ p ≤ 9 ∧ 0 ≤ g ∧ g ≤ 5 ∧ 0 ≤ i)) : mj_C0 X (d + 1) mt_M_of [mv_p 12, mv_i p, mv_i g, mv_i i] M (mv_R 0 (mj_st M 12 0 1)) := by
  iterate 4 refine ev_go rfl ?_
  refine ev_callr rfl rfl rfl pm_not ?_
  refine ev_if rfl (fun h8 => ?_) (fun h8 => ?_)
  · iterate 3 refine ev_go rfl ?_
    refine ev_callr rfl rfl rfl pm_not ?_
    refine ev_if rfl (fun h17 => ?_) (fun h17 => ?_)
    · refine ev_go rfl ?_
      refine ev_if rfl (fun h21 => ?_) (fun h21 => ?_)
      · exfalso
        grind [pd_no0]
      · iterate 7 refine ev_go rfl ?_
        refine ev_end rfl ?_
        rfl
    · iterate 7 refine ev_go rfl ?_
      refine ev_end rfl ?_
      rfl
  · iterate 7 refine ev_go rfl ?_
    refine ev_end rfl ?_
    rfl
theorem pm_of_l {p g i : Int32} (hn : M.1 12 1 = nI (aq_n M)) (hl : aq_n M ≤ 24) : ∀ j k b, k + j = aq_n M → mj_Ev mj_S0 X mj_P (d + 2) mt_M_of 47 (mj_up (mj_up (fun j => [mv_p 12, mv_i p, mv_i g, mv_i i][j]?) 4 (mv_i b)) 5 (mv_i (nI k))) [] M 0 (mv_R (aq_fo (fun a => aq_ad M a (6 * p + g)) i j k b) M) := by
  intro j
  induction j with
  | zero =>
    intro k b hk
    iterate 3 refine ev_go rfl ?_
    refine ev_if rfl (fun h53 => ?_) (fun h53 => ?_)
    · refine ev_go rfl ?_
      refine ev_end rfl ?_
      rfl
    · exact absurd (show M.1 12 1 ≤ nI k by rw [hn]; exact nI_le (by omega) (by omega)) h53
  | succ j ih =>
    intro k b hk
    iterate 3 refine ev_go rfl ?_
    refine ev_if rfl (fun h53 => ?_) (fun h53 => ?_)
    · exact absurd h53 (by rw [hn]; exact nI_ge (by omega) (by omega))
    · iterate 7 refine ev_go rfl ?_
      refine ev_callr rfl rfl rfl (pm_touches (by omega)) ?_
      refine ev_if rfl (fun h68 => ?_) (fun h68 => ?_)
      · first
          | (have k74 := h74)
          | (have k68 : aq_ad M k (6 * p + g) = 0 := by
              by_cases q : aq_ad M k (6 * p + g) = 0
              · exact q
              · exact absurd h68 (by show ¬ (if aq_ad M k (6 * p + g) = 0 then (0 : Int32) else 1) = 0; rw [if_neg q]; decide))
        iterate 2 refine ev_go rfl ?_
        first
          | (have e : aq_fo (fun a => aq_ad M a (6 * p + g)) i (j + 1) k b = aq_fo (fun a => aq_ad M a (6 * p + g)) i j (k + 1) b := if_pos k68
             rw [e]
             refine ev_lo ?_ (ih (k + 1) b (by omega))
             rw [nI_1, mj_upo])
          | (have e : aq_fo (fun a => aq_ad M a (6 * p + g)) i (j + 1) k b = aq_fo (fun a => aq_ad M a (6 * p + g)) i j (k + 1) (b + 1) := (if_neg k68).trans (if_neg h74)
             rw [e]
             refine ev_lo ?_ (ih (k + 1) (b + 1) (by omega))
             rw [nI_1]
             exact mj_upn (i := 4) (j := 5) (by decide))
      · have k68 : ¬ aq_ad M k (6 * p + g) = 0 := fun q => h68 (if_pos q)
        iterate 2 refine ev_go rfl ?_
        refine ev_if rfl (fun h74 => ?_) (fun h74 => ?_)
        · refine ev_go rfl ?_
          refine ev_end rfl ?_
          show some _ = some _
          rw [show aq_fo (fun a => aq_ad M a (6 * p + g)) i (j + 1) k b = nI k from (if_neg k68).trans (if_pos h74)]
        · refine ev_go rfl ?_
          first
            | (have k74 := h74)
            | (have k68 : aq_ad M k (6 * p + g) = 0 := by
                by_cases q : aq_ad M k (6 * p + g) = 0
                · exact q
                · exact absurd h68 (by show ¬ (if aq_ad M k (6 * p + g) = 0 then (0 : Int32) else 1) = 0; rw [if_neg q]; decide))
          iterate 2 refine ev_go rfl ?_
          first
            | (have e : aq_fo (fun a => aq_ad M a (6 * p + g)) i (j + 1) k b = aq_fo (fun a => aq_ad M a (6 * p + g)) i j (k + 1) b := if_pos k68
               rw [e]
               refine ev_lo ?_ (ih (k + 1) b (by omega))
               rw [nI_1, mj_upo])
            | (have e : aq_fo (fun a => aq_ad M a (6 * p + g)) i (j + 1) k b = aq_fo (fun a => aq_ad M a (6 * p + g)) i j (k + 1) (b + 1) := (if_neg k68).trans (if_neg h74)
               rw [e]
               refine ev_lo ?_ (ih (k + 1) (b + 1) (by omega))
               rw [nI_1]
               exact mj_upn (i := 4) (j := 5) (by decide))
theorem pm_of {p g i : Int32} (h : 0 ≤ p ∧ p ≤ 9 ∧ 0 ≤ g ∧ g ≤ 5 ∧ 0 ≤ i) (hn : M.1 12 1 = nI (aq_n M)) (hl : aq_n M ≤ 24) : mj_C0 X (d + 2) mt_M_of [mv_p 12, mv_i p, mv_i g, mv_i i] M (mv_R (aq_fo (fun a => aq_ad M a (6 * p + g)) i (aq_n M) 0 0) (mj_st M 12 0 0)) := by
  have e : (fun a => aq_ad (mj_st M 12 0 0) a (6 * p + g)) = (fun a => aq_ad M a (6 * p + g)) := funext (fun a => rm_ad rm_0 a _)
  have key := pm_of_l (X := X) (d := d) (M := mj_st M 12 0 0) (p := p) (g := g) (i := i) hn hl (aq_n M) 0 0 (by show 0 + aq_n M = aq_n M; omega)
  rw [e] at key
  iterate 4 refine ev_go rfl ?_
  refine ev_callr rfl rfl rfl pm_not ?_
  refine ev_if rfl (fun h8 => ?_) (fun h8 => ?_)
  · iterate 3 refine ev_go rfl ?_
    refine ev_callr rfl rfl rfl pm_not ?_
    refine ev_if rfl (fun h17 => ?_) (fun h17 => ?_)
    · refine ev_go rfl ?_
      refine ev_if rfl (fun h21 => ?_) (fun h21 => ?_)
      · iterate 9 refine ev_go rfl ?_
        exact key
      · exfalso
        grind [pd_no0]
    · exfalso
      grind [pd_no0]
  · exfalso
    grind [pd_no0]
end
