/-! the state told by the reference's own cells, and what it says -/
/-- sums -/
def sm (f : Nat → Int32) : Nat → Int32
  | 0 => 0
  | k + 1 => sm f k + f k
theorem sm_congr {f g : Nat → Int32} : ∀ {n : Nat}, (∀ k, k < n → f k = g k) → sm f n = sm g n
  | 0, _ => rfl
  | n + 1, h => by
    show sm f n + f n = sm g n + g n
    rw [sm_congr (fun k hk => h k (by omega)), h n (by omega)]
theorem sm_one {f g : Nat → Int32} {c : Nat} (h : ∀ k, k ≠ c → g k = f k) : ∀ n : Nat, sm g n = if c < n then sm f n + (g c - f c) else sm f n
  | 0 => by simp [sm]
  | n + 1 => by
    show sm g n + g n = if c < n + 1 then sm f n + f n + (g c - f c) else sm f n + f n
    rw [sm_one h n]
    by_cases h1 : c < n
    · rw [if_pos h1, if_pos (by omega), h n (by omega)]
      grind
    · rw [if_neg h1]
      by_cases h2 : c = n
      · subst h2
        rw [if_pos (by omega)]
        grind
      · rw [if_neg (by omega), h n (by omega)]
/-- the cells and slots that hold the state -/
def aq_k (q j : Nat) : Prop := (13 ≤ q ∧ q ≤ 23) ∨ (q = 12 ∧ (j = 1 ∨ j = 10 ∨ j = 11 ∨ j = 13 ∨ j = 14 ∨ j = 15 ∨ j = 17))
def rm_ (A M : mj_M) : Prop := ∀ q j, aq_k q j → M.1 q j = A.1 q j
/-- what the reference leaves alone; what the class leaves alone -/
def fm_ (M M' : mj_M) : Prop := M'.2 = M.2 ∧ ∀ q j, q < 12 ∨ 28 ≤ q → M'.1 q j = M.1 q j
def fc_ (M M' : mj_M) : Prop := ∀ q j, 12 ≤ q → q < 30 → M'.1 q j = M.1 q j
theorem rm_.refl (M : mj_M) : rm_ M M := fun _ _ _ => rfl
theorem rm_.q {A M : mj_M} (h : rm_ A M) {q j : Nat} (h1 : 13 ≤ q) (h2 : q ≤ 23) : M.1 q j = A.1 q j := h q j (Or.inl ⟨h1, h2⟩)
theorem rm_.s {A M : mj_M} (h : rm_ A M) {j : Nat} (h1 : j = 1 ∨ j = 10 ∨ j = 11 ∨ j = 13 ∨ j = 14 ∨ j = 15 ∨ j = 17) : M.1 12 j = A.1 12 j := h 12 j (Or.inr ⟨rfl, h1⟩)
theorem rm_.fc {A M M' : mj_M} (h : rm_ A M) (f : fc_ M M') : rm_ A M' := by
  intro q j hk
  rw [f q j (by unfold aq_k at hk; omega) (by unfold aq_k at hk; omega)]
  exact h q j hk
theorem rm_.st {A M : mj_M} (h : rm_ A M) (q j : Nat) (x : Int32) : rm_ (mj_st A q j x) (mj_st M q j x) := by
  intro q' j' hk
  by_cases h1 : q' = q ∧ j' = j
  · obtain ⟨h1, h2⟩ := h1
    subst h1 h2
    rw [pm_st0, pm_st0]
  · have h2 : q' ≠ q ∨ j' ≠ j := by omega
    rw [pm_st1 h2, pm_st1 h2]
    exact h q' j' hk
theorem rm_.sr {A M : mj_M} (h : rm_ A M) {q j : Nat} {x : Int32} (hk : ¬ aq_k q j) : rm_ A (mj_st M q j x) := by
  intro q' j' hk'
  have h2 : q' ≠ q ∨ j' ≠ j := by
    by_cases h1 : q' = q ∧ j' = j
    · obtain ⟨h1, h2⟩ := h1
      subst h1 h2
      exact absurd hk' hk
    · omega
  rw [pm_st1 h2]
  exact h q' j' hk'
theorem fm_.refl (M : mj_M) : fm_ M M := ⟨rfl, fun _ _ _ => rfl⟩
theorem fm_.trans {M M' M'' : mj_M} (h : fm_ M M') (h' : fm_ M' M'') : fm_ M M'' := ⟨h'.1.trans h.1, fun q j hq => (h'.2 q j hq).trans (h.2 q j hq)⟩
theorem fm_.st {M M' : mj_M} (h : fm_ M M') {q j : Nat} {x : Int32} (h1 : 12 ≤ q) (h2 : q < 28) : fm_ M (mj_st M' q j x) := ⟨h.1, fun q' j' hq => by rw [pm_st1 (Or.inl (by omega))]; exact h.2 q' j' hq⟩
theorem fc_.refl (M : mj_M) : fc_ M M := fun _ _ _ _ => rfl
theorem fc_.trans {M M' M'' : mj_M} (h : fc_ M M') (h' : fc_ M' M'') : fc_ M M'' := fun q j h1 h2 => (h' q j h1 h2).trans (h q j h1 h2)
theorem fc_.st {M M' : mj_M} (h : fc_ M M') {q j : Nat} {x : Int32} (h1 : q < 12 ∨ 30 ≤ q) : fc_ M (mj_st M' q j x) := fun q' j' h2 h3 => by rw [pm_st1 (Or.inl (by omega))]; exact h q' j' h2 h3
/-- the number of acts -/
def aq_n (A : mj_M) : Nat := (A.1 12 1).toNatClampNeg
/-- what an act adds to a cell, how many times -/
def aq_ad (A : mj_M) (a : Nat) (c : Int32) : Int32 := if A.1 13 a = 2 ∧ c = 6 * A.1 15 a + A.1 16 a then A.1 17 a else if c = 6 * A.1 14 a + A.1 16 a then (if A.1 13 a = 0 then A.1 17 a else -A.1 17 a) else 0
def aq_ts (s : Int32) : Int32 := if s = 0 then 1 else if s = 1 then 0 else 2
def aq_tm (A : mj_M) (a : Nat) : Int32 := aq_ts (A.1 19 a)
def aq_ex (A : mj_M) (n : Nat) (c : Nat) : Int32 := sm (fun a => aq_tm A a * aq_ad A a (nI c)) n
/-- what is expected -/
def aq_E (A : mj_M) (c : Nat) : Int32 := aq_ex A (aq_n A) c
/-- a cell's difference where L is expected; 1 where there is one; their number -/
def aq_df (A : mj_M) (L : Nat → Int32) (c : Nat) : Int32 := if A.1 21 c < 0 then 0 else A.1 21 c - L c
def aq_w (A : mj_M) (L : Nat → Int32) (c : Nat) : Int32 := if aq_df A L c = 0 then 0 else 1
def aq_nd (A : mj_M) (L : Nat → Int32) : Int32 := sm (aq_w A L) 60
def aq_c1 (A : mj_M) (a : Nat) : Nat := (6 * A.1 14 a + A.1 16 a).toNatClampNeg
def aq_c2 (A : mj_M) (a : Nat) : Nat := (6 * A.1 15 a + A.1 16 a).toNatClampNeg
/-- 1 for a candidate -/
def aq_ca (A : mj_M) (a : Nat) : Int32 := if A.1 19 a = 0 ∧ A.1 20 a = 0 ∧ ¬ A.1 18 a < A.1 12 10 ∧ A.1 18 a ≤ A.1 12 11 ∧ (¬ A.1 21 (aq_c1 A a) < 0 ∨ A.1 13 a = 2 ∧ ¬ A.1 21 (aq_c2 A a) < 0) then 1 else 0
/-- an act that may stand -/
def vs_rw (A : mj_M) (a : Nat) : Prop := ∃ p g, p < 10 ∧ g < 6 ∧ A.1 14 a = nI p ∧ A.1 16 a = nI g ∧ (A.1 13 a = 2 → ∃ t, t < 10 ∧ t ≠ p ∧ A.1 15 a = nI t) ∧ ¬ A.1 17 a = 0 ∧ ¬ -A.1 17 a = 0 ∧ (A.1 13 a = 0 ∨ A.1 13 a = 1 ∨ A.1 13 a = 2) ∧ 0 ≤ A.1 18 a
/-- a state that may be -/
def vs_A (A : mj_M) : Prop := (A.1 12 1 = nI (aq_n A) ∧ aq_n A ≤ 24) ∧ (∀ a, a < aq_n A → vs_rw A a) ∧ (∀ a, A.1 19 a = 0 ∨ A.1 19 a = 1 ∨ A.1 19 a = 2) ∧ (∀ a, A.1 20 a = 0 ∨ A.1 20 a = 1) ∧ (∀ a, aq_n A ≤ a → A.1 19 a = 0) ∧ (∀ c, -1 ≤ A.1 21 c) ∧ (A.1 12 13 = 0 ∨ A.1 12 13 = 1) ∧ (∃ m, m ≤ 4 ∧ A.1 12 17 = nI m ∧ ∀ i, i < m → ∃ a h, a < aq_n A ∧ h < 2 ∧ A.1 23 i = nI (2 * a + h))
theorem vs_rw.c1 {A : mj_M} {a : Nat} (h : vs_rw A a) : 6 * A.1 14 a + A.1 16 a = nI (aq_c1 A a) ∧ aq_c1 A a < 60 := by
  obtain ⟨p, g, hp, hg, e1, e2, -⟩ := h
  obtain ⟨h1, h2, h3⟩ := pd_cell hp hg
  unfold aq_c1
  rw [e1, e2, Int32.mul_comm, h2]
  exact ⟨h1, h3⟩
theorem vs_rw.c2 {A : mj_M} {a : Nat} (h : vs_rw A a) (hk : A.1 13 a = 2) : 6 * A.1 15 a + A.1 16 a = nI (aq_c2 A a) ∧ aq_c2 A a < 60 ∧ aq_c2 A a ≠ aq_c1 A a := by
  obtain ⟨p, g, hp, hg, e1, e2, e3, -⟩ := h
  obtain ⟨t, ht, hn, e4⟩ := e3 hk
  obtain ⟨h1, h2, h3⟩ := pd_cell ht hg
  obtain ⟨h4, h5, h6⟩ := pd_cell hp hg
  unfold aq_c2 aq_c1
  rw [e4, e1, e2, Int32.mul_comm, Int32.mul_comm 6, h2, h5]
  exact ⟨h1, h3, by omega⟩
section
variable {A M : mj_M}
theorem rm_n (h : rm_ A M) : aq_n M = aq_n A := by unfold aq_n; rw [h.s (by decide)]
theorem rm_ad (h : rm_ A M) (a : Nat) (c : Int32) : aq_ad M a c = aq_ad A a c := by
  unfold aq_ad
  simp only [h.q (show 13 ≤ 13 by decide) (by decide), h.q (show 13 ≤ 14 by decide) (by decide), h.q (show 13 ≤ 15 by decide) (by decide), h.q (show 13 ≤ 16 by decide) (by decide), h.q (show 13 ≤ 17 by decide) (by decide)]
theorem rm_tm (h : rm_ A M) (a : Nat) : aq_tm M a = aq_tm A a := by
  unfold aq_tm
  rw [h.q (by decide) (by decide)]
theorem rm_ex (h : rm_ A M) (n c : Nat) : aq_ex M n c = aq_ex A n c := sm_congr (fun a _ => by simp only [rm_tm h, rm_ad h])
theorem rm_E (h : rm_ A M) : aq_E M = aq_E A := by
  funext c
  unfold aq_E
  rw [rm_n h, rm_ex h]
theorem rm_df (h : rm_ A M) (L : Nat → Int32) (c : Nat) : aq_df M L c = aq_df A L c := by
  unfold aq_df
  rw [h.q (by decide) (by decide)]
theorem rm_w (h : rm_ A M) (L : Nat → Int32) : aq_w M L = aq_w A L := by
  funext c
  unfold aq_w
  rw [rm_df h]
theorem rm_nd (h : rm_ A M) (L : Nat → Int32) : aq_nd M L = aq_nd A L := by
  unfold aq_nd
  rw [rm_w h]
theorem rm_c1 (h : rm_ A M) (a : Nat) : aq_c1 M a = aq_c1 A a := by
  unfold aq_c1
  rw [h.q (show 13 ≤ 14 by decide) (by decide), h.q (show 13 ≤ 16 by decide) (by decide)]
theorem rm_c2 (h : rm_ A M) (a : Nat) : aq_c2 M a = aq_c2 A a := by
  unfold aq_c2
  rw [h.q (show 13 ≤ 15 by decide) (by decide), h.q (show 13 ≤ 16 by decide) (by decide)]
theorem rm_ca (h : rm_ A M) (a : Nat) : aq_ca M a = aq_ca A a := by
  unfold aq_ca
  rw [rm_c1 h, rm_c2 h, h.s (show 10 = 1 ∨ 10 = 10 ∨ 10 = 11 ∨ 10 = 13 ∨ 10 = 14 ∨ 10 = 15 ∨ 10 = 17 by decide), h.s (show 11 = 1 ∨ 11 = 10 ∨ 11 = 11 ∨ 11 = 13 ∨ 11 = 14 ∨ 11 = 15 ∨ 11 = 17 by decide)]
  simp only [h.q (show 13 ≤ 13 by decide) (by decide), h.q (show 13 ≤ 18 by decide) (by decide), h.q (show 13 ≤ 19 by decide) (by decide), h.q (show 13 ≤ 20 by decide) (by decide), h.q (show 13 ≤ 21 by decide) (by decide)]
theorem rm_rw (h : rm_ A M) (a : Nat) : vs_rw M a ↔ vs_rw A a := by
  unfold vs_rw
  simp only [h.q (show 13 ≤ 13 by decide) (by decide), h.q (show 13 ≤ 14 by decide) (by decide), h.q (show 13 ≤ 15 by decide) (by decide), h.q (show 13 ≤ 16 by decide) (by decide), h.q (show 13 ≤ 17 by decide) (by decide), h.q (show 13 ≤ 18 by decide) (by decide)]
theorem rm_vA (h : rm_ A M) : vs_A M ↔ vs_A A := by
  unfold vs_A
  simp only [rm_n h, rm_rw h, h.q (show 13 ≤ 19 by decide) (by decide), h.q (show 13 ≤ 20 by decide) (by decide), h.q (show 13 ≤ 21 by decide) (by decide), h.q (show 13 ≤ 23 by decide) (by decide), h.s (show 1 = 1 ∨ 1 = 10 ∨ 1 = 11 ∨ 1 = 13 ∨ 1 = 14 ∨ 1 = 15 ∨ 1 = 17 by decide), h.s (show 13 = 1 ∨ 13 = 10 ∨ 13 = 11 ∨ 13 = 13 ∨ 13 = 14 ∨ 13 = 15 ∨ 13 = 17 by decide), h.s (show 17 = 1 ∨ 17 = 10 ∨ 17 = 11 ∨ 17 = 13 ∨ 17 = 14 ∨ 17 = 15 ∨ 17 = 17 by decide)]
end
