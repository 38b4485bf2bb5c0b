/-! the state at the start -/
/-- memory after the constructors -/
def mi_0 : mj_M := (fun q j => if q = 5 ∨ q = 21 then -1 else if (q = 1 ∧ j = 6) ∨ (q = 12 ∧ j = 11) then 10000 else 0, 0)
theorem mi_z {q j : Nat} (h1 : ¬ (q = 5 ∨ q = 21)) (h2 : ¬ ((q = 1 ∧ j = 6) ∨ (q = 12 ∧ j = 11))) : mi_0.1 q j = 0 := by
  show (if q = 5 ∨ q = 21 then (-1 : Int32) else if (q = 1 ∧ j = 6) ∨ (q = 12 ∧ j = 11) then 10000 else 0) = 0
  rw [if_neg h1, if_neg h2]
theorem mi_c {q j : Nat} (h1 : q = 5 ∨ q = 21) : mi_0.1 q j = -1 := if_pos h1
theorem mi_n : aq_n mi_0 = 0 := by
  unfold aq_n
  rw [mi_z (by omega) (by omega)]
  rfl
theorem mi_w {c : Nat} (hc : c < 60) : aq_w mi_0 (aq_E mi_0) c = 0 := by
  unfold aq_w aq_df
  rw [mi_c (Or.inr rfl)]
  rfl
theorem sm_0 {f : Nat → Int32} : ∀ {n : Nat}, (∀ k, k < n → f k = 0) → sm f n = 0
  | 0, _ => rfl
  | n + 1, h => by
    show sm f n + f n = 0
    rw [sm_0 (fun k hk => h k (by omega)), h n (by omega)]
    rfl
theorem jq_0 : jq_ mi_0 mi_0 := by
  have z17 : mi_0.1 12 17 = 0 := mi_z (by omega) (by omega)
  refine ⟨⟨⟨?_, by rw [mi_n]; decide⟩, fun a ha => ?_, fun a => ?_, fun a => ?_, fun a _ => ?_, fun c => ?_, ?_, 0, by decide, z17, fun i hi => absurd hi (Nat.not_lt_zero _)⟩, rm_.refl _, ⟨⟨fun a ha j hj => ?_, fun c hc => ?_, ?_, ?_, ?_⟩, ⟨fun c hc => ?_, ?_⟩, ⟨?_, ?_, ?_, fun a ha => ?_, fun i hi => ?_⟩, ?_⟩⟩
  · rw [mi_n, mi_z (by omega) (by omega)]; rfl
  · rw [mi_n] at ha
    exact absurd ha (Nat.not_lt_zero _)
  · exact Or.inl (mi_z (by omega) (by omega))
  · exact Or.inl (mi_z (by omega) (by omega))
  · exact mi_z (by omega) (by omega)
  · rw [mi_c (Or.inr rfl)]; decide
  · exact Or.inl (mi_z (by omega) (by omega))
  · rw [mi_z (by rw [pr_e]; omega) (by rw [pr_e]; omega), mi_z (by omega) (by omega)]
  · rw [mi_c (Or.inl rfl), mi_c (Or.inr rfl)]
  · rw [mi_z (by omega) (by omega), mi_z (by omega) (by omega)]
  · rw [mi_z (by omega) (by omega), mi_z (by omega) (by omega)]
  · rfl
  · rw [mi_z (by omega) (by omega)]
    unfold aq_E
    rw [mi_n]
    rfl
  · rw [mi_z (by omega) (by omega)]
    exact (sm_0 (fun c hc => mi_w hc)).symm
  · rw [mi_z (by omega) (by omega), mi_z (by omega) (by omega)]
  · rw [mi_z (by omega) (by omega), mi_z (by omega) (by omega)]
  · rw [mi_z (by omega) (by omega), mi_z (by omega) (by omega)]
  · rw [mi_z (by omega) (by omega), mi_z (by omega) (by omega)]
  · rw [z17] at hi
    exact absurd hi (Nat.not_lt_zero _)
  · rw [mi_z (by omega) (by omega), mi_z (by omega) (by omega)]
theorem lw_run {X : Nat × (Nat → Int32)} {lo : mj_L} (hX : X.1 ≤ 3072) : ∃ n M' k', mj_run mj_S0 X mj_P n 14 mt_W_law 20 (mj_up (mj_up (mj_up (mj_up lo 0 (mv_p 29)) 1 (mv_p 0)) 2 (mv_p 12)) 3 (mv_p 28)) [] mi_0 0 = some (.inr (some (.inl 1)), M', k') ∧ k' ≤ 512 := by
  obtain ⟨M', k', ⟨n, h1⟩, h2⟩ := lw_all (X := X) (d := 0) (lo := lo) hX jq_0
  exact ⟨n, M', k', h1, h2⟩
