/-! the small machine's runs -/
section
variable (S : mj_S) (X : Nat × (Nat → Int32)) (P : List mj_T)
def mj_go (T : mj_T) (pc : Nat) (lo : mj_L) (st : List mj_V) (M : mj_M) : Option mj_C := match mj_at T pc with
  | some (_, i, nx, a, b, v) => mj_step S X pc i nx a b v lo st M
  | none => none
/-- a return, or 'throw new E(text)' -/
def mj_end (T : mj_T) (pc : Nat) (st : List mj_V) (M : mj_M) (k : Nat) : Option mj_R := match mj_at T pc with
  | some (_, .ireturn, _) => (match st with
      | [.inl x] => (match mj_tr T with
          | some .int => some (.inr (some (.inl x)), M, k)
          | some .boolean => if x = 0 ∨ x = 1 then some (.inr (some (.inl x)), M, k) else none
          | _ => none)
      | _ => none)
  | some (_, .return_, _) => (match st, mj_tr T with
      | [], none => some (.inr none, M, k)
      | _, _ => none)
  | some (_, .new _, _, a, _) => (match st with
      | [] => some (.inl a, M, k + 1)
      | _ => none)
  | _ => none
def mj_callee (T : mj_T) (pc : Nat) (st : List mj_V) : Option (mj_T × List mj_V × List mj_V × Nat × Bool) := match mj_at T pc with
  | some (_, i, nx, a, b, v) => if mj_isc i = true then (match P[a]?, mj_pop b st [] with
      | some T', some (as, rest) => if mj_rcv i T' as = true ∧ rest.length ≤ 4 ∧ as.all mj_one = true then some (T', as, rest, nx, decide (v = 7)) else none
      | _, _ => none) else none
  | none => none
def mj_body (rec : Nat → mj_T → Nat → mj_L → List mj_V → mj_M → Nat → Option mj_R) (d : Nat) (T : mj_T) (pc : Nat) (lo : mj_L) (st : List mj_V) (M : mj_M) (k : Nat) : Option mj_R :=
  match mj_go S X T pc lo st M with
  | some (pc', lo', st', M') => rec d T pc' lo' st' M' k
  | none => match mj_end T pc st M k with
    | some r => some r
    | none => match d with
      | 0 => none
      | d' + 1 => match mj_callee P T pc st with
        | none => none
        | some (T', as, rest, nx, ns) => (match rec d' T' 0 (fun j => as[j]?) [] M 0 with
            | some (.inr none, M', k') => rec (d' + 1) T nx lo rest M' (k + k')
            | some (.inr (some r), M', k') => rec (d' + 1) T nx lo (r :: rest) M' (k + k')
            | some (.inl E, M', k') => if ns = true then none else (match mj_cat (mj_th T) pc E with
                | some (h, j) => rec (d' + 1) T h (mj_dl lo j) [] M' (k + k')
                | none => some (.inl E, M', k + k'))
            | none => none)
def mj_run : Nat → Nat → mj_T → Nat → mj_L → List mj_V → mj_M → Nat → Option mj_R
  | 0 => fun _ _ _ _ _ _ _ => none
  | n + 1 => mj_body S X P (mj_run n)
theorem mj_run_s (n d : Nat) (T : mj_T) (pc : Nat) (lo : mj_L) (st : List mj_V) (M : mj_M) (k : Nat) : mj_run S X P (n + 1) d T pc lo st M k = mj_body S X P (mj_run S X P n) d T pc lo st M k := rfl
theorem mj_run_0 (d : Nat) (T : mj_T) (pc : Nat) (lo : mj_L) (st : List mj_V) (M : mj_M) (k : Nat) : mj_run S X P 0 d T pc lo st M k = none := rfl
theorem mj_mono : ∀ (n d : Nat) (T : mj_T) (pc : Nat) (lo : mj_L) (st : List mj_V) (M : mj_M) (k : Nat) (r : mj_R), mj_run S X P n d T pc lo st M k = some r → mj_run S X P (n + 1) d T pc lo st M k = some r := by
  intro n
  induction n with
  | zero =>
    intro d T pc lo st M k r h
    rw [mj_run_0] at h
    cases h
  | succ n ih =>
    intro d T pc lo st M k r h
    rw [mj_run_s] at h ⊢
    unfold mj_body at h ⊢
    cases hg : mj_go S X T pc lo st M with
    | some c =>
      obtain ⟨pc', lo', st', M'⟩ := c
      rw [hg] at h
      exact ih _ _ _ _ _ _ _ _ h
    | none =>
      rw [hg] at h
      dsimp only at h ⊢
      cases he : mj_end T pc st M k with
      | some r' =>
        rw [he] at h
        exact h
      | none =>
        rw [he] at h
        dsimp only at h ⊢
        cases d with
        | zero => exact h
        | succ d' =>
          cases hc : mj_callee P T pc st with
          | none =>
            rw [hc] at h
            exact h
          | some q =>
            obtain ⟨T', as, rest, nx, ns⟩ := q
            rw [hc] at h
            dsimp only at h ⊢
            cases hr : mj_run S X P n d' T' 0 (fun j => as[j]?) [] M 0 with
            | none => rw [hr] at h; cases h
            | some q =>
              rw [ih _ _ _ _ _ _ _ _ hr]
              rw [hr] at h
              obtain ⟨o, M', k'⟩ := q
              cases o with
              | inl E =>
                dsimp only at h ⊢
                by_cases hns : ns = true
                · rw [if_pos hns] at h
                  cases h
                · rw [if_neg hns] at h ⊢
                  cases hx : mj_cat (mj_th T) pc E with
                  | none =>
                    rw [hx] at h
                    exact h
                  | some q =>
                    obtain ⟨h9, j⟩ := q
                    rw [hx] at h
                    exact ih _ _ _ _ _ _ _ _ h
              | inr o =>
                cases o with
                | none => exact ih _ _ _ _ _ _ _ _ h
                | some v => exact ih _ _ _ _ _ _ _ _ h
theorem mj_mono2 {n m d : Nat} {T : mj_T} {pc : Nat} {lo : mj_L} {st : List mj_V} {M : mj_M} {k : Nat} {r : mj_R} (h : n ≤ m) (hr : mj_run S X P n d T pc lo st M k = some r) : mj_run S X P m d T pc lo st M k = some r := by
  induction h with
  | refl => exact hr
  | step _ ih => exact mj_mono S X P _ _ _ _ _ _ _ _ _ ih
/-- from here the method comes to its end r -/
def mj_Ev (d : Nat) (T : mj_T) (pc : Nat) (lo : mj_L) (st : List mj_V) (M : mj_M) (k : Nat) (r : mj_R) : Prop := ∃ n, mj_run S X P n d T pc lo st M k = some r
end
section
variable {S : mj_S} {X : Nat × (Nat → Int32)} {P : List mj_T} {d : Nat} {T : mj_T} {pc : Nat} {lo : mj_L} {st : List mj_V} {M : mj_M} {k : Nat} {r : mj_R}
theorem ev_go {pc' : Nat} {lo' : mj_L} {st' : List mj_V} {M' : mj_M} (h : mj_go S X T pc lo st M = some (pc', lo', st', M')) (e : mj_Ev S X P d T pc' lo' st' M' k r) : mj_Ev S X P d T pc lo st M k r := by
  obtain ⟨n, hn⟩ := e
  refine ⟨n + 1, ?_⟩
  rw [mj_run_s]
  unfold mj_body
  rw [h]
  exact hn
theorem ev_if {c : Prop} {dc : Decidable c} {pc' : Nat} {lo' : mj_L} {st' : List mj_V} {M' : mj_M} {pc2 : Nat} {lo2 : mj_L} {st2 : List mj_V} {M2 : mj_M} (h : mj_go S X T pc lo st M = if c then some (pc', lo', st', M') else some (pc2, lo2, st2, M2)) (e : c → mj_Ev S X P d T pc' lo' st' M' k r) (f : ¬ c → mj_Ev S X P d T pc2 lo2 st2 M2 k r) : mj_Ev S X P d T pc lo st M k r := by
  by_cases hc : c
  · rw [if_pos hc] at h
    exact ev_go h (e hc)
  · rw [if_neg hc] at h
    exact ev_go h (f hc)
theorem ev_ok {c : Prop} {dc : Decidable c} {pc' : Nat} {lo' : mj_L} {st' : List mj_V} {M' : mj_M} (hc : c) (h : mj_go S X T pc lo st M = if c then some (pc', lo', st', M') else none) (e : mj_Ev S X P d T pc' lo' st' M' k r) : mj_Ev S X P d T pc lo st M k r := by
  rw [if_pos hc] at h
  exact ev_go h e
theorem ev_end (hg : mj_go S X T pc lo st M = none) (h : mj_end T pc st M k = some r) : mj_Ev S X P d T pc lo st M k r := by
  refine ⟨1, ?_⟩
  rw [mj_run_s]
  unfold mj_body
  rw [hg]
  dsimp only
  rw [h]
theorem ev_callr {T' : mj_T} {as rest : List mj_V} {nx : Nat} {ns : Bool} {v : mj_V} {M' : mj_M} {k' : Nat} (hg : mj_go S X T pc lo st M = none) (he : mj_end T pc st M k = none) (hc : mj_callee P T pc st = some (T', as, rest, nx, ns)) (h1 : mj_Ev S X P d T' 0 (fun j => as[j]?) [] M 0 (.inr (some v), M', k')) (h2 : mj_Ev S X P (d + 1) T nx lo (v :: rest) M' (k + k') r) : mj_Ev S X P (d + 1) T pc lo st M k r := by
  obtain ⟨n, hn⟩ := h1
  obtain ⟨m, hm⟩ := h2
  refine ⟨max n m + 1, ?_⟩
  rw [mj_run_s]
  unfold mj_body
  rw [hg]
  dsimp only
  rw [he]
  dsimp only
  rw [hc]
  dsimp only
  rw [mj_mono2 S X P (Nat.le_max_left n m) hn]
  exact mj_mono2 S X P (Nat.le_max_right n m) hm
theorem ev_callv {T' : mj_T} {as rest : List mj_V} {nx : Nat} {ns : Bool} {M' : mj_M} {k' : Nat} (hg : mj_go S X T pc lo st M = none) (he : mj_end T pc st M k = none) (hc : mj_callee P T pc st = some (T', as, rest, nx, ns)) (h1 : mj_Ev S X P d T' 0 (fun j => as[j]?) [] M 0 (.inr none, M', k')) (h2 : mj_Ev S X P (d + 1) T nx lo rest M' (k + k') r) : mj_Ev S X P (d + 1) T pc lo st M k r := by
  obtain ⟨n, hn⟩ := h1
  obtain ⟨m, hm⟩ := h2
  refine ⟨max n m + 1, ?_⟩
  rw [mj_run_s]
  unfold mj_body
  rw [hg]
  dsimp only
  rw [he]
  dsimp only
  rw [hc]
  dsimp only
  rw [mj_mono2 S X P (Nat.le_max_left n m) hn]
  exact mj_mono2 S X P (Nat.le_max_right n m) hm
/-- the callee throws, nothing here catches it -/
theorem ev_callx {T' : mj_T} {as rest : List mj_V} {nx E : Nat} {M' : mj_M} {k' : Nat} (hg : mj_go S X T pc lo st M = none) (he : mj_end T pc st M k = none) (hc : mj_callee P T pc st = some (T', as, rest, nx, false)) (h1 : mj_Ev S X P d T' 0 (fun j => as[j]?) [] M 0 (.inl E, M', k')) (h2 : mj_cat (mj_th T) pc E = none) : mj_Ev S X P (d + 1) T pc lo st M k (.inl E, M', k + k') := by
  obtain ⟨n, hn⟩ := h1
  refine ⟨n + 1, ?_⟩
  rw [mj_run_s]
  unfold mj_body
  rw [hg]
  dsimp only
  rw [he]
  dsimp only
  rw [hc]
  dsimp only
  rw [hn]
  dsimp only
  rw [if_neg (by decide), h2]
/-- the callee throws, a handler here takes it -/
theorem ev_callh {T' : mj_T} {as rest : List mj_V} {nx E h j : Nat} {M' : mj_M} {k' : Nat} (hg : mj_go S X T pc lo st M = none) (he : mj_end T pc st M k = none) (hc : mj_callee P T pc st = some (T', as, rest, nx, false)) (h1 : mj_Ev S X P d T' 0 (fun j => as[j]?) [] M 0 (.inl E, M', k')) (h2 : mj_cat (mj_th T) pc E = some (h, j)) (h3 : mj_Ev S X P (d + 1) T h (mj_dl lo j) [] M' (k + k') r) : mj_Ev S X P (d + 1) T pc lo st M k r := by
  obtain ⟨n, hn⟩ := h1
  obtain ⟨m, hm⟩ := h3
  refine ⟨max n m + 1, ?_⟩
  rw [mj_run_s]
  unfold mj_body
  rw [hg]
  dsimp only
  rw [he]
  dsimp only
  rw [hc]
  dsimp only
  rw [mj_mono2 S X P (Nat.le_max_left n m) hn]
  dsimp only
  rw [if_neg (by decide), h2]
  exact mj_mono2 S X P (Nat.le_max_right n m) hm
end
