/-! the small machine's state as the true machine's: values, worlds, locals -/
section
variable (S : mj_S) (ad : Nat → Nat) (cI cR cJ cZ : ClassId)
def mj_ra (g r : Nat) : Nat := match S.1[g]? with
  | some (.inr (.inr (.inl (_, _, o)))) => ad (mj_rw S o r)
  | _ => 0
def mj_c (v : mj_V) : Value := match v with
  | .inl x => .int x
  | .inr (.inl y) => .long y
  | .inr (.inr (.inl q)) => .ref (ad q)
  | .inr (.inr (.inr (g, r))) => .ref (mj_ra S ad g r)
theorem mj_c1 {v : mj_V} (h : mj_one v = true) : (mj_c S ad v).category = 1 := by
  match v, h with
  | .inl x, _ => rfl
  | .inr (.inr (.inl q)), _ => rfl
  | .inr (.inr (.inr (g, r))), _ => rfl
/-- an object's fields -/
def mj_fl (M : mj_M) (k : Nat) (fs : List (Option Nat)) : List Value := fs.mapIdx (fun j f => match f with
  | some q => Value.ref (ad q)
  | none => Value.int (M.1 k j))
def mj_e (M : mj_M) (k : Nat) (K : mj_K) : va_E := match K with
  | .inl (ci, fs) => .inr (ci, mj_fl ad M k fs)
  | .inr (.inl n) => .inl (cI, n, .inl (M.1 k))
  | .inr (.inr (.inl (n, _, o))) => .inl (cR, n, .inr (.inr (.inr (.inr (fun i => if i < n then some (ad (mj_rw S o i)) else none)))))
  | .inr (.inr (.inr (.inl n))) => .inl (cJ, n, .inr (.inl (fun j => if j = 0 then M.2 else 0)))
  | .inr (.inr (.inr (.inr n))) => .inl (cZ, n, .inl (M.1 k))
def mj_w (M : mj_M) : va_W := S.1.mapIdx (fun k K => (ad k, mj_e S ad cI cR cJ cZ M k K)) ++ S.2.mapIdx (fun r c => (ad (S.1.length + 1 + r), .inl (cI, c, .inl (M.1 (S.1.length + 1 + r)))))
def mj_tys : List (ClassId × FieldType) := [(cI, .int), (cR, .array .int), (cJ, .long), (cZ, .boolean)]
end
theorem mj_mi {α β : Type} (l : List α) (f g : Nat → α → β) (k : Nat) (v : β) (hk : k < l.length) (h1 : ∀ (n : Nat) (a : α), n ≠ k → f n a = g n a) (h2 : ∀ a, l[k]? = some a → v = g k a) : (l.mapIdx f).set k v = l.mapIdx g := by
  apply List.ext_getElem?
  intro n
  rw [List.getElem?_set, List.getElem?_mapIdx, List.length_mapIdx, List.getElem?_mapIdx]
  by_cases e : k = n
  · subst e
    rw [if_pos rfl, if_pos hk, List.getElem?_eq_getElem hk, Option.map_some, h2 _ (List.getElem?_eq_getElem hk)]
  · rw [if_neg e]
    cases l[n]? with
    | none => rfl
    | some a => rw [Option.map_some, Option.map_some, h1 n a (Ne.symm e)]
section
variable {S : mj_S} {ad : Nat → Nat} {cI cR cJ cZ : ClassId} {M M' : mj_M}
theorem mj_w_at {k : Nat} {K : mj_K} (h : S.1[k]? = some K) : (mj_w S ad cI cR cJ cZ M)[k]? = some (ad k, mj_e S ad cI cR cJ cZ M k K) := by
  have hk : k < S.1.length := (List.getElem?_eq_some_iff.mp h).1
  unfold mj_w
  rw [List.getElem?_append_left (by rw [List.length_mapIdx]; exact hk), List.getElem?_mapIdx, h]
  rfl
theorem mj_w_row {r c : Nat} (h : S.2[r]? = some c) : (mj_w S ad cI cR cJ cZ M)[S.1.length + r]? = some (ad (S.1.length + 1 + r), .inl (cI, c, .inl (M.1 (S.1.length + 1 + r)))) := by
  unfold mj_w
  rw [List.getElem?_append_right (by rw [List.length_mapIdx]; omega), List.length_mapIdx, Nat.add_sub_cancel_left, List.getElem?_mapIdx, h]
  rfl
theorem mj_e_eq {k : Nat} {K : mj_K} (h1 : M'.1 k = M.1 k) (h2 : ∀ n, K = .inr (.inr (.inr (.inl n))) → M'.2 = M.2) : mj_e S ad cI cR cJ cZ M k K = mj_e S ad cI cR cJ cZ M' k K := by
  match K, h2 with
  | .inl (ci, fs), _ => simp only [mj_e, mj_fl, h1]
  | .inr (.inl n), _ => simp only [mj_e, h1]
  | .inr (.inr (.inl (n, c, o))), _ => rfl
  | .inr (.inr (.inr (.inl n))), h2 => simp only [mj_e, h2 n rfl]
  | .inr (.inr (.inr (.inr n))), _ => simp only [mj_e, h1]
theorem mj_w_set {k : Nat} {K : mj_K} (h : S.1[k]? = some K) (hm : ∀ a, a ≠ k → M'.1 a = M.1 a) (hl : ∀ a n, a ≠ k → S.1[a]? = some (.inr (.inr (.inr (.inl n)))) → M'.2 = M.2) : (mj_w S ad cI cR cJ cZ M).set k (ad k, mj_e S ad cI cR cJ cZ M' k K) = mj_w S ad cI cR cJ cZ M' := by
  have hk : k < S.1.length := (List.getElem?_eq_some_iff.mp h).1
  unfold mj_w
  rw [List.set_append, if_pos (by rw [List.length_mapIdx]; exact hk)]
  congr 1
  · apply List.ext_getElem?
    intro n
    rw [List.getElem?_set, List.getElem?_mapIdx, List.length_mapIdx, List.getElem?_mapIdx]
    by_cases e : k = n
    · subst e
      rw [if_pos rfl, if_pos hk, h, Option.map_some]
    · rw [if_neg e]
      cases hn : S.1[n]? with
      | none => rfl
      | some a =>
        rw [Option.map_some, Option.map_some]
        rw [mj_e_eq (M' := M') (hm n (Ne.symm e)) (fun n9 h9 => hl n n9 (Ne.symm e) (by rw [hn, h9]))]
  · apply List.ext_getElem?
    intro n
    rw [List.getElem?_mapIdx, List.getElem?_mapIdx]
    cases S.2[n]? with
    | none => rfl
    | some a => rw [Option.map_some, Option.map_some, hm (S.1.length + 1 + n) (by omega)]
theorem mj_w_setr {r c : Nat} (h : S.2[r]? = some c) (hm : ∀ a, a ≠ S.1.length + 1 + r → M'.1 a = M.1 a) (hl : M'.2 = M.2) : (mj_w S ad cI cR cJ cZ M).set (S.1.length + r) (ad (S.1.length + 1 + r), .inl (cI, c, .inl (M'.1 (S.1.length + 1 + r)))) = mj_w S ad cI cR cJ cZ M' := by
  have hk : r < S.2.length := (List.getElem?_eq_some_iff.mp h).1
  unfold mj_w
  rw [List.set_append, if_neg (by rw [List.length_mapIdx]; omega), List.length_mapIdx, Nat.add_sub_cancel_left]
  congr 1
  · apply List.ext_getElem?
    intro n
    rw [List.getElem?_mapIdx, List.getElem?_mapIdx]
    cases hn : S.1[n]? with
    | none => rfl
    | some a =>
      have hn9 : n < S.1.length := (List.getElem?_eq_some_iff.mp hn).1
      rw [Option.map_some, Option.map_some, mj_e_eq (M' := M') (hm n (by omega)) (fun _ _ => hl)]
  · apply List.ext_getElem?
    intro n
    rw [List.getElem?_set, List.getElem?_mapIdx, List.length_mapIdx, List.getElem?_mapIdx]
    by_cases e : r = n
    · subst e
      rw [if_pos rfl, if_pos hk, h, Option.map_some]
    · rw [if_neg e]
      cases S.2[n]? with
      | none => rfl
      | some a => rw [Option.map_some, Option.map_some, hm (S.1.length + 1 + n) (by omega)]
/-- the addresses of a world are the same whatever it holds -/
theorem mj_D_any {A : Nat → Prop} (h : va_D A (mj_w S ad cI cR cJ cZ M)) : va_D A (mj_w S ad cI cR cJ cZ M') := by
  have key : ∀ (n : Nat) (q : Nat × va_E), (mj_w S ad cI cR cJ cZ M')[n]? = some q → ∃ q0, (mj_w S ad cI cR cJ cZ M)[n]? = some q0 ∧ q0.1 = q.1 := by
    intro n q hq
    by_cases hn : n < S.1.length
    · have h1 := mj_w_at (S := S) (ad := ad) (cI := cI) (cR := cR) (cJ := cJ) (cZ := cZ) (M := M) (List.getElem?_eq_getElem hn)
      have h2 := mj_w_at (S := S) (ad := ad) (cI := cI) (cR := cR) (cJ := cJ) (cZ := cZ) (M := M') (List.getElem?_eq_getElem hn)
      rw [h2] at hq
      cases hq
      exact ⟨_, h1, rfl⟩
    · have hl : n < S.1.length + S.2.length := by
        have := (List.getElem?_eq_some_iff.mp hq).1
        unfold mj_w at this
        rw [List.length_append, List.length_mapIdx, List.length_mapIdx] at this
        exact this
      have e : n = S.1.length + (n - S.1.length) := by omega
      have hr : n - S.1.length < S.2.length := by omega
      have h1 := mj_w_row (S := S) (ad := ad) (cI := cI) (cR := cR) (cJ := cJ) (cZ := cZ) (M := M) (List.getElem?_eq_getElem hr)
      have h2 := mj_w_row (S := S) (ad := ad) (cI := cI) (cR := cR) (cJ := cJ) (cZ := cZ) (M := M') (List.getElem?_eq_getElem hr)
      rw [← e] at h1 h2
      rw [h2] at hq
      cases hq
      exact ⟨_, h1, rfl⟩
  refine ⟨fun i j x y hi hj hxy => ?_, fun n q hq => ?_⟩
  · obtain ⟨x0, h1, h2⟩ := key i x hi
    obtain ⟨y0, h3, h4⟩ := key j y hj
    exact h.1 i j x0 y0 h1 h3 (h2.trans (hxy.trans h4.symm))
  · obtain ⟨q0, h1, h2⟩ := key n q hq
    rw [← h2]
    exact h.2 n q0 h1
end
section
variable {S : mj_S} {ad : Nat → Nat} {nL : Nat} {lo : mj_L} {ls : Array Slot}
def mj_lv (S : mj_S) (ad : Nat → Nat) (nL : Nat) (lo : mj_L) (ls : Array Slot) : Prop := ls.size = nL ∧ lv_wf ls ∧ ∀ (i : Nat) (v : mj_V), lo i = some v → ls[i]? = some (.val (mj_c S ad v)) ∧ mj_one v = true
def mj_ll (S : mj_S) (ad : Nat → Nat) (nL : Nat) (lo : mj_L) : List (Nat × Value) := (List.range nL).filterMap (fun j => (lo j).map (fun v => (j, mj_c S ad v)))
theorem mj_lv.has (h : mj_lv S ad nL lo ls) : lv_has ls nL (mj_ll S ad nL lo) := by
  refine ⟨h.1, h.2.1, fun q hq => ?_⟩
  obtain ⟨j, -, hj⟩ := List.mem_filterMap.mp hq
  cases hl : lo j with
  | none => rw [hl] at hj; cases hj
  | some v =>
    rw [hl] at hj
    cases hj
    exact (h.2.2 j v hl).1
theorem mj_lv.mem (h : mj_lv S ad nL lo ls) {j : Nat} {v : mj_V} (hv : lo j = some v) : (j, mj_c S ad v) ∈ mj_ll S ad nL lo := by
  have h1 : j < ls.size := (Array.getElem?_eq_some_iff.mp (h.2.2 j v hv).1).1
  exact List.mem_filterMap.mpr ⟨j, List.mem_range.mpr (by rw [← h.1]; exact h1), by rw [hv]; rfl⟩
theorem mj_lv.up (h : mj_lv S ad nL lo ls) {ls' : Array Slot} {i : Nat} {v : mj_V} (h1 : mj_one v = true) (hs : lv_has ls' nL ((i, mj_c S ad v) :: (mj_ll S ad nL lo).filter (fun q => !(q.1 == i) && !(q.1 + 1 == i && q.2.category == 2)))) : mj_lv S ad nL (mj_up lo i v) ls' := by
  refine ⟨hs.1, hs.2.1, fun j w hw => ?_⟩
  unfold mj_up at hw
  by_cases e : j = i
  · subst e
    rw [if_pos rfl] at hw
    cases hw
    exact ⟨hs.2.2 (j, mj_c S ad v) List.mem_cons_self, h1⟩
  · rw [if_neg e] at hw
    obtain ⟨-, b⟩ := h.2.2 j w hw
    refine ⟨hs.2.2 (j, mj_c S ad w) (List.mem_cons_of_mem _ (List.mem_filter.mpr ⟨h.mem hw, ?_⟩)), b⟩
    simp [e, mj_c1 S ad b]
theorem mj_lv.del (h : mj_lv S ad nL lo ls) {ls' : Array Slot} {i : Nat} {x : Nat} (hs : lv_has ls' nL ((i, Value.ref x) :: (mj_ll S ad nL lo).filter (fun q => !(q.1 == i) && !(q.1 + 1 == i && q.2.category == 2)))) : mj_lv S ad nL (mj_dl lo i) ls' := by
  refine ⟨hs.1, hs.2.1, fun j w hw => ?_⟩
  unfold mj_dl at hw
  by_cases e : j = i
  · rw [if_pos e] at hw
    cases hw
  · rw [if_neg e] at hw
    obtain ⟨-, b⟩ := h.2.2 j w hw
    refine ⟨hs.2.2 (j, mj_c S ad w) (List.mem_cons_of_mem _ (List.mem_filter.mpr ⟨h.mem hw, ?_⟩)), b⟩
    simp [e, mj_c1 S ad b]
theorem mj_sl : ∀ (as : List mj_V), (∀ v ∈ as, mj_one v = true) → (lg_sl (as.map (mj_c S ad))).length = as.length
  | [], _ => rfl
  | v :: as, h => by
    have h1 := mj_sl as (fun w hw => h w (List.mem_cons_of_mem _ hw))
    have h2 := mj_c1 S ad (h v List.mem_cons_self)
    have e : lg_sl ((v :: as).map (mj_c S ad)) = (if (mj_c S ad v).category = 2 then [Slot.val (mj_c S ad v), .second] else [Slot.val (mj_c S ad v)]) ++ lg_sl (as.map (mj_c S ad)) := by
      simp [lg_sl]
    rw [e, if_neg (by rw [h2]; decide), List.length_append, h1, List.length_cons]
    simp only [List.length_cons, List.length_nil]
    omega
theorem mj_av : ∀ (as : List mj_V) (i j : Nat) (v : mj_V), (∀ v ∈ as, mj_one v = true) → as[j]? = some v → (i + j, mj_c S ad v) ∈ lv_args i (as.map (mj_c S ad))
  | [], i, j, v, _, h => by simp at h
  | w :: as, i, 0, v, _, h => by
    have e : w = v := by simpa using h
    subst e
    exact List.mem_cons_self
  | w :: as, i, j + 1, v, h1, h => by
    have h2 := mj_c1 S ad (h1 w List.mem_cons_self)
    have h3 : as[j]? = some v := by simpa using h
    have h4 := mj_av as (i + 1) j v (fun w hw => h1 w (List.mem_cons_of_mem _ hw)) h3
    show _ ∈ (i, mj_c S ad w) :: lv_args (if (mj_c S ad w).category = 2 then i + 2 else i + 1) (as.map (mj_c S ad))
    rw [if_neg (by rw [h2]; decide)]
    refine List.mem_cons_of_mem _ ?_
    rw [show i + (j + 1) = i + 1 + j by omega]
    exact h4
theorem mj_entry (as : List mj_V) (h1 : ∀ v ∈ as, mj_one v = true) (hn : as.length ≤ nL) : mj_lv S ad nL (fun j => as[j]?) ((lg_sl (as.map (mj_c S ad)) ++ List.replicate (nL - (lg_sl (as.map (mj_c S ad))).length) Slot.unset).toArray) := by
  have hl := lv_entry (as.map (mj_c S ad)) (n := nL) (by rw [mj_sl as h1]; exact hn)
  refine ⟨hl.1, hl.2.1, fun i v hv => ⟨?_, h1 v (List.mem_of_getElem? hv)⟩⟩
  have h2 := mj_av (S := S) (ad := ad) as 0 i v h1 hv
  rw [Nat.zero_add] at h2
  exact hl.2.2 (i, mj_c S ad v) h2
end
