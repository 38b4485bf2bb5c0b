/-! Arrays.fill of an int array of 60, by its own contract -/
def yf_ : MethodName := ⟨"java/util/Arrays", "fill", "([II)V"⟩
abbrev bf_ : ByteArray := prog_16_method_103_code
theorem df_0 : decode bf_ 0 = .ok (.iconst 0, 1) := by decide +kernel
theorem df_1 : decode bf_ 1 = .ok (.istore_n 2, 1) := by decide +kernel
theorem df_2 : decode bf_ 2 = .ok (.aload_n 0, 1) := by decide +kernel
theorem df_3 : decode bf_ 3 = .ok (.arraylength, 1) := by decide +kernel
theorem df_4 : decode bf_ 4 = .ok (.istore_n 3, 1) := by decide +kernel
theorem df_5 : decode bf_ 5 = .ok (.iload_n 2, 1) := by decide +kernel
theorem df_6 : decode bf_ 6 = .ok (.iload_n 3, 1) := by decide +kernel
theorem df_7 : decode bf_ 7 = .ok (.if_icmp .ge 13, 3) := by decide +kernel
theorem df_10 : decode bf_ 10 = .ok (.aload_n 0, 1) := by decide +kernel
theorem df_11 : decode bf_ 11 = .ok (.iload_n 2, 1) := by decide +kernel
theorem df_12 : decode bf_ 12 = .ok (.iload_n 1, 1) := by decide +kernel
theorem df_13 : decode bf_ 13 = .ok (.iastore, 1) := by decide +kernel
theorem df_14 : decode bf_ 14 = .ok (.iinc 2 1, 3) := by decide +kernel
theorem df_17 : decode bf_ 17 = .ok (.goto (-12), 3) := by decide +kernel
theorem df_20 : decode bf_ 20 = .ok (.return_, 1) := by decide +kernel
def wf_ : List Cond := Cond.code yf_ bf_ 4 none :: mj_tbl
theorem mk_up {f : Nat → Int32} {v : Int32} {i : Nat} (hf : ∀ j, j < i → f j = v) : ∀ j, j < i + 1 → upd f i v j = v := by
  intro j hj
  unfold upd
  split
  · rfl
  · exact hf j (by omega)
theorem mk_cl {i : Nat} (h : i < 60) : vp_in (Int32.ofNat i) 60 ∧ (Int32.ofNat i).toNatClampNeg = i := by
  have h1 : (Int32.ofNat i).toNatClampNeg = i := by
    rw [Int32.toNatClampNeg_ofNat_of_lt (by omega)]
  refine ⟨?_, h1⟩
  unfold vp_in
  rw [h1]
  intro h9
  rcases h9 with h9 | h9
  · have : (Int32.ofNat i).toInt < 0 := by simpa using Int32.lt_iff_toInt_lt.mp h9
    rw [Int32.toInt_ofNat_of_lt (by omega)] at this
    omega
  · omega
theorem mk_ge {i : Nat} (h : i < 60) : ¬ (60 : Int32) ≤ Int32.ofNat i := by
  intro h9
  have h1 := Int32.le_iff_toInt_le.mp h9
  rw [Int32.toInt_ofNat_of_lt (by omega)] at h1
  have : (60 : Int32).toInt = 60 := by decide
  omega
section
variable {p : Program} {l : Launch} {e : Env} {R : Room} {s : State} {m : MethodId} {args : Array Value} {below : List Frame} {meth : Method} {c : Code} {cells slots : Nat} {Q : State → Prop}
set_option maxHeartbeats 4000000 in
theorem fl_loop {D : va_G} {tys : List (ClassId × FieldType)} {cI : ClassId} {a : Nat} {v : Int32} {A : Nat → Prop} {H0 : Heap} (hx : p.tables.exec = Jvm.exec) (hb : c.code = bf_) (hK : va_K D vwCl tys s) (ht : tys[0]? = some (cI, .int))
    (kk : ∀ (f : Nat → Int32) (H : Heap) (locs : List Loc) (ls : Array Slot), (∀ j, j < 60 → f j = v) → va_P D vwCl [(a, .inl (cI, 60, .inl f))] H → va_D A [(a, .inl (cI, 60, .inl f))] → va_S A H0 H locs → W p l e R s m args below meth c H locs cells slots Q (F0 m 20 ls [])) :
    ∀ (k i : Nat) (f : Nat → Int32) (H : Heap) (locs : List Loc) (ls : Array Slot), k + i = 60 → (∀ j, j < i → f j = v) → va_P D vwCl [(a, .inl (cI, 60, .inl f))] H → va_D A [(a, .inl (cI, 60, .inl f))] → va_S A H0 H locs → lv_has ls 4 [(2, .int (Int32.ofNat i)), (3, .int 60), (0, .ref a), (1, .int v)] → W p l e R s m args below meth c H locs cells slots Q (F0 m 5 ls []) := by
  intro k
  induction k with
  | zero =>
    intro i f H locs ls hi hf hP hD hS hl
    have hi : i = 60 := by omega
    subst hi
    refine lv_iload_n hx hb df_5 rfl (lv_at hl 0 rfl) ?_
    refine lv_iload_n hx hb df_6 rfl (lv_at hl 1 rfl) ?_
    refine lv_icmp_ge (tgt := 20) hx hb df_7 (by decide) (fun _ => ?_) (fun h => absurd (by decide) h)
    exact kk f H locs ls hf hP hD hS
  | succ k ih =>
    intro i f H locs ls hi hf hP hD hS hl
    have hi9 : i < 60 := by omega
    obtain ⟨c1, c2⟩ := mk_cl hi9
    refine lv_iload_n hx hb df_5 rfl (lv_at hl 0 rfl) ?_
    refine lv_iload_n hx hb df_6 rfl (lv_at hl 1 rfl) ?_
    refine lv_icmp_ge (tgt := 20) hx hb df_7 (by decide) (fun h => absurd h (mk_ge hi9)) (fun _ => ?_)
    refine lv_aload_n hx hb df_10 rfl (lv_at hl 2 rfl) ?_
    refine lv_iload_n hx hb df_11 rfl (lv_at hl 0 rfl) ?_
    refine lv_iload_n hx hb df_12 rfl (lv_at hl 3 rfl) ?_
    refine va_iast hx hb hK hP hD hS 0 0 rfl ht c1 df_13 (fun H locs hP hD hS => ?_)
    rw [c2] at hP hD
    refine lv_iinc (k := 0) (v := Int32.ofNat (i + 1)) hx hb df_14 hl rfl (by rw [Int32.ofNat_add]; rfl) (by decide) rfl (fun ls hl => ?_)
    refine lv_goto (tgt := 5) hx hb df_17 (by decide) ?_
    exact ih (i + 1) (upd f i v) H locs ls (by omega) (mk_up hf) hP hD hS hl
end
set_option maxHeartbeats 4000000 in
set_option maxRecDepth 100000 in
theorem c_fill (l : Launch) (D : va_G) (cI cR cJ cZ : ClassId) (a sz : Nat) (f : Nat → Int32) (v : Int32) : Met l yf_ wf_ ({ frames := 0, cells := 0, slots := 0, locals := 0 }) (va_Pc [.ref a, .int v] (fun U => U.heap.size = sz ∧ va_P D vwCl [(a, .inl (cI, 60, .inl f))] U.heap ∧ va_K D vwCl (mj_tys cI cR cJ cZ) U ∧ va_D (fun _ => True) [(a, .inl (cI, 60, .inl f))])) (va_Qv (fun _ : Unit => True) (fun _ t => va_P D vwCl [(a, .inl (cI, 60, .inl (fun _ => v)))] t.heap ∧ va_K D vwCl (mj_tys cI cR cJ cZ) t ∧ va_D (va_A [(a, .inl (cI, 60, .inl f))] sz) [(a, .inl (cI, 60, .inl (fun _ => v)))]) (va_A [(a, .inl (cI, 60, .inl f))] sz)) 0 0 (va_A [(a, .inl (cI, 60, .inl f))] sz) := by
  refine Met.ofW (cc := bf_) (maxL := 4) (ret := none) (by decide) rfl ?_
  intro p e s m args below meth c s₁ B hml hv
  obtain ⟨rfl, hsz, hP, hK, hD0⟩ := hv
  have hx := B.exec
  have hb := B.bytes
  have hr := B.returns
  have hlocks := B.notSynchronized
  subst hsz
  have hD := hD0.self (sz := s.heap.size)
  generalize hAe : va_A [(a, .inl (cI, 60, .inl f))] s.heap.size = A at hD ⊢
  have hS : va_S A s.heap s.heap [] := va_S.rf
  have hl := lv_entry ([.ref a, .int v]) (n := 4) (Nat.le_of_ble_eq_true rfl)
  rw [lg_entry_eq]
  generalize (lg_sl ([.ref a, .int v]) ++ List.replicate (4 - (lg_sl ([.ref a, .int v])).length) Slot.unset).toArray = ls at hl ⊢
  have hl : lv_has ls 4 [(0, .ref a), (1, .int v)] := hl
  refine lv_iconst (v := 0) hx hb df_0 (by decide) ?_
  refine lv_istore_n hx hb df_1 rfl hl (by decide) rfl (fun ls hl => ?_)
  have hl : lv_has ls 4 [(2, .int 0), (0, .ref a), (1, .int v)] := hl
  refine lv_aload_n hx hb df_2 rfl (lv_at hl 1 rfl) ?_
  refine va_alen (v := 60) (ty := .int) hx hb hK hP 0 0 rfl rfl (by show Int32.ofNat 60 = 60; decide) df_3 ?_
  refine lv_istore_n hx hb df_4 rfl hl (by decide) rfl (fun ls hl => ?_)
  have hl : lv_has ls 4 [(3, .int 60), (2, .int 0), (0, .ref a), (1, .int v)] := hl
  have hl2 : lv_has ls 4 [(2, .int (Int32.ofNat 0)), (3, .int 60), (0, .ref a), (1, .int v)] := ⟨hl.1, hl.2.1, fun q hq => hl.2.2 q (by
    simp only [List.mem_cons, List.not_mem_nil, or_false] at hq ⊢
    rcases hq with h | h | h | h
    · exact Or.inr (Or.inl h)
    · exact Or.inl h
    · exact Or.inr (Or.inr (Or.inl h))
    · exact Or.inr (Or.inr (Or.inr h)))⟩
  refine fl_loop (v := v) hx hb hK rfl (fun f9 H locs ls hf hP hD hS => ?_) 60 0 f s.heap [] ls rfl (fun j hj => absurd hj (Nat.not_lt_zero _)) hP hD hS hl2
  have hP9 : va_P D vwCl [(a, .inl (cI, 60, .inl (fun _ => v)))] H := fun k q hk => by
    cases k with
    | zero =>
      cases hk
      have h9 := hP 0 _ rfl
      show H[a]? = some (vp_cell cI (60, .inl (fun _ => v)))
      rw [← mk_cell (c := cI) hf]
      exact h9
    | succ k => cases hk
  have hD9 : va_D A [(a, .inl (cI, 60, .inl (fun _ => v)))] := hD.set (p := 0) (e := .inl (cI, 60, .inl (fun _ => v))) rfl
  exact W.vret hx hb hr (fun t ht hW => ⟨⟨(), rfl, trivial, by rw [ht]; exact hP9, va_K.moved hW.alike hK, hD9⟩, hS.F ht⟩) hS.2.2 df_20
