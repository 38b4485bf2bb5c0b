/-! the constructors of the ledger and of the seeker -/
def yL_ : MethodName := ⟨"ExplainDifference$Ledger", "<init>", "()V"⟩
abbrev bL_ : ByteArray := prog_2_method_1_code
def wcL_ : List Cond := Cond.code yL_ bL_ 1 none :: mj_tbl
def wr_ (cI : ClassId) (r : Nat → Nat) : va_W := (List.range 24).map (fun i => (r i, .inl (cI, 8, .inl (fun _ => 0))))
def wl_ (cI cR : ClassId) (h0 q0 q1 q2 : Nat) (r : Nat → Nat) : va_W := (h0, .inr (0, [.ref q0, .ref q1, .ref q2, .int 0, .int 0, .int 0, .int 10000])) :: (q0, .inl (cR, 24, .inr (.inr (.inr (.inr (fun i => if i < 24 then some (r i) else none)))))) :: (q1, .inl (cI, 60, .inl (fun _ => 0))) :: (q2, .inl (cI, 60, .inl (fun _ => -1))) :: wr_ cI r
theorem dL_0 : decode bL_ 0 = .ok (.aload_n 0, 1) := by decide +kernel
theorem dL_1 : decode bL_ 1 = .ok (.invokespecial 3, 3) := by decide +kernel
theorem dL_4 : decode bL_ 4 = .ok (.aload_n 0, 1) := by decide +kernel
theorem dL_5 : decode bL_ 5 = .ok (.bipush 24, 2) := by decide +kernel
theorem dL_7 : decode bL_ 7 = .ok (.bipush 8, 2) := by decide +kernel
theorem dL_9 : decode bL_ 9 = .ok (.multianewarray 9 2, 4) := by decide +kernel
theorem dL_13 : decode bL_ 13 = .ok (.putfield 11, 3) := by decide +kernel
theorem dL_16 : decode bL_ 16 = .ok (.aload_n 0, 1) := by decide +kernel
theorem dL_17 : decode bL_ 17 = .ok (.bipush 60, 2) := by decide +kernel
theorem dL_19 : decode bL_ 19 = .ok (.newarray .int, 2) := by decide +kernel
theorem dL_21 : decode bL_ 21 = .ok (.putfield 16, 3) := by decide +kernel
theorem dL_24 : decode bL_ 24 = .ok (.aload_n 0, 1) := by decide +kernel
theorem dL_25 : decode bL_ 25 = .ok (.bipush 60, 2) := by decide +kernel
theorem dL_27 : decode bL_ 27 = .ok (.newarray .int, 2) := by decide +kernel
theorem dL_29 : decode bL_ 29 = .ok (.putfield 20, 3) := by decide +kernel
theorem dL_32 : decode bL_ 32 = .ok (.aload_n 0, 1) := by decide +kernel
theorem dL_33 : decode bL_ 33 = .ok (.getfield 20, 3) := by decide +kernel
theorem dL_36 : decode bL_ 36 = .ok (.iconst (-1), 1) := by decide +kernel
theorem dL_37 : decode bL_ 37 = .ok (.invokestatic 23, 3) := by decide +kernel
theorem dL_40 : decode bL_ 40 = .ok (.aload_n 0, 1) := by decide +kernel
theorem dL_41 : decode bL_ 41 = .ok (.sipush 10000, 3) := by decide +kernel
theorem dL_44 : decode bL_ 44 = .ok (.putfield 29, 3) := by decide +kernel
theorem dL_47 : decode bL_ 47 = .ok (.return_, 1) := by decide +kernel
set_option maxHeartbeats 8000000 in
set_option maxRecDepth 100000 in
theorem c_L (l : Launch) (D : va_G) (cI cR cJ cZ : ClassId) (h0 sz : Nat) : Met l yL_ wcL_ ({ frames := 1, cells := 27, slots := 336, locals := 60 }) (va_Pc [.ref h0] (fun U => U.heap.size = sz ∧ va_P D vwCl [(h0, .inr (0, [.null, .null, .null, .int 0, .int 0, .int 0, .int 0]))] U.heap ∧ va_K D vwCl (mj_tys cI cR cJ cZ) U ∧ va_D (fun _ => True) [(h0, .inr (0, [.null, .null, .null, .int 0, .int 0, .int 0, .int 0]))] ∧ va_AOA .int U)) (va_Qv (fun _ : Unit => True) (fun _ t => ∃ (q0 q1 q2 : Nat) (r : Nat → Nat), va_P D vwCl (wl_ cI cR h0 q0 q1 q2 r) t.heap ∧ va_K D vwCl (mj_tys cI cR cJ cZ) t ∧ va_D (va_A [(h0, .inr (0, [.null, .null, .null, .int 0, .int 0, .int 0, .int 0]))] sz) (wl_ cI cR h0 q0 q1 q2 r)) (va_A [(h0, .inr (0, [.null, .null, .null, .int 0, .int 0, .int 0, .int 0]))] sz)) 27 336 (va_A [(h0, .inr (0, [.null, .null, .null, .int 0, .int 0, .int 0, .int 0]))] sz) := by
  refine Met.ofW (cc := bL_) (maxL := 1) (ret := none) (by decide) rfl ?_
  intro p e s m args below meth c s₁ B hml hv
  obtain ⟨rfl, hsz, hP, hK, hD0, hAO⟩ := hv
  have hx := B.exec
  have hb := B.bytes
  have hr := B.returns
  have hts9 := atoms_spec (ws := wcL_) B.pre
  have hts : ∀ w ∈ mj_tbl, w.before #[Value.ref h0] s = true := fun w hw => hts9 w (List.mem_cons_of_mem _ hw)
  have hown : s.vm.findClass "ExplainDifference$Ledger" = some m.cls := findClass_of_methodNamed B.named
  have hlocks := B.notSynchronized
  have hin : meth.name = "<init>" := (name_of_methodNamed B.named B.method).1
  subst hsz
  have hD := hD0.self (sz := s.heap.size)
  generalize hAe : va_A [(h0, .inr (0, [.null, .null, .null, .int 0, .int 0, .int 0, .int 0]))] s.heap.size = A at hD ⊢
  have hA : ∀ q : Nat, s.heap.size ≤ q → A q := fun q h => by rw [← hAe]; exact Or.inr h
  have hS : va_S A s.heap s.heap [] := va_S.rf
  have hP : va_P D vwCl [(h0, .inr (0, [.null, .null, .null, .int 0, .int 0, .int 0, .int 0]))] s.heap := hP
  have hl := lv_entry ([.ref h0]) (n := 1) (Nat.le_of_ble_eq_true rfl)
  rw [lg_entry_eq]
  generalize (lg_sl ([.ref h0]) ++ List.replicate (1 - (lg_sl ([.ref h0])).length) Slot.unset).toArray = ls at hl ⊢
  have hl : lv_has ls 1 [(0, .ref h0)] := hl
  refine lv_aload_n hx hb dL_0 rfl (lv_at hl 0 rfl) ?_
  refine W.objInit (own := "ExplainDifference$Ledger") hx hb hown (hts (.methodLink "ExplainDifference$Ledger" 3 Lib.objectInit) (mj_inM (by decide +kernel))) (hts (.instanceMethod Lib.objectInit) (mj_inI (by decide +kernel))) (hts _ (mj_inC (List.mem_of_getElem? (i := 1) (by decide +kernel)))) rfl (by rw [hml]; exact hl.1) rfl dL_1 (Nat.le_of_ble_eq_true rfl) (Nat.le_of_ble_eq_true rfl) ?_
  refine W.eq (g2 := F0 m 4 ls []) rfl ?_
  have hcy : s.vm.findClass (FieldType.array .int).toString = some cI := (hK.2 0 (cI, .int) rfl).2
  refine lv_aload_n hx hb dL_4 rfl (lv_at hl 0 rfl) ?_
  refine lv_bipush (v := 24) hx hb dL_5 (by decide) ?_
  refine lv_bipush (v := 8) hx hb dL_7 (by decide) ?_
  refine va_mna (X := [(h0, .inr (0, [.null, .null, .null, .int 0, .int 0, .int 0, .int 0]))]) (L := []) (f := fun _ => .inr (0, [])) (N' := 24) (K' := 8) (z := (8, .inl (fun _ => 0))) (ty := .int) (own := "ExplainDifference$Ledger") hx hb hown (hts _ (mj_inL (by decide +kernel))) hAO (hts _ (mj_inO (by decide +kernel))) hcy hK hP hD hS hA (by decide) (by decide) (by decide) (by decide) (by decide) (by decide) (by decide) rfl rfl (Nat.le_of_ble_eq_true rfl) (Nat.le_of_ble_eq_true rfl) (fun c9 => by rw [vp_cell_i]; rfl) dL_9 (fun q0 r cA H hinj _ hK9 hP hD hS => ?_)
  have ecA : cA = cR := ra_R s cA cR (hK9.2 4 _ rfl).2 (hK.2 1 _ rfl).2
  subst ecA
  rw [← vr_rows (fun a _ h9 => by cases h9), List.map_map] at hP hD
  have hP : va_P D vwCl ((h0, .inr (0, [.null, .null, .null, .int 0, .int 0, .int 0, .int 0])) :: (q0, .inl (cA, 24, .inr (.inr (.inr (.inr (fun i => if i < 24 then some (r i) else none)))))) :: wr_ cI r) H := hP
  have hD : va_D A ((h0, .inr (0, [.null, .null, .null, .int 0, .int 0, .int 0, .int 0])) :: (q0, .inl (cA, 24, .inr (.inr (.inr (.inr (fun i => if i < 24 then some (r i) else none)))))) :: wr_ cI r) := hD
  obtain ⟨g1, g2, g3⟩ := mj_okC1 (C := "ExplainDifference$Ledger") (F := mj_F0) (N := 7) (by decide +kernel)
  refine va_putF (D := D) (ci := 0) (v := .ref q0) (ty := .array (.array .int)) (C := "ExplainDifference$Ledger") (T := mj_F0) (N := 7) hx hb hts g1 _ g2 g3 hown hK hP hD hS 0 rfl rfl 0 (by decide) (hts _ (mj_inF (by decide +kernel))) (fun _ h9 => h9) rfl hin rfl (by decide +kernel) rfl rfl (Nat.le_of_ble_eq_true rfl) dL_13 (fun H locs hP hD hS => ?_)
  refine lv_aload_n hx hb dL_16 rfl (lv_at hl 0 rfl) ?_
  refine lv_bipush (v := 60) hx hb dL_17 (by decide) ?_
  refine nx_arr (ci := 0) (k := 1) (idx := 16) (n := 60) (N' := 60) (ty := .int) (atype := .int) (C := "ExplainDifference$Ledger") (F := mj_F0) hx hb hts rfl (by decide +kernel) hown hin hK hP hD hS hA rfl (mj_inO (by decide +kernel)) (t0 := 0) rfl ra_I rfl (by decide) (by decide) (by decide) (Nat.le_of_ble_eq_true rfl) (Nat.le_of_ble_eq_true rfl) (by decide) (Nat.le_of_ble_eq_true rfl) (by decide +kernel) rfl rfl (by decide +kernel) dL_19 dL_21 (fun q1 H locs hP hD hS => ?_)
  refine lv_aload_n hx hb dL_24 rfl (lv_at hl 0 rfl) ?_
  refine lv_bipush (v := 60) hx hb dL_25 (by decide) ?_
  refine nx_arr (ci := 0) (k := 2) (idx := 20) (n := 60) (N' := 60) (ty := .int) (atype := .int) (C := "ExplainDifference$Ledger") (F := mj_F0) hx hb hts rfl (by decide +kernel) hown hin hK hP hD hS hA rfl (mj_inO (by decide +kernel)) (t0 := 0) rfl ra_I rfl (by decide) (by decide) (by decide) (Nat.le_of_ble_eq_true rfl) (Nat.le_of_ble_eq_true rfl) (by decide) (Nat.le_of_ble_eq_true rfl) (by decide +kernel) rfl rfl (by decide +kernel) dL_27 dL_29 (fun q2 H locs hP hD hS => ?_)
  have hP : va_P D vwCl ((h0, .inr (0, [.ref q0, .ref q1, .ref q2, .int 0, .int 0, .int 0, .int 0])) :: (q0, .inl (cA, 24, .inr (.inr (.inr (.inr (fun i => if i < 24 then some (r i) else none)))))) :: (q1, .inl (cI, 60, .inl (fun _ => 0))) :: (q2, .inl (cI, 60, .inl (fun _ => 0))) :: wr_ cI r) H := hP.sub [0, 1, 26, 27, 2, 3, 4, 5, 6, 7, 8, 9, 10, 11, 12, 13, 14, 15, 16, 17, 18, 19, 20, 21, 22, 23, 24, 25] rfl
  have hD : va_D A ((h0, .inr (0, [.ref q0, .ref q1, .ref q2, .int 0, .int 0, .int 0, .int 0])) :: (q0, .inl (cA, 24, .inr (.inr (.inr (.inr (fun i => if i < 24 then some (r i) else none)))))) :: (q1, .inl (cI, 60, .inl (fun _ => 0))) :: (q2, .inl (cI, 60, .inl (fun _ => 0))) :: wr_ cI r) := hD.sub [0, 1, 26, 27, 2, 3, 4, 5, 6, 7, 8, 9, 10, 11, 12, 13, 14, 15, 16, 17, 18, 19, 20, 21, 22, 23, 24, 25] (by decide) rfl
  refine lv_aload_n hx hb dL_32 rfl (lv_at hl 0 rfl) ?_
  refine va_get (D := D) (ci := 0) (v := .ref q2) (C := "ExplainDifference$Ledger") (T := mj_F0) (N := 7) hx hb hts g1 hown hK hP 0 rfl rfl 2 (by decide) (hts _ (mj_inF (by decide +kernel))) (fun _ h9 => h9) rfl dL_33 ?_
  refine lv_iconst (v := -1) hx hb dL_36 (by decide) ?_
  have hPc := hP.sub (ws' := [(q2, .inl (cI, 60, .inl (fun _ => 0)))]) [3] rfl
  have hDc := hD.sub (ws' := [(q2, .inl (cI, 60, .inl (fun _ => 0)))]) [3] (by decide) rfl
  have hFc := va_free (wc := [(q2, .inl (cI, 60, .inl (fun _ => 0)))]) hD hS hA [3] rfl
  refine va_callv (va_runS (As := [.ref q2, .int (-1)]) (rest := []) ⟨hx, hb, hml, hown, hts⟩ (c_fill l D cI cA cJ cZ q2 H.size (fun _ => 0) (-1)) ⟨callB_of 2 hts (mk_in (by decide +kernel)) rfl rfl rfl (hts _ (mj_inN (by decide +kernel))) (hts _ (mj_inM (by decide +kernel))) (by decide +kernel) ⟨Nat.le_of_ble_eq_true rfl, Nat.le_of_ble_eq_true rfl⟩, hts _ (mj_inT (by decide +kernel))⟩ ⟨fun a U g mk q => by obtain ⟨q0, q1, qP, qK, qD⟩ := q; exact ⟨q0, q1, qP, va_K.moved (u := U) (U := U.calling g mk a) (Vm.Alike.refl U.vm) qK, qD⟩, fun U hU hW => ⟨rfl, by rw [hU], by rw [hU]; exact hPc, va_K.moved hW.alike hK, hDc.weaken (fun _ _ _ _ => trivial)⟩⟩ rfl rfl hl.1 rfl (lv_room (Nat.le_of_ble_eq_true rfl)) dL_37 ⟨Nat.le_of_ble_eq_true rfl, Nat.le_of_ble_eq_true rfl⟩) hS (fun q _ h => hFc q h) hFc (fun u t H1 locs ht hvm h5 hB hz1 hk1 hS => ?_)
  obtain ⟨hP1, hK1, hD1⟩ := hB
  rw [ht] at hP1
  obtain ⟨hP, hD⟩ := va_join (wr := (h0, .inr (0, [.ref q0, .ref q1, .ref q2, .int 0, .int 0, .int 0, .int 0])) :: (q0, .inl (cA, 24, .inr (.inr (.inr (.inr (fun i => if i < 24 then some (r i) else none)))))) :: (q1, .inl (cI, 60, .inl (fun _ => 0))) :: wr_ cI r) (w1 := [(q2, .inl (cI, 60, .inl (fun _ => -1)))]) hP hD [3] [0, 1, 2, 4, 5, 6, 7, 8, 9, 10, 11, 12, 13, 14, 15, 16, 17, 18, 19, 20, 21, 22, 23, 24, 25, 26, 27] rfl rfl (by decide) (by decide) hk1 hFc hP1 hD1
  generalize H1 = H at hP hS ⊢
  refine lv_aload_n hx hb dL_40 rfl (lv_at hl 0 rfl) ?_
  refine lv_sipush (v := 10000) hx hb dL_41 (by decide) ?_
  refine nx_int (ci := 0) (k := 6) (idx := 29) (ty := .int) (v := 10000) (C := "ExplainDifference$Ledger") (F := mj_F0) hx hb hts rfl (by decide +kernel) hown hK hP hD hS (by decide) (Nat.le_of_ble_eq_true rfl) (by decide +kernel) rfl rfl (by decide +kernel) rfl rfl dL_44 (fun H locs hP hD hS => ?_)
  have hP9 := hP.sub (ws' := wl_ cI cA h0 q0 q1 q2 r) [0, 1, 2, 27, 3, 4, 5, 6, 7, 8, 9, 10, 11, 12, 13, 14, 15, 16, 17, 18, 19, 20, 21, 22, 23, 24, 25, 26] rfl
  have hD9 := hD.sub (ws' := wl_ cI cA h0 q0 q1 q2 r) [0, 1, 2, 27, 3, 4, 5, 6, 7, 8, 9, 10, 11, 12, 13, 14, 15, 16, 17, 18, 19, 20, 21, 22, 23, 24, 25, 26] (by decide) rfl
  exact W.vret hx hb hr (fun t ht hW => ⟨⟨(), rfl, trivial, q0, q1, q2, r, by rw [ht]; exact hP9, va_K.moved hW.alike hK, hD9⟩, hS.F ht⟩) hS.2.2 dL_47
def yK_ : MethodName := ⟨"ExplainDifference$Seeker", "<init>", "()V"⟩
abbrev bK_ : ByteArray := prog_3_method_1_code
def wcK_ : List Cond := Cond.code yK_ bK_ 1 none :: mj_tbl
def wk_ (cI : ClassId) (h0 q0 q1 q2 q3 q4 q5 : Nat) : va_W := [(h0, .inr (1, [.ref q0, .ref q1, .ref q2, .ref q3, .ref q4, .ref q5, .int 0, .int 0, .int 0, .int 0, .int 0, .int 0, .int 0])), (q0, .inl (cI, 24, .inl (fun _ => 0))), (q1, .inl (cI, 4, .inl (fun _ => 0))), (q2, .inl (cI, 4, .inl (fun _ => 0))), (q3, .inl (cI, 4, .inl (fun _ => 0))), (q4, .inl (cI, 4, .inl (fun _ => 0))), (q5, .inl (cI, 24, .inl (fun _ => 0)))]
theorem dK_0 : decode bK_ 0 = .ok (.aload_n 0, 1) := by decide +kernel
theorem dK_1 : decode bK_ 1 = .ok (.invokespecial 3, 3) := by decide +kernel
theorem dK_4 : decode bK_ 4 = .ok (.aload_n 0, 1) := by decide +kernel
theorem dK_5 : decode bK_ 5 = .ok (.bipush 24, 2) := by decide +kernel
theorem dK_7 : decode bK_ 7 = .ok (.newarray .int, 2) := by decide +kernel
theorem dK_9 : decode bK_ 9 = .ok (.putfield 9, 3) := by decide +kernel
theorem dK_12 : decode bK_ 12 = .ok (.aload_n 0, 1) := by decide +kernel
theorem dK_13 : decode bK_ 13 = .ok (.iconst 4, 1) := by decide +kernel
theorem dK_14 : decode bK_ 14 = .ok (.newarray .int, 2) := by decide +kernel
theorem dK_16 : decode bK_ 16 = .ok (.putfield 15, 3) := by decide +kernel
theorem dK_19 : decode bK_ 19 = .ok (.aload_n 0, 1) := by decide +kernel
theorem dK_20 : decode bK_ 20 = .ok (.iconst 4, 1) := by decide +kernel
theorem dK_21 : decode bK_ 21 = .ok (.newarray .int, 2) := by decide +kernel
theorem dK_23 : decode bK_ 23 = .ok (.putfield 18, 3) := by decide +kernel
theorem dK_26 : decode bK_ 26 = .ok (.aload_n 0, 1) := by decide +kernel
theorem dK_27 : decode bK_ 27 = .ok (.iconst 4, 1) := by decide +kernel
theorem dK_28 : decode bK_ 28 = .ok (.newarray .int, 2) := by decide +kernel
theorem dK_30 : decode bK_ 30 = .ok (.putfield 21, 3) := by decide +kernel
theorem dK_33 : decode bK_ 33 = .ok (.aload_n 0, 1) := by decide +kernel
theorem dK_34 : decode bK_ 34 = .ok (.iconst 4, 1) := by decide +kernel
theorem dK_35 : decode bK_ 35 = .ok (.newarray .int, 2) := by decide +kernel
theorem dK_37 : decode bK_ 37 = .ok (.putfield 24, 3) := by decide +kernel
theorem dK_40 : decode bK_ 40 = .ok (.aload_n 0, 1) := by decide +kernel
theorem dK_41 : decode bK_ 41 = .ok (.bipush 24, 2) := by decide +kernel
theorem dK_43 : decode bK_ 43 = .ok (.newarray .int, 2) := by decide +kernel
theorem dK_45 : decode bK_ 45 = .ok (.putfield 27, 3) := by decide +kernel
theorem dK_48 : decode bK_ 48 = .ok (.return_, 1) := by decide +kernel
set_option maxHeartbeats 8000000 in
set_option maxRecDepth 100000 in
theorem c_K (l : Launch) (D : va_G) (cI cR cJ cZ : ClassId) (h0 sz : Nat) : Met l yK_ wcK_ ({ frames := 1, cells := 6, slots := 64, locals := 60 }) (va_Pc [.ref h0] (fun U => U.heap.size = sz ∧ va_P D vwCl [(h0, .inr (1, [.null, .null, .null, .null, .null, .null, .int 0, .int 0, .int 0, .int 0, .int 0, .int 0, .int 0]))] U.heap ∧ va_K D vwCl (mj_tys cI cR cJ cZ) U ∧ va_D (fun _ => True) [(h0, .inr (1, [.null, .null, .null, .null, .null, .null, .int 0, .int 0, .int 0, .int 0, .int 0, .int 0, .int 0]))])) (va_Qv (fun _ : Unit => True) (fun _ t => ∃ (q0 q1 q2 q3 q4 q5 : Nat), va_P D vwCl (wk_ cI h0 q0 q1 q2 q3 q4 q5) t.heap ∧ va_K D vwCl (mj_tys cI cR cJ cZ) t ∧ va_D (va_A [(h0, .inr (1, [.null, .null, .null, .null, .null, .null, .int 0, .int 0, .int 0, .int 0, .int 0, .int 0, .int 0]))] sz) (wk_ cI h0 q0 q1 q2 q3 q4 q5)) (va_A [(h0, .inr (1, [.null, .null, .null, .null, .null, .null, .int 0, .int 0, .int 0, .int 0, .int 0, .int 0, .int 0]))] sz)) 6 64 (va_A [(h0, .inr (1, [.null, .null, .null, .null, .null, .null, .int 0, .int 0, .int 0, .int 0, .int 0, .int 0, .int 0]))] sz) := by
  refine Met.ofW (cc := bK_) (maxL := 1) (ret := none) (by decide) rfl ?_
  intro p e s m args below meth c s₁ B hml hv
  obtain ⟨rfl, hsz, hP, hK, hD0⟩ := hv
  have hx := B.exec
  have hb := B.bytes
  have hr := B.returns
  have hts9 := atoms_spec (ws := wcK_) B.pre
  have hts : ∀ w ∈ mj_tbl, w.before #[Value.ref h0] s = true := fun w hw => hts9 w (List.mem_cons_of_mem _ hw)
  have hown : s.vm.findClass "ExplainDifference$Seeker" = some m.cls := findClass_of_methodNamed B.named
  have hlocks := B.notSynchronized
  have hin : meth.name = "<init>" := (name_of_methodNamed B.named B.method).1
  subst hsz
  have hD := hD0.self (sz := s.heap.size)
  generalize hAe : va_A [(h0, .inr (1, [.null, .null, .null, .null, .null, .null, .int 0, .int 0, .int 0, .int 0, .int 0, .int 0, .int 0]))] s.heap.size = A at hD ⊢
  have hA : ∀ q : Nat, s.heap.size ≤ q → A q := fun q h => by rw [← hAe]; exact Or.inr h
  have hS : va_S A s.heap s.heap [] := va_S.rf
  have hP : va_P D vwCl [(h0, .inr (1, [.null, .null, .null, .null, .null, .null, .int 0, .int 0, .int 0, .int 0, .int 0, .int 0, .int 0]))] s.heap := hP
  have hl := lv_entry ([.ref h0]) (n := 1) (Nat.le_of_ble_eq_true rfl)
  rw [lg_entry_eq]
  generalize (lg_sl ([.ref h0]) ++ List.replicate (1 - (lg_sl ([.ref h0])).length) Slot.unset).toArray = ls at hl ⊢
  have hl : lv_has ls 1 [(0, .ref h0)] := hl
  refine lv_aload_n hx hb dK_0 rfl (lv_at hl 0 rfl) ?_
  refine W.objInit (own := "ExplainDifference$Seeker") hx hb hown (hts (.methodLink "ExplainDifference$Seeker" 3 Lib.objectInit) (mj_inM (by decide +kernel))) (hts (.instanceMethod Lib.objectInit) (mj_inI (by decide +kernel))) (hts _ (mj_inC (List.mem_of_getElem? (i := 1) (by decide +kernel)))) rfl (by rw [hml]; exact hl.1) rfl dK_1 (Nat.le_of_ble_eq_true rfl) (Nat.le_of_ble_eq_true rfl) ?_
  refine W.eq (g2 := F0 m 4 ls []) rfl ?_
  refine lv_aload_n hx hb dK_4 rfl (lv_at hl 0 rfl) ?_
  refine lv_bipush (v := 24) hx hb dK_5 (by decide) ?_
  refine nx_arr (ci := 1) (k := 0) (idx := 9) (n := 24) (N' := 24) (ty := .int) (atype := .int) (C := "ExplainDifference$Seeker") (F := mj_F1) hx hb hts rfl (by decide +kernel) hown hin hK hP hD hS hA rfl (mj_inO (by decide +kernel)) (t0 := 0) rfl ra_I rfl (by decide) (by decide) (by decide) (Nat.le_of_ble_eq_true rfl) (Nat.le_of_ble_eq_true rfl) (by decide) (Nat.le_of_ble_eq_true rfl) (by decide +kernel) rfl rfl (by decide +kernel) dK_7 dK_9 (fun q0 H locs hP hD hS => ?_)
  refine lv_aload_n hx hb dK_12 rfl (lv_at hl 0 rfl) ?_
  refine lv_iconst (v := 4) hx hb dK_13 (by decide) ?_
  refine nx_arr (ci := 1) (k := 1) (idx := 15) (n := 4) (N' := 4) (ty := .int) (atype := .int) (C := "ExplainDifference$Seeker") (F := mj_F1) hx hb hts rfl (by decide +kernel) hown hin hK hP hD hS hA rfl (mj_inO (by decide +kernel)) (t0 := 0) rfl ra_I rfl (by decide) (by decide) (by decide) (Nat.le_of_ble_eq_true rfl) (Nat.le_of_ble_eq_true rfl) (by decide) (Nat.le_of_ble_eq_true rfl) (by decide +kernel) rfl rfl (by decide +kernel) dK_14 dK_16 (fun q1 H locs hP hD hS => ?_)
  refine lv_aload_n hx hb dK_19 rfl (lv_at hl 0 rfl) ?_
  refine lv_iconst (v := 4) hx hb dK_20 (by decide) ?_
  refine nx_arr (ci := 1) (k := 2) (idx := 18) (n := 4) (N' := 4) (ty := .int) (atype := .int) (C := "ExplainDifference$Seeker") (F := mj_F1) hx hb hts rfl (by decide +kernel) hown hin hK hP hD hS hA rfl (mj_inO (by decide +kernel)) (t0 := 0) rfl ra_I rfl (by decide) (by decide) (by decide) (Nat.le_of_ble_eq_true rfl) (Nat.le_of_ble_eq_true rfl) (by decide) (Nat.le_of_ble_eq_true rfl) (by decide +kernel) rfl rfl (by decide +kernel) dK_21 dK_23 (fun q2 H locs hP hD hS => ?_)
  refine lv_aload_n hx hb dK_26 rfl (lv_at hl 0 rfl) ?_
  refine lv_iconst (v := 4) hx hb dK_27 (by decide) ?_
  refine nx_arr (ci := 1) (k := 3) (idx := 21) (n := 4) (N' := 4) (ty := .int) (atype := .int) (C := "ExplainDifference$Seeker") (F := mj_F1) hx hb hts rfl (by decide +kernel) hown hin hK hP hD hS hA rfl (mj_inO (by decide +kernel)) (t0 := 0) rfl ra_I rfl (by decide) (by decide) (by decide) (Nat.le_of_ble_eq_true rfl) (Nat.le_of_ble_eq_true rfl) (by decide) (Nat.le_of_ble_eq_true rfl) (by decide +kernel) rfl rfl (by decide +kernel) dK_28 dK_30 (fun q3 H locs hP hD hS => ?_)
  refine lv_aload_n hx hb dK_33 rfl (lv_at hl 0 rfl) ?_
  refine lv_iconst (v := 4) hx hb dK_34 (by decide) ?_
  refine nx_arr (ci := 1) (k := 4) (idx := 24) (n := 4) (N' := 4) (ty := .int) (atype := .int) (C := "ExplainDifference$Seeker") (F := mj_F1) hx hb hts rfl (by decide +kernel) hown hin hK hP hD hS hA rfl (mj_inO (by decide +kernel)) (t0 := 0) rfl ra_I rfl (by decide) (by decide) (by decide) (Nat.le_of_ble_eq_true rfl) (Nat.le_of_ble_eq_true rfl) (by decide) (Nat.le_of_ble_eq_true rfl) (by decide +kernel) rfl rfl (by decide +kernel) dK_35 dK_37 (fun q4 H locs hP hD hS => ?_)
  refine lv_aload_n hx hb dK_40 rfl (lv_at hl 0 rfl) ?_
  refine lv_bipush (v := 24) hx hb dK_41 (by decide) ?_
  refine nx_arr (ci := 1) (k := 5) (idx := 27) (n := 24) (N' := 24) (ty := .int) (atype := .int) (C := "ExplainDifference$Seeker") (F := mj_F1) hx hb hts rfl (by decide +kernel) hown hin hK hP hD hS hA rfl (mj_inO (by decide +kernel)) (t0 := 0) rfl ra_I rfl (by decide) (by decide) (by decide) (Nat.le_of_ble_eq_true rfl) (Nat.le_of_ble_eq_true rfl) (by decide) (Nat.le_of_ble_eq_true rfl) (by decide +kernel) rfl rfl (by decide +kernel) dK_43 dK_45 (fun q5 H locs hP hD hS => ?_)
  exact W.vret hx hb hr (fun t ht hW => ⟨⟨(), rfl, trivial, q0, q1, q2, q3, q4, q5, by rw [ht]; exact hP, va_K.moved hW.alike hK, hD⟩, hS.F ht⟩) hS.2.2 dK_48
