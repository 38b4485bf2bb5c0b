/-! the class's own constructor -/
def yE_ : MethodName := ⟨"ExplainDifference", "<init>", "()V"⟩
abbrev bE_ : ByteArray := prog_1_method_1_code
def wcE_ : List Cond := Cond.code yE_ bE_ 1 none :: mj_tbl
def we_ (cI cR : ClassId) (h0 hL hK q0 q1 q2 : Nat) (r : Nat → Nat) (k0 k1 k2 k3 k4 k5 : Nat) : va_W := (h0, .inr (2, [.ref hL, .ref hK])) :: (wl_ cI cR hL q0 q1 q2 r ++ wk_ cI hK k0 k1 k2 k3 k4 k5)
theorem dE_0 : decode bE_ 0 = .ok (.aload_n 0, 1) := by decide +kernel
theorem dE_1 : decode bE_ 1 = .ok (.invokespecial 1, 3) := by decide +kernel
theorem dE_4 : decode bE_ 4 = .ok (.aload_n 0, 1) := by decide +kernel
theorem dE_5 : decode bE_ 5 = .ok (.new 7, 3) := by decide +kernel
theorem dE_8 : decode bE_ 8 = .ok (.dup, 1) := by decide +kernel
theorem dE_9 : decode bE_ 9 = .ok (.invokespecial 9, 3) := by decide +kernel
theorem dE_12 : decode bE_ 12 = .ok (.putfield 10, 3) := by decide +kernel
theorem dE_15 : decode bE_ 15 = .ok (.aload_n 0, 1) := by decide +kernel
theorem dE_16 : decode bE_ 16 = .ok (.new 16, 3) := by decide +kernel
theorem dE_19 : decode bE_ 19 = .ok (.dup, 1) := by decide +kernel
theorem dE_20 : decode bE_ 20 = .ok (.invokespecial 18, 3) := by decide +kernel
theorem dE_23 : decode bE_ 23 = .ok (.putfield 19, 3) := by decide +kernel
theorem dE_26 : decode bE_ 26 = .ok (.return_, 1) := by decide +kernel
set_option maxHeartbeats 8000000 in
set_option maxRecDepth 100000 in
theorem c_E (l : Launch) (D : va_G) (cI cR cJ cZ : ClassId) (h0 sz : Nat) : Met l yE_ wcE_ ({ frames := 2, cells := 35, slots := 420, locals := 100 }) (va_Pc [.ref h0] (fun U => U.heap.size = sz ∧ va_P D vwCl [(h0, .inr (2, [.null, .null]))] U.heap ∧ va_K D vwCl (mj_tys cI cR cJ cZ) U ∧ va_D (fun _ => True) [(h0, .inr (2, [.null, .null]))] ∧ va_AOA .int U)) (va_Qv (fun _ : Unit => True) (fun _ t => ∃ (hL hK q0 q1 q2 : Nat) (r : Nat → Nat) (k0 k1 k2 k3 k4 k5 : Nat), va_P D vwCl (we_ cI cR h0 hL hK q0 q1 q2 r k0 k1 k2 k3 k4 k5) t.heap ∧ va_K D vwCl (mj_tys cI cR cJ cZ) t ∧ va_D (va_A [(h0, .inr (2, [.null, .null]))] sz) (we_ cI cR h0 hL hK q0 q1 q2 r k0 k1 k2 k3 k4 k5)) (va_A [(h0, .inr (2, [.null, .null]))] sz)) 35 420 (va_A [(h0, .inr (2, [.null, .null]))] sz) := by
  refine Met.ofW (cc := bE_) (maxL := 1) (ret := none) (by decide) rfl ?_
  intro p e s m args below meth c s₁ B hml hv
  obtain ⟨rfl, hsz, hP, hK, hD0, hAO⟩ := hv
  have hx := B.exec
  have hb := B.bytes
  have hr := B.returns
  have hts9 := atoms_spec (ws := wcE_) B.pre
  have hts : ∀ w ∈ mj_tbl, w.before #[Value.ref h0] s = true := fun w hw => hts9 w (List.mem_cons_of_mem _ hw)
  have hown : s.vm.findClass "ExplainDifference" = some m.cls := findClass_of_methodNamed B.named
  have hlocks := B.notSynchronized
  have hin : meth.name = "<init>" := (name_of_methodNamed B.named B.method).1
  subst hsz
  have hD := hD0.self (sz := s.heap.size)
  generalize hAe : va_A [(h0, .inr (2, [.null, .null]))] s.heap.size = A at hD ⊢
  have hA : ∀ q : Nat, s.heap.size ≤ q → A q := fun q h => by rw [← hAe]; exact Or.inr h
  have hS : va_S A s.heap s.heap [] := va_S.rf
  have hP : va_P D vwCl [(h0, .inr (2, [.null, .null]))] s.heap := hP
  have hl := lv_entry ([.ref h0]) (n := 1) (Nat.le_of_ble_eq_true rfl)
  rw [lg_entry_eq]
  generalize (lg_sl ([.ref h0]) ++ List.replicate (1 - (lg_sl ([.ref h0])).length) Slot.unset).toArray = ls at hl ⊢
  have hl : lv_has ls 1 [(0, .ref h0)] := hl
  refine lv_aload_n hx hb dE_0 rfl (lv_at hl 0 rfl) ?_
  refine W.objInit (own := "ExplainDifference") hx hb hown (hts (.methodLink "ExplainDifference" 1 Lib.objectInit) (mj_inM (by decide +kernel))) (hts (.instanceMethod Lib.objectInit) (mj_inI (by decide +kernel))) (hts _ (mj_inC (List.mem_of_getElem? (i := 1) (by decide +kernel)))) rfl (by rw [hml]; exact hl.1) rfl dE_1 (Nat.le_of_ble_eq_true rfl) (Nat.le_of_ble_eq_true rfl) ?_
  refine W.eq (g2 := F0 m 4 ls []) rfl ?_
  obtain ⟨g0_1, g0_2, g0_3⟩ := mj_okC1 (C := "ExplainDifference$Ledger") (F := mj_F0) (N := 7) (by decide +kernel)
  obtain ⟨g1_1, g1_2, g1_3⟩ := mj_okC1 (C := "ExplainDifference$Seeker") (F := mj_F1) (N := 13) (by decide +kernel)
  obtain ⟨g2_1, g2_2, g2_3⟩ := mj_okC1 (C := "ExplainDifference") (F := mj_F2) (N := 2) (by decide +kernel)
  refine lv_aload_n hx hb dE_4 rfl (lv_at hl 0 rfl) ?_
  refine va_new (ci := 0) (fs := [.null, .null, .null, .int 0, .int 0, .int 0, .int 0]) (C := "ExplainDifference$Ledger") (T := mj_F0) (N := 7) (own := "ExplainDifference") hx hb hts g0_1 _ g0_2 hown (hts _ (mj_inL (by decide +kernel))) (hts _ (mj_inO (by decide +kernel))) (hts _ (mj_inN (by decide +kernel))) hK hP hD hS hA rfl (by decide +kernel) (Nat.le_of_ble_eq_true rfl) (Nat.le_of_ble_eq_true rfl) dE_5 (fun hL H hP hD hS => ?_)
  refine lv_dup hx hb dE_8 rfl ?_
  have hPc := hP.sub (ws' := [(hL, .inr (0, [.null, .null, .null, .int 0, .int 0, .int 0, .int 0]))]) [1] rfl
  have hDc := hD.sub (ws' := [(hL, .inr (0, [.null, .null, .null, .int 0, .int 0, .int 0, .int 0]))]) [1] (by decide) rfl
  have hFc := va_free (wc := [(hL, .inr (0, [.null, .null, .null, .int 0, .int 0, .int 0, .int 0]))]) hD hS hA [1] rfl
  refine va_callv (va_runI (As := []) (rest := [.ref hL, .ref h0]) ⟨hx, hb, hml, hown, hts⟩ (c_L l D cI cR cJ cZ hL H.size) (cwI 0 hts (mk_in (by decide +kernel)) rfl rfl rfl (hts _ (mj_inN (by decide +kernel))) (hts _ (mj_inM (by decide +kernel))) (hts _ (mj_inI (by decide +kernel))) rfl (by decide +kernel) ⟨Nat.le_of_ble_eq_true rfl, Nat.le_of_ble_eq_true rfl⟩) ⟨fun a U g mk q => by obtain ⟨q0, q1, qP, qK, qD, qA⟩ := q; exact ⟨q0, q1, qP, va_K.moved (u := U) (U := U.calling g mk a) (Vm.Alike.refl U.vm) qK, qD, over_moved (u := U) (E := U.calling g mk a) (Vm.Alike.refl U.vm) qA⟩, fun U hU hW => ⟨rfl, by rw [hU], by rw [hU]; exact hPc, va_K.moved hW.alike hK, hDc.weaken (fun _ _ _ _ => trivial), over_moved hW.alike hAO⟩⟩ rfl rfl hl.1 rfl (lv_room (Nat.le_of_ble_eq_true rfl)) dE_9 ⟨Nat.le_of_ble_eq_true rfl, Nat.le_of_ble_eq_true rfl⟩) hS (fun q _ h => hFc q h) hFc (fun u t H1 locs ht hvm h5 hB hz1 hk1 hS => ?_)
  obtain ⟨q0, q1, q2, r, hP1, hK1, hD1⟩ := hB
  rw [ht] at hP1
  obtain ⟨hP, hD⟩ := va_join (wr := [(h0, .inr (2, [.null, .null]))]) (w1 := wl_ cI cR hL q0 q1 q2 r) hP hD [1] [0] rfl rfl (by decide) (by decide) hk1 hFc hP1 hD1
  generalize H1 = H at hP hS ⊢
  refine va_putF (D := D) (ci := 2) (v := .ref hL) (ty := .object "ExplainDifference$Ledger") (C := "ExplainDifference") (T := mj_F2) (N := 2) hx hb hts g2_1 _ g2_2 g2_3 hown hK hP hD hS 0 rfl rfl 0 (by decide) (hts _ (mj_inF (by decide +kernel))) (fun _ h9 => h9) rfl hin rfl (by decide +kernel) rfl rfl (Nat.le_of_ble_eq_true rfl) dE_12 (fun H locs hP hD hS => ?_)
  have hP : va_P D vwCl ((h0, .inr (2, [.ref hL, .null])) :: wl_ cI cR hL q0 q1 q2 r) H := hP
  have hD : va_D A ((h0, .inr (2, [.ref hL, .null])) :: wl_ cI cR hL q0 q1 q2 r) := hD
  refine lv_aload_n hx hb dE_15 rfl (lv_at hl 0 rfl) ?_
  refine va_new (ci := 1) (fs := [.null, .null, .null, .null, .null, .null, .int 0, .int 0, .int 0, .int 0, .int 0, .int 0, .int 0]) (C := "ExplainDifference$Seeker") (T := mj_F1) (N := 13) (own := "ExplainDifference") hx hb hts g1_1 _ g1_2 hown (hts _ (mj_inL (by decide +kernel))) (hts _ (mj_inO (by decide +kernel))) (hts _ (mj_inN (by decide +kernel))) hK hP hD hS hA rfl (by decide +kernel) (Nat.le_of_ble_eq_true rfl) (Nat.le_of_ble_eq_true rfl) dE_16 (fun hQ H hP hD hS => ?_)
  refine lv_dup hx hb dE_19 rfl ?_
  have hPc := hP.sub (ws' := [(hQ, .inr (1, [.null, .null, .null, .null, .null, .null, .int 0, .int 0, .int 0, .int 0, .int 0, .int 0, .int 0]))]) [29] rfl
  have hDc := hD.sub (ws' := [(hQ, .inr (1, [.null, .null, .null, .null, .null, .null, .int 0, .int 0, .int 0, .int 0, .int 0, .int 0, .int 0]))]) [29] (by decide) rfl
  have hFc := va_free (wc := [(hQ, .inr (1, [.null, .null, .null, .null, .null, .null, .int 0, .int 0, .int 0, .int 0, .int 0, .int 0, .int 0]))]) hD hS hA [29] rfl
  refine va_callv (va_runI (As := []) (rest := [.ref hQ, .ref h0]) ⟨hx, hb, hml, hown, hts⟩ (c_K l D cI cR cJ cZ hQ H.size) (cwI 0 hts (mk_in (by decide +kernel)) rfl rfl rfl (hts _ (mj_inN (by decide +kernel))) (hts _ (mj_inM (by decide +kernel))) (hts _ (mj_inI (by decide +kernel))) rfl (by decide +kernel) ⟨Nat.le_of_ble_eq_true rfl, Nat.le_of_ble_eq_true rfl⟩) ⟨fun a U g mk q => by obtain ⟨q0, q1, qP, qK, qD⟩ := q; exact ⟨q0, q1, qP, va_K.moved (u := U) (U := U.calling g mk a) (Vm.Alike.refl U.vm) qK, qD⟩, fun U hU hW => ⟨rfl, by rw [hU], by rw [hU]; exact hPc, va_K.moved hW.alike hK, hDc.weaken (fun _ _ _ _ => trivial)⟩⟩ rfl rfl hl.1 rfl (lv_room (Nat.le_of_ble_eq_true rfl)) dE_20 ⟨Nat.le_of_ble_eq_true rfl, Nat.le_of_ble_eq_true rfl⟩) hS (fun q _ h => hFc q h) hFc (fun u t H1 locs ht hvm h5 hB hz1 hk1 hS => ?_)
  obtain ⟨k0, k1, k2, k3, k4, k5, hP1, hK1, hD1⟩ := hB
  rw [ht] at hP1
  obtain ⟨hP, hD⟩ := va_join (wr := (h0, .inr (2, [.ref hL, .null])) :: wl_ cI cR hL q0 q1 q2 r) (w1 := wk_ cI hQ k0 k1 k2 k3 k4 k5) hP hD [29] [0, 1, 2, 3, 4, 5, 6, 7, 8, 9, 10, 11, 12, 13, 14, 15, 16, 17, 18, 19, 20, 21, 22, 23, 24, 25, 26, 27, 28] rfl rfl (by decide) (by decide) hk1 hFc hP1 hD1
  generalize H1 = H at hP hS ⊢
  refine va_putF (D := D) (ci := 2) (v := .ref hQ) (ty := .object "ExplainDifference$Seeker") (C := "ExplainDifference") (T := mj_F2) (N := 2) hx hb hts g2_1 _ g2_2 g2_3 hown hK hP hD hS 0 rfl rfl 1 (by decide) (hts _ (mj_inF (by decide +kernel))) (fun _ h9 => h9) rfl hin rfl (by decide +kernel) rfl rfl (Nat.le_of_ble_eq_true rfl) dE_23 (fun H locs hP hD hS => ?_)
  have hP : va_P D vwCl (we_ cI cR h0 hL hQ q0 q1 q2 r k0 k1 k2 k3 k4 k5) H := hP
  have hD : va_D A (we_ cI cR h0 hL hQ q0 q1 q2 r k0 k1 k2 k3 k4 k5) := hD
  exact W.vret hx hb hr (fun t ht hW => ⟨⟨(), rfl, trivial, hL, hQ, q0, q1, q2, r, k0, k1, k2, k3, k4, k5, by rw [ht]; exact hP, va_K.moved hW.alike hK, hD⟩, hS.F ht⟩) hS.2.2 dE_26
