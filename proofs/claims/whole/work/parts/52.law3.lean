/-! the law from its entry -/
def R_law : String := "ExplainDifferenceLaw"
def lw_P (b : Addr) (xs : List Int32) (args : Array Value) (s : State) : Prop := args = #[.ref b] ∧ s.IntsAt b xs ∧ xs.length ≤ 3072 ∧ (Jvm.Cond.and given_1 narrow_1).before args s = true
def lw_Q (_ : Array Value) (s : State) (o : Outcome) (t : State) : Prop := o = .returned (some (.int 1)) ∧ Framed s o t [] 632226 7199427
def lw_Z (below : List Frame) (a : Array Value) (s : State) : State → Prop := fun t => ∃ o, t.status = .running ∧ Ended t below o ∧ lw_Q a s o t
/-- the law's own end, with 1 on the stack, nothing written that was there before, its room as the claim has it -/
theorem lw_ret {p : Program} {l : Launch} {e : Env} {s : State} {m : MethodId} {below : List Frame} {meth : Method} {c : Code} {b : Nat} (hx : p.tables.exec = Jvm.exec) (hb : c.code = code) (hr : meth.sig.returnType = ret) (hlocks : meth.locks = false) {pc : Nat} {H : Heap} {ls : Array Slot} (hdg : decode code pc = .ok (.ireturn, 1)) : W p l e room_1 s m #[Value.ref b] below meth c H [] 632226 7199427 (lw_Z below #[Value.ref b] s) (F0 m pc ls [.int 1]) := by
  intro T hT X
  obtain ⟨fs, hret, hrun, hended, hW, hframe⟩ := X.leave (v := some (.int 1)) (hlocks := hlocks) (fun h => by rw [hr] at h; cases h)
  have hmeth' : T.vm.method? m = some meth := X.method'
  refine ⟨T.setFrames fs, ?_, .returned (some (.int 1)), hrun, hended, rfl, ⟨_, rfl⟩, hW, hframe⟩
  jvm_step X.here [X.here.top, hx, hb, hdg, hmeth', hr, ret, narrow_b1]
  (try refine ⟨rfl, ?_⟩); (try refine ⟨rfl, ?_⟩)
  first | (intro acts; rw [hret _ acts rfl rfl rfl]) | rw [hret _ _ rfl rfl rfl]
  exact Steps.refl _
/-- what holds at the law's entry: the machine, the code, the tables' words (any of lw_tbl by 'hts w (by decide +kernel)'), the script of L ints xs at the cell b, what the Statement gives of the start (any of its parts by flat_of_before) -/
def lw_At (p : Program) (s : State) (m : MethodId) (meth : Method) (c : Code) (b L : Nat) (xs : Nat → Int32) : Prop :=
  p.tables.exec = Jvm.exec ∧ c.code = code ∧ meth.sig.returnType = ret ∧ c.maxLocals = 7 ∧ s.vm.findClass R_law = some m.cls ∧ (∀ w ∈ lw_tbl, w.before #[Value.ref b] s = true) ∧ va_X b L xs s s.heap ∧ b < s.heap.size ∧ meth.locks = false ∧ (Jvm.Cond.and given_1 narrow_1).before #[Value.ref b] s = true
theorem dW_0 : decode code 0 = .ok (.new 8, 3) := by decide +kernel
theorem dW_3 : decode code 3 = .ok (.dup, 1) := by decide +kernel
theorem dW_4 : decode code 4 = .ok (.invokespecial 74, 3) := by decide +kernel
theorem dW_7 : decode code 7 = .ok (.astore_n 1, 1) := by decide +kernel
theorem dW_8 : decode code 8 = .ok (.new 75, 3) := by decide +kernel
theorem dW_11 : decode code 11 = .ok (.dup, 1) := by decide +kernel
theorem dW_12 : decode code 12 = .ok (.invokespecial 77, 3) := by decide +kernel
theorem dW_15 : decode code 15 = .ok (.astore_n 2, 1) := by decide +kernel
theorem dW_16 : decode code 16 = .ok (.iconst 1, 1) := by decide +kernel
theorem dW_17 : decode code 17 = .ok (.newarray .long, 2) := by decide +kernel
theorem dW_19 : decode code 19 = .ok (.astore_n 3, 1) := by decide +kernel
theorem mk_grid : ∀ (g n k o : Nat), mj_S0.1[g]? = some (.inr (.inr (.inl (n, k, o)))) → ∀ r : Nat, r < n → mj_S0.2[o + r]? = some k := by
  have key : ∀ K ∈ mj_S0.1, (match K with | .inr (.inr (.inl (n, k, o))) => (List.range n).all (fun r => decide (mj_S0.2[o + r]? = some k)) | _ => true) = true := by decide +kernel
  intro g n k o h r hr
  have h1 := key _ (List.mem_of_getElem? h)
  have h2 := List.all_eq_true.mp h1 r (List.mem_range.mpr hr)
  exact of_decide_eq_true h2
theorem mk_long : ∀ (g n g' n' : Nat), mj_S0.1[g]? = some (.inr (.inr (.inr (.inl n)))) → mj_S0.1[g']? = some (.inr (.inr (.inr (.inl n')))) → g = g' ∧ n = 1 := by
  have key : ∀ g, g < 29 → (match (mj_S0.1[g]? : Option mj_K) with | some (Sum.inr (Sum.inr (Sum.inr (Sum.inl n)))) => decide (g = 28 ∧ n = 1) | _ => true) = true := by decide +kernel
  have k2 : ∀ g n, mj_S0.1[g]? = some (.inr (.inr (.inr (.inl n)))) → g = 28 ∧ n = 1 := by
    intro g n h
    have h1 := key g (List.getElem?_eq_some_iff.mp h).1
    rw [h] at h1
    exact of_decide_eq_true h1
  intro g n g' n' h h'
  exact ⟨(k2 g n h).1.trans (k2 g' n' h').1.symm, (k2 g n h).2⟩
theorem mk_lv {ad : Nat → Nat} {ls : Array Slot} {b h0 hM hJ : Nat} (hl : lv_has ls 7 [(3, .ref hJ), (2, .ref hM), (1, .ref h0), (0, .ref b)]) (e0 : ad 29 = b) (e1 : ad 0 = h0) (e2 : ad 12 = hM) (e3 : ad 28 = hJ) : mj_lv mj_S0 ad 7 (mj_up (mj_up (mj_up (mj_up (fun _ => none) 0 (mv_p 29)) 1 (mv_p 0)) 2 (mv_p 12)) 3 (mv_p 28)) ls := by
  refine ⟨hl.1, hl.2.1, fun i v hv => ?_⟩
  unfold mj_up at hv
  split at hv
  · next h => cases hv; rw [h]; refine ⟨?_, rfl⟩; show _ = some (Slot.val (.ref (ad 28))); rw [e3]; exact lv_at hl 0 rfl
  · split at hv
    · next h => cases hv; rw [h]; refine ⟨?_, rfl⟩; show _ = some (Slot.val (.ref (ad 12))); rw [e2]; exact lv_at hl 1 rfl
    · split at hv
      · next h => cases hv; rw [h]; refine ⟨?_, rfl⟩; show _ = some (Slot.val (.ref (ad 0))); rw [e1]; exact lv_at hl 2 rfl
      · split at hv
        · next h => cases hv; rw [h]; refine ⟨?_, rfl⟩; show _ = some (Slot.val (.ref (ad 29))); rw [e0]; exact lv_at hl 3 rfl
        · cases hv
set_option maxHeartbeats 8000000 in
set_option maxRecDepth 100000 in
/-- from pc 20 on, by the small machine -/
theorem lw_go {p : Program} {e : Env} {s : State} {m : MethodId} {below : List Frame} {meth : Method} {c : Code} {l : Launch} {b L : Nat} {xs : Nat → Int32} {ad : Nat → Nat} {cI cR cJ cZ : ClassId} {D : va_G} {H : Heap} {locs : List Loc} {ls : Array Slot} {h0 hM hJ : Nat} (hfl : l.stackTraces = false) (hL : L ≤ 3072) (C0 : lw_At p s m meth c b L xs) (htab : c.exceptionTable.toList = [])
    (hK : va_K D vwCl (mj_tys cI cR cJ cZ) s) (e0 : ad 29 = b) (e1 : ad 0 = h0) (e2 : ad 12 = hM) (e3 : ad 28 = hJ) (hl : lv_has ls 7 [(3, .ref hJ), (2, .ref hM), (1, .ref h0), (0, .ref b)])
    (hP : va_P D vwCl (mj_w mj_S0 ad cI cR cJ cZ mi_0) H) (hD : va_D (fun q => s.heap.size ≤ q) (mj_w mj_S0 ad cI cR cJ cZ mi_0)) (hS : va_S (fun q => s.heap.size ≤ q) s.heap H locs) :
    W p l e room_1 s m #[Value.ref b] below meth c H locs 53 822 (lw_Z below #[Value.ref b] s) (F0 m 20 ls []) := by
  obtain ⟨hx, hb, hr, hml, hown, htsL, hX, hbl, hlocks, hgv⟩ := C0
  have hts : ∀ w ∈ mj_tbl, w.before #[Value.ref b] s = true := fun w hw => htsL w (mj_tbl_ok w hw).1
  have hE : mj_En mj_S0 (L, xs) ad cI cR cJ cZ D (fun q => s.heap.size ≤ q) s := mk_En e0 hK hX htsL hgv
  have ok : mj_Ok mj_S0 mj_P ad cI cR cJ cZ (fun q => s.heap.size ≤ q) s.heap.size l := ⟨hfl, mj_P_ok, mk_grid, mk_long, fun M => mj_D_any hD, by show ad 29 < _; rw [e0]; exact hbl, by show ¬ s.heap.size ≤ ad 29; rw [e0]; omega, by decide⟩
  have Fm : mj_Fm mt_W_law p s m #[Value.ref b] meth c := ⟨hx, hb, hml, hown, hts, htab, hlocks, hr⟩
  obtain ⟨n, M', k', hrun, hk'⟩ := lw_run (X := (L, xs)) (lo := fun _ => none) hL
  refine mj_sound (X := (L, xs)) ok n 14 mt_W_law 20 _ [] mi_0 0 _ ok_mt_W_law hrun p e room_1 s m #[Value.ref b] below meth c H locs 53 822 (lw_Z below #[Value.ref b] s) ls Fm hE (Nat.le_refl _) (Nat.le_of_ble_eq_true rfl) (Nat.le_of_ble_eq_true rfl) ?_ ?_ hP hS (mk_lv hl e0 e1 e2 e3) ?_
  · show 53 + k' ≤ 632226
    omega
  · show 822 + 6 * k' ≤ 7199427
    omega
  · intro H9 locs9 ls9 pc9 hP9 hS9 hsz9
    refine ⟨fun h => (by cases h), fun x ty hx9 hty hn hd => ?_, fun E h => (by cases h), fun E k ik b v h => (by cases h)⟩
    cases hx9
    refine va_forget hS9.2.2 ?_
    refine W.widen (k := 632226) (n := 7199427) (by show 53 + k' ≤ _; omega) (by show 822 + 6 * k' ≤ _; omega) ?_
    exact lw_ret hx hb hr hlocks hd
set_option maxHeartbeats 8000000 in
set_option maxRecDepth 100000 in
theorem whole_start {p : Program} {e : Env} {s : State} {m : MethodId} {below : List Frame} {meth : Method} {c : Code} (l : Launch) {b L : Nat} {xs : Nat → Int32} (hfl : l.stackTraces = false) (hLe : L ≤ 3072) (C0 : lw_At p s m meth c b L xs) (htab : c.exceptionTable.toList = []) : W p l e room_1 s m #[Value.ref b] below meth c s.heap [] 0 0 (lw_Z below #[Value.ref b] s) (entryFrame m ([Value.ref b] : List Value).toArray 7) := by
  have C1 := C0
  obtain ⟨hx, hb, hr, hml, hown, htsL, hX, hbl, hlocks, hgv⟩ := C0
  have hts : ∀ w ∈ mj_tbl, w.before #[Value.ref b] s = true := fun w hw => htsL w (mj_tbl_ok w hw).1
  have hAO : va_AOA .int s := va_AOA.of (htsL _ mk_over)
  obtain ⟨D, cI, cR, cJ, cZ, hK⟩ := mk_K hts hAO
  obtain ⟨A, hAe⟩ : ∃ A : Nat → Prop, A = fun q => s.heap.size ≤ q := ⟨_, rfl⟩
  have hA : ∀ q : Nat, s.heap.size ≤ q → A q := fun q h => by rw [hAe]; exact h
  have hS : va_S A s.heap s.heap [] := va_S.rf
  have hP : va_P D vwCl [] s.heap := fun k q hk => by cases hk
  have hD : va_D A [] := ⟨fun i j p q hi => (by cases hi), fun k q hk => (by cases hk)⟩
  have hl := lv_entry ([.ref b]) (n := 7) (Nat.le_of_ble_eq_true rfl)
  rw [lg_entry_eq]
  generalize (lg_sl ([.ref b]) ++ List.replicate (7 - (lg_sl ([.ref b])).length) Slot.unset).toArray = ls at hl ⊢
  have hl : lv_has ls 7 [(0, .ref b)] := hl
  obtain ⟨g2_1, g2_2, g2_3⟩ := mj_okC1 (C := "ExplainDifference") (F := mj_F2) (N := 2) (by decide +kernel)
  obtain ⟨g3_1, g3_2, g3_3⟩ := mj_okC1 (C := "ExplainDifferenceModel") (F := mj_F3) (N := 25) (by decide +kernel)
  refine va_new (ci := 2) (fs := [.null, .null]) (C := "ExplainDifference") (T := mj_F2) (N := 2) (own := R_law) hx hb hts g2_1 _ g2_2 hown (hts _ (mj_inL (by decide +kernel))) (hts _ (mj_inO (by decide +kernel))) (hts _ (mj_inN (by decide +kernel))) hK hP hD hS hA rfl (by decide +kernel) (Nat.le_of_ble_eq_true rfl) (Nat.le_of_ble_eq_true rfl) dW_0 (fun h0 H hP hD hS => ?_)
  refine lv_dup hx hb dW_3 rfl ?_
  have hPc := hP.sub (ws' := [(h0, .inr (2, [.null, .null]))]) [0] rfl
  have hDc := hD.sub (ws' := [(h0, .inr (2, [.null, .null]))]) [0] (by decide) rfl
  have hFc := va_free (wc := [(h0, .inr (2, [.null, .null]))]) hD hS hA [0] rfl
  refine va_callv (va_runI (As := []) (rest := [.ref h0]) ⟨hx, hb, hml, hown, hts⟩ (c_E l D cI cR cJ cZ h0 H.size) (cwI 0 hts (mk_in (by decide +kernel)) rfl rfl rfl (hts _ (mj_inN (by decide +kernel))) (hts _ (mj_inM (by decide +kernel))) (hts _ (mj_inI (by decide +kernel))) rfl (by decide +kernel) ⟨Nat.le_of_ble_eq_true rfl, Nat.le_of_ble_eq_true rfl⟩) ⟨fun a U g mk q => by obtain ⟨q0, q1, qP, qK, qD, qA⟩ := q; exact ⟨q0, q1, qP, va_K.moved (u := U) (U := U.calling g mk a) (Vm.Alike.refl U.vm) qK, qD, over_moved (u := U) (E := U.calling g mk a) (Vm.Alike.refl U.vm) qA⟩, fun U hU hW => ⟨rfl, by rw [hU], by rw [hU]; exact hPc, va_K.moved hW.alike hK, hDc.weaken (fun _ _ _ _ => trivial), over_moved hW.alike hAO⟩⟩ rfl rfl hl.1 rfl (lv_room (Nat.le_of_ble_eq_true rfl)) dW_4 ⟨Nat.le_of_ble_eq_true rfl, Nat.le_of_ble_eq_true rfl⟩) hS (fun q _ h => hFc q h) hFc (fun u t H1 locs ht hvm h5 hB hz1 hk1 hS => ?_)
  obtain ⟨hL, hQ, q0, q1, q2, r, k0, k1, k2, k3, k4, k5, hP1, hK1, hD1⟩ := hB
  rw [ht] at hP1
  obtain ⟨hP, hD⟩ := va_join (wr := []) (w1 := we_ cI cR h0 hL hQ q0 q1 q2 r k0 k1 k2 k3 k4 k5) hP hD [0] [] rfl rfl (by decide) (by decide) hk1 hFc hP1 hD1
  generalize H1 = H at hP hS ⊢
  refine lv_astore_n hx hb dW_7 rfl hl (by decide) rfl (fun ls hl => ?_)
  have hl : lv_has ls 7 [(1, .ref h0), (0, .ref b)] := hl
  refine va_new (ci := 3) (fs := [.int 0, .int 0, .null, .null, .null, .null, .null, .null, .null, .null, .int 0, .int 0, .null, .int 0, .int 0, .int 0, .null, .int 0, .null, .null, .int 0, .int 0, .null, .null, .null]) (C := "ExplainDifferenceModel") (T := mj_F3) (N := 25) (own := R_law) hx hb hts g3_1 _ g3_2 hown (hts _ (mj_inL (by decide +kernel))) (hts _ (mj_inO (by decide +kernel))) (hts _ (mj_inN (by decide +kernel))) hK hP hD hS hA rfl (by decide +kernel) (Nat.le_of_ble_eq_true rfl) (Nat.le_of_ble_eq_true rfl) dW_8 (fun hM H hP hD hS => ?_)
  refine lv_dup hx hb dW_11 rfl ?_
  have hPc := hP.sub (ws' := [(hM, .inr (3, [.int 0, .int 0, .null, .null, .null, .null, .null, .null, .null, .null, .int 0, .int 0, .null, .int 0, .int 0, .int 0, .null, .int 0, .null, .null, .int 0, .int 0, .null, .null, .null]))]) [36] rfl
  have hDc := hD.sub (ws' := [(hM, .inr (3, [.int 0, .int 0, .null, .null, .null, .null, .null, .null, .null, .null, .int 0, .int 0, .null, .int 0, .int 0, .int 0, .null, .int 0, .null, .null, .int 0, .int 0, .null, .null, .null]))]) [36] (by decide) rfl
  have hFc := va_free (wc := [(hM, .inr (3, [.int 0, .int 0, .null, .null, .null, .null, .null, .null, .null, .null, .int 0, .int 0, .null, .int 0, .int 0, .int 0, .null, .int 0, .null, .null, .int 0, .int 0, .null, .null, .null]))]) hD hS hA [36] rfl
  refine va_callv (va_runI (As := []) (rest := [.ref hM]) ⟨hx, hb, hml, hown, hts⟩ (c_M l D cI cR cJ cZ hM H.size) (cwI 0 hts (mk_in (by decide +kernel)) rfl rfl rfl (hts _ (mj_inN (by decide +kernel))) (hts _ (mj_inM (by decide +kernel))) (hts _ (mj_inI (by decide +kernel))) rfl (by decide +kernel) ⟨Nat.le_of_ble_eq_true rfl, Nat.le_of_ble_eq_true rfl⟩) ⟨fun a U g mk q => by obtain ⟨q0, q1, qP, qK, qD⟩ := q; exact ⟨q0, q1, qP, va_K.moved (u := U) (U := U.calling g mk a) (Vm.Alike.refl U.vm) qK, qD⟩, fun U hU hW => ⟨rfl, by rw [hU], by rw [hU]; exact hPc, va_K.moved hW.alike hK, hDc.weaken (fun _ _ _ _ => trivial)⟩⟩ rfl rfl hl.1 rfl (lv_room (Nat.le_of_ble_eq_true rfl)) dW_12 ⟨Nat.le_of_ble_eq_true rfl, Nat.le_of_ble_eq_true rfl⟩) hS (fun q _ h => hFc q h) hFc (fun u t H1 locs ht hvm h5 hB hz1 hk1 hS => ?_)
  obtain ⟨m2, m3, m4, m5, m6, m7, m8, m9, m12, m16, m18, m19, m22, m23, m24, hP1, hK1, hD1⟩ := hB
  rw [ht] at hP1
  obtain ⟨hP, hD⟩ := va_join (wr := we_ cI cR h0 hL hQ q0 q1 q2 r k0 k1 k2 k3 k4 k5) (w1 := wm_ cI cZ hM m2 m3 m4 m5 m6 m7 m8 m9 m12 m16 m18 m19 m22 m23 m24 (fun _ => -1)) hP hD [36] [0, 1, 2, 3, 4, 5, 6, 7, 8, 9, 10, 11, 12, 13, 14, 15, 16, 17, 18, 19, 20, 21, 22, 23, 24, 25, 26, 27, 28, 29, 30, 31, 32, 33, 34, 35] rfl rfl (by decide) (by decide) hk1 hFc hP1 hD1
  generalize H1 = H at hP hS ⊢
  refine lv_astore_n hx hb dW_15 rfl hl (by decide) rfl (fun ls hl => ?_)
  have hl : lv_has ls 7 [(2, .ref hM), (1, .ref h0), (0, .ref b)] := hl
  refine lv_iconst (v := 1) hx hb dW_16 (by decide) ?_
  refine va_newa (a0 := (1, .inr (.inl (fun j => if j = 0 then 0 else 0)))) (N' := 1) (ty := .long) hx hb (hts _ (mj_inO (by decide +kernel))) rfl hK hP hD hS hA (fun cA => by rw [vp_cell_l]; unfold arrV; congr 2; funext j; show Value.long (if j.val = 0 then 0 else 0) = _; split <;> rfl) (by decide) (by decide) (by decide) (Nat.le_of_ble_eq_true rfl) (Nat.le_of_ble_eq_true rfl) dW_17 (fun hJ cA H hK9 hP hD hS => ?_)
  have ecA : cA = cJ := ra_J s cA cJ (hK9.2 4 _ rfl).2 (hK.2 2 _ rfl).2
  subst ecA
  refine lv_astore_n hx hb dW_19 rfl hl (by decide) rfl (fun ls hl => ?_)
  have hl : lv_has ls 7 [(3, .ref hJ), (2, .ref hM), (1, .ref h0), (0, .ref b)] := hl
  have hP := hP.sub (ws' := wz_ cI cR cA cZ h0 hL hQ q0 q1 q2 k0 k1 k2 k3 k4 k5 hM m2 m3 m4 m5 m6 m7 m8 m9 m12 m16 m18 m19 m22 m23 m24 hJ r (fun i => if i < 24 then some (r i) else none)) [0, 1, 29, 2, 3, 4, 30, 31, 32, 33, 34, 35, 36, 37, 38, 39, 40, 41, 42, 43, 44, 45, 46, 47, 48, 49, 50, 51, 52, 5, 6, 7, 8, 9, 10, 11, 12, 13, 14, 15, 16, 17, 18, 19, 20, 21, 22, 23, 24, 25, 26, 27, 28] rfl
  have hD := hD.sub (ws' := wz_ cI cR cA cZ h0 hL hQ q0 q1 q2 k0 k1 k2 k3 k4 k5 hM m2 m3 m4 m5 m6 m7 m8 m9 m12 m16 m18 m19 m22 m23 m24 hJ r (fun i => if i < 24 then some (r i) else none)) [0, 1, 29, 2, 3, 4, 30, 31, 32, 33, 34, 35, 36, 37, 38, 39, 40, 41, 42, 43, 44, 45, 46, 47, 48, 49, 50, 51, 52, 5, 6, 7, 8, 9, 10, 11, 12, 13, 14, 15, 16, 17, 18, 19, 20, 21, 22, 23, 24, 25, 26, 27, 28] (by decide) rfl
  rw [mk_w (b := b)] at hP hD
  subst hAe
  refine W.widen (k := 53) (n := 822) (Nat.le_of_ble_eq_true rfl) (Nat.le_of_ble_eq_true rfl) ?_
  exact lw_go (h0 := h0) (hM := hM) (hJ := hJ) hfl hLe C1 htab hK rfl rfl rfl rfl hl hP hD hS
