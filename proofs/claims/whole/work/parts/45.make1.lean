/-! how the objects are made: pieces of constructors -/
theorem mk_cell {c : ClassId} {n : Nat} {f g : Nat → Int32} (h : ∀ j, j < n → f j = g j) : vp_cell c (n, .inl f) = vp_cell c (n, .inl g) := by
  rw [vp_cell_i, vp_cell_i]
  unfold arrV
  congr 2
  funext j
  show Value.int (f j.val) = Value.int (g j.val)
  rw [h j.val j.isLt]
theorem mk_good : mj_tbl.all goodWord = true := List.all_eq_true.mpr (fun w hw => (mj_tbl_ok w hw).2)
theorem mk_in {y : MethodName} {b : ByteArray} {n : Nat} {r : Option FieldType} (h : Cond.code y b n r ∈ mj_wC) : GoodIn mj_tbl (Cond.code y b n r :: mj_tbl) := by
  refine goodIn_sub (fun w hw => ?_) ?_
  · rcases List.mem_cons.mp hw with q | q
    · rw [q]; exact mj_inC h
    · exact q
  · rw [List.all_cons, Bool.and_eq_true]
    exact ⟨(mj_tbl_ok _ (mj_inC h)).2, mk_good⟩
section
variable {p : Program} {l : Launch} {e : Env} {R : Room} {s : State} {m : MethodId} {args : Array Value} {below : List Frame} {meth : Method} {c : Code} {H : Heap} {locs : List Loc} {cells slots : Nat} {Q : State → Prop}
variable {cc : ByteArray} {pc : Nat} {ls : Array Slot} {rest : List Value} {D : va_G} {A : Nat → Prop} {tys : List (ClassId × FieldType)} {ws : va_W} {H0 : Heap} {h0 ci N idx k : Nat} {fs : List Value} {C : String} {F : u_T}
/-- newarray, then putfield of a final field of the object at the world's head -/
theorem nx_arr (hx : p.tables.exec = Jvm.exec) (hb : c.code = cc) (hts : ∀ w ∈ mj_tbl, w.before args s = true) (hc : vwCl[ci]? = some (C, F, N)) (hok : mj_okC (C, F, N) = true) (hown : s.vm.findClass C = some m.cls) (hin : meth.name = "<init>") (hK : va_K D vwCl tys s) (hP : va_P D vwCl ((h0, .inr (ci, fs)) :: ws) H) (hD : va_D A ((h0, .inr (ci, fs)) :: ws)) (hS : va_S A H0 H locs) (hA : ∀ q, H0.size ≤ q → A q)
    {atype : ArrayType} {ty : FieldType} (hty : newarray.typeOf atype = ty) (hw : Cond.arrayClass ty ∈ mj_tbl) {t0 : Nat} {cA : ClassId} (ht : tys[t0]? = some (cA, ty)) (hra : ∀ (U : State) (c1 c2 : ClassId), va_RA U c1 ty → va_RA U c2 ty → c1 = c2) (hdef : defaultValue ty = .int 0) {n : Int32} {N' : Nat} (hn : ¬ n < 0) (hN : n.toNatClampNeg = N') (hby : N' * componentBytes ty ≤ 536870912) (hcells : cells + 1 ≤ R.cells) (hslots : slots + N' ≤ R.slots)
    (hk : k < N) (hkf : k < fs.length) (hl : Cond.fieldLink C idx C (F k).2.1 (F k).2.2.1 ∈ mj_wF) (hfin : (F k).2.2.2 = true) (hdecl : (F k).1 = C) (hd : parseFieldDescriptor (F k).2.2.1 = some (.array ty)) (d1 : decode cc pc = .ok (.newarray atype, 2)) (d2 : decode cc (pc + 2) = .ok (.putfield idx, 3))
    (kk : ∀ (q : Nat) (H1 : Heap) (locs1 : List Loc), va_P D vwCl ((h0, .inr (ci, fs.set k (.ref q))) :: (ws ++ [(q, .inl (cA, N', .inl (fun _ => 0)))])) H1 → va_D A ((h0, .inr (ci, fs.set k (.ref q))) :: (ws ++ [(q, .inl (cA, N', .inl (fun _ => 0)))])) → va_S A H0 H1 locs1 → W p l e R s m args below meth c H1 locs1 (cells + 1) (slots + N') Q (F0 m (pc + 5) ls rest)) : W p l e R s m args below meth c H locs cells slots Q (F0 m pc ls (.int n :: .ref h0 :: rest)) := by
  obtain ⟨g1, g2, g3⟩ := mj_okC1 hok
  refine va_newa (a0 := (N', .inl (fun _ => 0))) hx hb (hts _ (by rw [hty]; exact hw)) hty hK hP hD hS hA (fun cA => by rw [vp_cell_i, hdef]) hn hN hby hcells hslots d1 (fun q cB H1 hK1 hP1 hD1 hS1 => ?_)
  have e1 : cB = cA := hra s cB cA (hK1.2 tys.length _ (by rw [List.getElem?_append_right (Nat.le_refl _), Nat.sub_self]; rfl)).2 (hK.2 t0 _ ht).2
  subst e1
  refine va_putF (D := D) (ci := ci) (v := .ref q) (ty := .array ty) (C := C) (T := F) (N := N) hx hb hts g1 _ g2 g3 hown hK hP1 hD1 hS1 0 rfl hc k hk (hts _ (mj_inF hl)) (fun x h9 => by rw [hdecl] at h9; exact h9) hfin hin hdecl hd rfl rfl hkf d2 (fun H2 locs2 hP2 hD2 hS2 => ?_)
  exact kk q H2 locs2 hP2 hD2 hS2
/-- putfield of an int (or boolean) field of the object at the world's head -/
theorem nx_int (hx : p.tables.exec = Jvm.exec) (hb : c.code = cc) (hts : ∀ w ∈ mj_tbl, w.before args s = true) (hc : vwCl[ci]? = some (C, F, N)) (hok : mj_okC (C, F, N) = true) (hown : s.vm.findClass C = some m.cls) (hK : va_K D vwCl tys s) (hP : va_P D vwCl ((h0, .inr (ci, fs)) :: ws) H) (hD : va_D A ((h0, .inr (ci, fs)) :: ws)) (hS : va_S A H0 H locs)
    {ty : FieldType} {v : Int32} (hk : k < N) (hkf : k < fs.length) (hl : Cond.fieldLink C idx C (F k).2.1 (F k).2.2.1 ∈ mj_wF) (hfin : (F k).2.2.2 = false) (hdecl : (F k).1 = C) (hd : parseFieldDescriptor (F k).2.2.1 = some ty) (hnr : narrow ty (.int v) = .int v) (hft : fits ty (.int v) = true) (d1 : decode cc pc = .ok (.putfield idx, 3))
    (kk : ∀ (H1 : Heap) (locs1 : List Loc), va_P D vwCl ((h0, .inr (ci, fs.set k (.int v))) :: ws) H1 → va_D A ((h0, .inr (ci, fs.set k (.int v))) :: ws) → va_S A H0 H1 locs1 → W p l e R s m args below meth c H1 locs1 cells slots Q (F0 m (pc + 3) ls rest)) : W p l e R s m args below meth c H locs cells slots Q (F0 m pc ls (.int v :: .ref h0 :: rest)) := by
  obtain ⟨g1, g2, g3⟩ := mj_okC1 hok
  refine va_put (D := D) (ci := ci) (v := .int v) (ty := ty) (C := C) (T := F) (N := N) hx hb hts g1 _ g2 g3 hown hK hP hD hS 0 rfl hc k hk (hts _ (mj_inF hl)) (fun x h9 => by rw [hdecl] at h9; exact h9) hfin hd hnr hft hkf d1 (fun H2 locs2 hP2 hD2 hS2 => ?_)
  exact kk H2 locs2 hP2 hD2 hS2
end
theorem ra_I (U : State) (c1 c2 : ClassId) (h1 : va_RA U c1 .int) (h2 : va_RA U c2 .int) : c1 = c2 := Option.some.inj (h1.symm.trans h2)
theorem ra_Z (U : State) (c1 c2 : ClassId) (h1 : va_RA U c1 .boolean) (h2 : va_RA U c2 .boolean) : c1 = c2 := Option.some.inj (h1.symm.trans h2)
theorem ra_J (U : State) (c1 c2 : ClassId) (h1 : va_RA U c1 .long) (h2 : va_RA U c2 .long) : c1 = c2 := Option.some.inj (h1.symm.trans h2)
theorem ra_R (U : State) (c1 c2 : ClassId) (h1 : va_RA U c1 (.array .int)) (h2 : va_RA U c2 (.array .int)) : c1 = c2 := Option.some.inj (h1.symm.trans h2)
