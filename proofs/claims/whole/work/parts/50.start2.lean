/-! what the law's start gives -/
set_option maxRecDepth 100000 in
theorem mk_K {s : State} {args : Array Value} (hts : ∀ w ∈ mj_tbl, w.before args s = true) (hAO : va_AOA .int s) : ∃ (D : va_G) (cI cR cJ cZ : ClassId), va_K D vwCl (mj_tys cI cR cJ cZ) s := by
  obtain ⟨c0, i0, h0⟩ := u_known hts (mj_okC1 (C := "ExplainDifference$Ledger") (F := mj_F0) (N := 7) (by decide +kernel)).1 (hts (.instantiable "ExplainDifference$Ledger" 7) (mj_inO (by decide +kernel)))
  obtain ⟨c1, i1, h1⟩ := u_known hts (mj_okC1 (C := "ExplainDifference$Seeker") (F := mj_F1) (N := 13) (by decide +kernel)).1 (hts (.instantiable "ExplainDifference$Seeker" 13) (mj_inO (by decide +kernel)))
  obtain ⟨c2, i2, h2⟩ := u_known hts (mj_okC1 (C := "ExplainDifference") (F := mj_F2) (N := 2) (by decide +kernel)).1 (hts (.instantiable "ExplainDifference" 2) (mj_inO (by decide +kernel)))
  obtain ⟨c3, i3, h3⟩ := u_known hts (mj_okC1 (C := "ExplainDifferenceModel") (F := mj_F3) (N := 25) (by decide +kernel)).1 (hts (.instantiable "ExplainDifferenceModel" 25) (mj_inO (by decide +kernel)))
  obtain ⟨cI, kI, xI, aI1, aI2, aI3⟩ := Cond.arrayClass_spec (hts (.arrayClass .int) (mj_inO (by decide +kernel)))
  obtain ⟨cJ, kJ, xJ, aJ1, aJ2, aJ3⟩ := Cond.arrayClass_spec (hts (.arrayClass .long) (mj_inO (by decide +kernel)))
  obtain ⟨cZ, kZ, xZ, aZ1, aZ2, aZ3⟩ := Cond.arrayClass_spec (hts (.arrayClass .boolean) (mj_inO (by decide +kernel)))
  obtain ⟨xR, cR, kR, b1, -, aR2, aR3, aR1⟩ := arrayOverA_spec hAO
  refine ⟨(fun c => match c with | 0 => c0 | 1 => c1 | 2 => c2 | _ => c3, fun c => match c with | 0 => i0 | 1 => i1 | 2 => i2 | _ => i3), cI, cR, cJ, cZ, fun c q hq => ?_, fun k q hk => ?_⟩
  · match c, hq with
    | 0, hq => cases hq; exact h0
    | 1, hq => cases hq; exact h1
    | 2, hq => cases hq; exact h2
    | 3, hq => cases hq; exact h3
    | n + 4, hq => cases hq
  · match k, hk with
    | 0, hk => cases hk; exact ⟨fun n z => ⟨fun k h => (by cases h), kI, aI2, xI, aI3⟩, aI1⟩
    | 1, hk => cases hk; exact ⟨fun n z => ⟨fun k h => (by cases h), kR, aR2, xR, aR3⟩, aR1⟩
    | 2, hk => cases hk; exact ⟨fun n z => ⟨fun k h => (by cases h), kJ, aJ2, xJ, aJ3⟩, aJ1⟩
    | 3, hk => cases hk; exact ⟨fun n z => ⟨fun k h => (by cases h), kZ, aZ2, xZ, aZ3⟩, aZ1⟩
    | n + 4, hk => cases hk
set_option maxRecDepth 100000 in
theorem mk_over : Cond.arrayOver (.array .int) ∈ lw_tbl := by decide +kernel
set_option maxRecDepth 100000 in
theorem mk_ls1 : Cond.laysStatic Bundle.tN "UNASSIGNED_STACK" Bundle.steD ∈ lw_tbl ∧ Cond.laysStatic Bundle.tN "SUPPRESSED_SENTINEL" Bundle.listD ∈ lw_tbl ∧ Cond.initialized Bundle.tN ∈ lw_tbl := by decide +kernel
set_option maxRecDepth 100000 in
theorem mk_ls2 : Cond.isRef (.static Bundle.tN "UNASSIGNED_STACK" Bundle.steD) ∈ flatC (Jvm.Cond.and given_1 narrow_1) ∧ Cond.isRef (.static Bundle.tN "SUPPRESSED_SENTINEL" Bundle.listD) ∈ flatC (Jvm.Cond.and given_1 narrow_1) := by decide +kernel
set_option maxRecDepth 100000 in
theorem mk_st1 : ∀ q ∈ mj_strs, Cond.stringRef q.1 q.2.1 q.2.2 ∈ lw_tbl := by decide +kernel
set_option maxRecDepth 100000 in
theorem mk_st2 : ∀ q ∈ mj_strs, Cond.exactly (.string q.1 q.2.1) "java/lang/String" ∈ flatC (Jvm.Cond.and given_1 narrow_1) := by decide +kernel
set_option maxRecDepth 100000 in
theorem mk_nc : ∀ q ∈ mj_ncs, Cond.not (.castable q.1 q.2) ∈ flatC (Jvm.Cond.and given_1 narrow_1) := by decide +kernel
set_option maxRecDepth 100000 in
theorem mk_ne : ∀ q ∈ mj_nest, Cond.methodLinkNest q.1 q.2.1 q.2.2.1 q.2.2.2 ∈ lw_tbl := by decide +kernel
set_option maxRecDepth 100000 in
theorem mk_xs : ∀ q ∈ mj_xs, Cond.castable q.1 q.1 ∈ lw_tbl := by decide +kernel
set_option maxRecDepth 100000 in
theorem mk_dc : ∀ x ∈ mj_dcl, Cond.declares x ∈ lw_tbl := by decide +kernel
theorem mk_En {s : State} {b : Nat} {X : Nat × (Nat → Int32)} {ad : Nat → Nat} {cI cR cJ cZ : ClassId} {D : va_G} (had : ad 29 = b) (hK : va_K D vwCl (mj_tys cI cR cJ cZ) s) (hX : va_X b X.1 X.2 s s.heap) (hts : ∀ w ∈ lw_tbl, w.before #[Value.ref b] s = true) (hgv : (Jvm.Cond.and given_1 narrow_1).before #[Value.ref b] s = true) : mj_En mj_S0 X ad cI cR cJ cZ D (fun q => s.heap.size ≤ q) s := by
  have hg := flat_of_before _ hgv
  have hA : ∀ a : Nat, a < s.heap.size → ¬ s.heap.size ≤ a := fun a h => Nat.not_le_of_lt h
  refine ⟨hK, ?_, vx_Zqof (hts _ mk_ls1.1) (hts _ mk_ls1.2.2) (hg _ mk_ls2.1) hA, vx_Zqof (hts _ mk_ls1.2.1) (hts _ mk_ls1.2.2) (hg _ mk_ls2.2) hA, fun q hq => ?_, fun q hq => va_Nc.of (hg _ (mk_nc q hq)), fun q hq => va_Nw.of rfl (hts _ (mk_ne q hq)), fun q hq => va_Nw.of rfl (hts _ (mk_xs q hq)), fun x hx => va_Nw.of rfl (hts _ (mk_dc x hx))⟩
  · show va_X (ad 29) X.1 X.2 s s.heap
    rw [had]
    exact hX
  · obtain ⟨a, -, -, -, q1, -⟩ := Cond.exactly_spec (args := #[Value.ref b]) (first := s) (o := none) (s := s) (idx := []) (t := .string q.1 q.2.1) (cls := "java/lang/String") (hg _ (mk_st2 q hq))
    exact ⟨a, vk_R.of (hts _ (mk_st1 q hq)) q1⟩
