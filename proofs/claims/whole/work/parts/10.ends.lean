section
variable (S : mj_S) (X : Nat × (Nat → Int32)) (ad : Nat → Nat) (cI cR cJ cZ : ClassId) (D : va_G) (A : Nat → Prop)
/-- what of a state the methods stand on, beside their worlds -/
def mj_En (U : State) : Prop :=
  va_K D vwCl (mj_tys cI cR cJ cZ) U ∧ va_X (ad S.1.length) X.1 X.2 U U.heap ∧ vx_Zq Bundle.tN "UNASSIGNED_STACK" Bundle.steD A U U.heap ∧ vx_Zq Bundle.tN "SUPPRESSED_SENTINEL" Bundle.listD A U U.heap ∧
  (∀ q ∈ mj_strs, ∃ sa, vk_R q.1 q.2.1 q.2.2 sa U) ∧ (∀ q ∈ mj_ncs, va_Nc q.1 q.2 U) ∧ (∀ q ∈ mj_nest, va_Nw (.methodLinkNest q.1 q.2.1 q.2.2.1 q.2.2.2) U) ∧ (∀ q ∈ mj_xs, va_Nw (.castable q.1 q.1) U) ∧ (∀ x ∈ mj_dcl, va_Nw (.declares x) U)
theorem mj_En.moved {s U : State} (h : mj_En S X ad cI cR cJ cZ D A s) (hW : s.WarmedH U.vm) (hh : ∀ q : Nat, q < s.heap.size → ¬ A q → U.heap[q]? = s.heap[q]?) (hbl : ad S.1.length < s.heap.size) (hbA : ¬ A (ad S.1.length)) : mj_En S X ad cI cR cJ cZ D A U := by
  obtain ⟨h1, h2, h3, h4, h5, h6, h7, h8, h9⟩ := h
  refine ⟨va_K.moved hW.alike h1, va_X.moved hW.alike (h2.kept (hh _ hbl hbA)), vx_Zq.moved hW.alike (h3.kept hh), vx_Zq.moved hW.alike (h4.kept hh), fun q hq => ?_, fun q hq => va_Nc.moved hW.alike (h6 q hq), fun q hq => va_Nw.warmM hW (h7 q hq), fun q hq => va_Nw.warmC hW (h8 q hq), fun x hx => va_Nw.warmD hW (h9 x hx)⟩
  obtain ⟨sa, h0⟩ := h5 q hq
  exact ⟨sa, vk_R.warm hW h0⟩
/-- a frame of method T -/
def mj_Fm (T : mj_T) (p : Program) (s : State) (m : MethodId) (args : Array Value) (meth : Method) (c : Code) : Prop :=
  p.tables.exec = Jvm.exec ∧ c.code = mj_tb T ∧ c.maxLocals = mj_tl T ∧ s.vm.findClass (mj_tn T).cls = some m.cls ∧ (∀ w ∈ mj_tbl, w.before args s = true) ∧ c.exceptionTable.toList = mj_tab T ∧ meth.locks = false ∧ meth.sig.returnType = mj_tr T
def mj_rm (d k : Nat) : Room := { frames := d + 12, cells := k, slots := 6 * k, locals := 60 * d + 240 }
/-- nothing of T's table takes E at pc -/
def mj_np (T : mj_T) (pc : Nat) (E : String) (args : Array Value) (s : State) : Prop := ∀ z ∈ mj_tab T, covers z pc = false ∨ (z.catchType ≠ 0 ∧ ∃ nm : String, (Cond.classLink (mj_tn T).cls z.catchType nm).before args s = true ∧ va_Nc E nm s)
/-- what is owed at a run's end -/
def mj_Fin (T : mj_T) (p : Program) (l : Launch) (e : Env) (R : Room) (s : State) (m : MethodId) (args : Array Value) (below : List Frame) (meth : Method) (c : Code) (c0 s0 : Nat) (Q : State → Prop) (r : mj_R) : Prop :=
  ∀ (H : Heap) (locs : List Loc) (ls : Array Slot) (pc : Nat), va_P D vwCl (mj_w S ad cI cR cJ cZ r.2.1) H → va_S A s.heap H locs → ls.size = mj_tl T →
    (r.1 = .inr none → mj_tr T = none → decode (mj_tb T) pc = .ok (.return_, 1) → W p l e R s m args below meth c H locs (c0 + r.2.2) (s0 + 6 * r.2.2) Q (F0 m pc ls [])) ∧
    (∀ x ty, r.1 = .inr (some (.inl x)) → mj_tr T = some ty → narrow ty (.int x) = .int x → decode (mj_tb T) pc = .ok (.ireturn, 1) → W p l e R s m args below meth c H locs (c0 + r.2.2) (s0 + 6 * r.2.2) Q (F0 m pc ls [.int x])) ∧
    (∀ E, r.1 = .inl E → ∀ (rest : List Value) (q : Addr) (ce : Cell), H[q]? = some ce → ce.vm = .none → s.vm.findClass (mj_xn E) = some ce.cls → mj_np T pc (mj_xn E) args s → vx_W p l e R s m args below meth c H locs (c0 + r.2.2) (s0 + 6 * r.2.2) Q (F0 m pc ls rest) q) ∧
    (∀ E k ik b v, r.1 = .inl E → r.2.2 = k + 1 → decode (mj_tb T) pc = .ok (.new ik, 3) → mj_okT T pc ik E b v = true → W p l e R s m args below meth c H locs (c0 + k) (s0 + 6 * k) Q (F0 m pc ls []))
def mj_Pc (B : Nat) (as : List mj_V) (M : mj_M) : Array Value → State → Prop := va_Pc (as.map (mj_c S ad)) (fun U => mj_En S X ad cI cR cJ cZ D A U ∧ va_P D vwCl (mj_w S ad cI cR cJ cZ M) U.heap ∧ B ≤ U.heap.size)
def mj_Qc (r : mj_R) : Array Value → State → Outcome → State → Prop := fun _ st o t => (∃ v : Option mj_V, r.1 = .inr v ∧ o = .returned (v.map (mj_c S ad))) ∧ va_P D vwCl (mj_w S ad cI cR cJ cZ r.2.1) t.heap ∧ va_F A st t
def mj_XC (r : mj_R) : String → State → State → Prop := fun E st t => (∃ x, r.1 = .inl x ∧ E = mj_xn x) ∧ va_P D vwCl (mj_w S ad cI cR cJ cZ r.2.1) t.heap ∧ va_F A st t
end
theorem mj_cat_some : ∀ (hh : List (Nat × Nat × Nat × Nat × Nat × Nat × Nat)) (pc E h j : Nat), mj_cat hh pc E = some (h, j) → ∃ pre q suf, hh = pre ++ q :: suf ∧ (q.1 ≤ pc ∧ pc < q.2.1 ∧ q.2.2.2.2.1 = E) ∧ q.2.2.2.2.2.1 = h ∧ q.2.2.2.2.2.2 = j ∧ ∀ z ∈ pre, ¬ (z.1 ≤ pc ∧ pc < z.2.1 ∧ z.2.2.2.2.1 = E)
  | [], pc, E, h, j, hc => by cases hc
  | (f, t, x1, x2, E', h', j') :: r, pc, E, h, j, hc => by
    unfold mj_cat at hc
    split at hc
    · next hq =>
      cases hc
      exact ⟨[], (f, t, x1, x2, E', h', j'), r, rfl, hq, rfl, rfl, fun z hz => by cases hz⟩
    · next hq =>
      obtain ⟨pre, q, suf, h1, h2, h3, h4, h5⟩ := mj_cat_some r pc E h j hc
      refine ⟨(f, t, x1, x2, E', h', j') :: pre, q, suf, by rw [h1]; rfl, h2, h3, h4, fun z hz => ?_⟩
      rcases List.mem_cons.mp hz with rfl | hz
      · exact hq
      · exact h5 z hz
theorem mj_cat_none : ∀ (hh : List (Nat × Nat × Nat × Nat × Nat × Nat × Nat)) (pc E : Nat), mj_cat hh pc E = none → ∀ z ∈ hh, ¬ (z.1 ≤ pc ∧ pc < z.2.1 ∧ z.2.2.2.2.1 = E)
  | [], pc, E, hc => fun z hz => by cases hz
  | (f, t, x1, x2, E', h', j') :: r, pc, E, hc => by
    unfold mj_cat at hc
    split at hc
    · cases hc
    · next hq =>
      intro z hz
      rcases List.mem_cons.mp hz with rfl | hz
      · exact hq
      · exact mj_cat_none r pc E hc z hz
section
variable {S : mj_S} {X : Nat × (Nat → Int32)} {P : List mj_T} {ad : Nat → Nat} {cI cR cJ cZ : ClassId} {D : va_G} {A : Nat → Prop} {B : Nat} {l : Launch}
theorem mj_blind {as : List mj_V} {M : mj_M} (hsp : ad S.1.length < B) (hbA : ¬ A (ad S.1.length)) : FrameBlind (mj_Pc S X ad cI cR cJ cZ D A B as M) := fun a U g mk q => by
  obtain ⟨q0, qE, qP, qB⟩ := q
  exact ⟨q0, mj_En.moved S X ad cI cR cJ cZ D A (U := U.calling g mk a) qE (State.WarmedH.refl U) (fun _ _ _ => rfl) (Nat.lt_of_lt_of_le hsp qB) hbA, qP, qB⟩
/-- a method's end, by its contract -/
theorem mj_fin {T : mj_T} {p : Program} {e : Env} {s : State} {m : MethodId} {args : Array Value} {below : List Frame} {meth : Method} {c : Code} {d : Nat} {r : mj_R} (hl : l.stackTraces = false) (Fm : mj_Fm T p s m args meth c) (hE : mj_En S X ad cI cR cJ cZ D A s):
    mj_Fin S ad cI cR cJ cZ D A T p l e (mj_rm d r.2.2) s m args below meth c 0 0 (vx_MQ below (mj_Qc S ad cI cR cJ cZ D A r) (mj_XC S ad cI cR cJ cZ D A r) args s r.2.2 (6 * r.2.2) A) r := by
  obtain ⟨hx, hb, hml, hown, hts, htab, hlocks, hr⟩ := Fm
  intro H locs ls pc hP hS hsz
  refine ⟨fun h1 h2 hd => ?_, fun x ty h1 ht hn hd => ?_, fun E h1 rest q ce hce hcv hcl hnp => ?_, fun E k ik b v h1 hk hd hok => ?_⟩
  · rw [Nat.zero_add, Nat.zero_add]
    exact vx_ret (W.vret hx hb (hr.trans h2) (fun t ht hW => ⟨⟨none, h1, rfl⟩, by rw [ht]; exact hP, hS.F ht⟩) hS.2.2 hd hlocks)
  · rw [Nat.zero_add, Nat.zero_add]
    exact vx_ret (W.zret hx hb (hr.trans ht) hn (fun t ht hW => ⟨⟨some (.inl x), h1, rfl⟩, by rw [ht]; exact hP, hS.F ht⟩) hS.2.2 hd hlocks)
  · rw [Nat.zero_add, Nat.zero_add]
    exact vx_outP hown hlocks (by rw [htab]; exact hnp) hce hcv hcl (fun t ht ha => ⟨⟨E, h1, rfl⟩, by rw [ht]; exact hP, hS.F ht⟩) hS.2.2 (Nat.le_refl _) (Nat.le_refl _)
  · rw [Nat.zero_add, Nat.zero_add]
    unfold mj_okT at hok
    cases hxs : mj_xs[E]? with
    | none => rw [hxs] at hok; simp at hok
    | some q =>
      obtain ⟨cls, i1, b1, ic⟩ := q
      rw [hxs] at hok
      dsimp only at hok
      simp only [Bool.and_eq_true, decide_eq_true_eq] at hok
      obtain ⟨⟨d3, d4, d6, d9⟩, ⟨f0, f1⟩, f4, f7, f8⟩ := hok
      have hxn : mj_xn E = cls := by unfold mj_xn; rw [hxs]; rfl
      have hax := List.all_eq_true.mp mj_ats _ (List.mem_of_getElem? hxs)
      unfold mj_atx at hax
      simp only [Bool.and_eq_true, decide_eq_true_eq] at hax
      obtain ⟨g1, ⟨g2, g3, g4, g5⟩, g6, g7⟩ := hax
      obtain ⟨q9, hq9, hq8⟩ := List.any_eq_true.mp f7
      rw [decide_eq_true_eq] at hq8
      obtain ⟨sa, hsa⟩ := hE.2.2.2.2.1 q9 hq9
      rw [hq8.1, hq8.2] at hsa
      rw [hxn] at f4
      rw [← f0] at d6
      rw [f1] at hown f4 hsa
      have htb : c.exceptionTable.toList = [] := by rw [htab]; unfold mj_tab; rw [f8]; rfl
      have hg : ∀ w ∈ mj_tbl, vx_ot w = true := fun w hw => by
        unfold vx_ot
        rw [(mj_tbl_ok w hw).2, Bool.or_true]
      have hat : ∀ w ∈ (mj_atoms "ExplainDifference" ic cls "java/lang/RuntimeException" ["java/lang/Exception"] i1 b1).filter vx_no, w.before args s = true ∧ vx_ot w = true := fun w hw => by
        have h9 := List.all_eq_true.mp g1 w hw
        rw [Bool.and_eq_true] at h9
        refine ⟨?_, h9.2⟩
        rcases mj_kin_ok h9.1 with h8 | ⟨q8, h8, rfl⟩ | ⟨x8, h8, rfl⟩
        · exact hts w h8
        · exact va_Nw.use rfl (hE.2.2.2.2.2.2.2.1 q8 h8)
        · exact va_Nw.use rfl (hE.2.2.2.2.2.2.2.2 x8 h8)
      refine mj_throw (A := A) hx hb hl (own := "ExplainDifference") (cls := cls) (Y := "java/lang/RuntimeException") (r := ["java/lang/Exception"]) (text := q9.2.2) (sa := sa) (ik := ik) (is := b) (ic := ic) g2 g3 g4 g5 hown g6 (by decide +kernel) (fun n hn => by rw [List.mem_singleton.mp hn]; decide +kernel) (hts _ (mj_inL f4)) (hts _ (mj_inN g7)) hsa (fun w hw => (hat w hw).1) (fun w hw => ?_) hE.2.2.1 hE.2.2.2.1 hS (hsz.trans hml.symm) hd d3 d4 d6 d9 (fun x hx => by rw [htb] at hx; cases hx) ?_ ?_ ?_ ?_ hlocks (fun t ha hz hk9 => ?_) hS.2.2 ?_ ?_
      · rcases List.mem_cons.mp hw with rfl | hw
        · exact hg _ (mj_inL f4)
        · rcases List.mem_cons.mp hw with rfl | hw
          · exact hg _ (mj_inN g7)
          · exact (hat w hw).2
      · show 1 + 4 < d + 12
        omega
      · show 0 + (13 * (1 + 2) + 43) ≤ 60 * d + 240
        omega
      · show k + 1 ≤ r.2.2
        omega
      · show 6 * k + 6 ≤ 6 * r.2.2
        omega
      · refine ⟨⟨E, h1, hxn.symm⟩, hP.kept (fun k9 q9 h9 => hk9 _ (hP k9 q9 h9).lt), ?_, fun q hq hn => ?_⟩
        · exact Nat.le_trans hS.1 hz
        · rw [hk9 q (Nat.lt_of_lt_of_le hq hS.1)]
          exact hS.2.1 q hq hn
      · omega
      · omega
end
