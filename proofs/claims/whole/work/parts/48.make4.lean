/-! the constructors of the reference and of the class -/
def yM_ : MethodName := ⟨"ExplainDifferenceModel", "<init>", "()V"⟩
abbrev bM_ : ByteArray := prog_5_method_1_code
def wcM_ : List Cond := Cond.code yM_ bM_ 2 none :: mj_tbl
def wm_ (cI cZ : ClassId) (h0 q2 q3 q4 q5 q6 q7 q8 q9 q12 q16 q18 q19 q22 q23 q24 : Nat) (f : Nat → Int32) : va_W := [(h0, .inr (3, [.int 0, .int 0, .ref q2, .ref q3, .ref q4, .ref q5, .ref q6, .ref q7, .ref q8, .ref q9, .int 0, .int 10000, .ref q12, .int 0, .int 0, .int 0, .ref q16, .int 0, .ref q18, .ref q19, .int 0, .int 0, .ref q22, .ref q23, .ref q24])), (q2, .inl (cI, 24, .inl (fun _ => 0))), (q3, .inl (cI, 24, .inl (fun _ => 0))), (q4, .inl (cI, 24, .inl (fun _ => 0))), (q5, .inl (cI, 24, .inl (fun _ => 0))), (q6, .inl (cI, 24, .inl (fun _ => 0))), (q7, .inl (cI, 24, .inl (fun _ => 0))), (q8, .inl (cI, 24, .inl (fun _ => 0))), (q9, .inl (cZ, 24, .inl (fun _ => 0))), (q12, .inl (cI, 60, .inl f)), (q16, .inl (cI, 24, .inl (fun _ => 0))), (q18, .inl (cI, 4, .inl (fun _ => 0))), (q19, .inl (cI, 60, .inl (fun _ => 0))), (q22, .inl (cI, 24, .inl (fun _ => 0))), (q23, .inl (cI, 5, .inl (fun _ => 0))), (q24, .inl (cZ, 5, .inl (fun _ => 0)))]
theorem dM_0 : decode bM_ 0 = .ok (.aload_n 0, 1) := by decide +kernel
theorem dM_1 : decode bM_ 1 = .ok (.invokespecial 1, 3) := by decide +kernel
theorem dM_4 : decode bM_ 4 = .ok (.aload_n 0, 1) := by decide +kernel
theorem dM_5 : decode bM_ 5 = .ok (.iconst 0, 1) := by decide +kernel
theorem dM_6 : decode bM_ 6 = .ok (.putfield 7, 3) := by decide +kernel
theorem dM_9 : decode bM_ 9 = .ok (.aload_n 0, 1) := by decide +kernel
theorem dM_10 : decode bM_ 10 = .ok (.iconst 0, 1) := by decide +kernel
theorem dM_11 : decode bM_ 11 = .ok (.putfield 13, 3) := by decide +kernel
theorem dM_14 : decode bM_ 14 = .ok (.aload_n 0, 1) := by decide +kernel
theorem dM_15 : decode bM_ 15 = .ok (.bipush 24, 2) := by decide +kernel
theorem dM_17 : decode bM_ 17 = .ok (.newarray .int, 2) := by decide +kernel
theorem dM_19 : decode bM_ 19 = .ok (.putfield 16, 3) := by decide +kernel
theorem dM_22 : decode bM_ 22 = .ok (.aload_n 0, 1) := by decide +kernel
theorem dM_23 : decode bM_ 23 = .ok (.bipush 24, 2) := by decide +kernel
theorem dM_25 : decode bM_ 25 = .ok (.newarray .int, 2) := by decide +kernel
theorem dM_27 : decode bM_ 27 = .ok (.putfield 20, 3) := by decide +kernel
theorem dM_30 : decode bM_ 30 = .ok (.aload_n 0, 1) := by decide +kernel
theorem dM_31 : decode bM_ 31 = .ok (.bipush 24, 2) := by decide +kernel
theorem dM_33 : decode bM_ 33 = .ok (.newarray .int, 2) := by decide +kernel
theorem dM_35 : decode bM_ 35 = .ok (.putfield 23, 3) := by decide +kernel
theorem dM_38 : decode bM_ 38 = .ok (.aload_n 0, 1) := by decide +kernel
theorem dM_39 : decode bM_ 39 = .ok (.bipush 24, 2) := by decide +kernel
theorem dM_41 : decode bM_ 41 = .ok (.newarray .int, 2) := by decide +kernel
theorem dM_43 : decode bM_ 43 = .ok (.putfield 26, 3) := by decide +kernel
theorem dM_46 : decode bM_ 46 = .ok (.aload_n 0, 1) := by decide +kernel
theorem dM_47 : decode bM_ 47 = .ok (.bipush 24, 2) := by decide +kernel
theorem dM_49 : decode bM_ 49 = .ok (.newarray .int, 2) := by decide +kernel
theorem dM_51 : decode bM_ 51 = .ok (.putfield 29, 3) := by decide +kernel
theorem dM_54 : decode bM_ 54 = .ok (.aload_n 0, 1) := by decide +kernel
theorem dM_55 : decode bM_ 55 = .ok (.bipush 24, 2) := by decide +kernel
theorem dM_57 : decode bM_ 57 = .ok (.newarray .int, 2) := by decide +kernel
theorem dM_59 : decode bM_ 59 = .ok (.putfield 32, 3) := by decide +kernel
theorem dM_62 : decode bM_ 62 = .ok (.aload_n 0, 1) := by decide +kernel
theorem dM_63 : decode bM_ 63 = .ok (.bipush 24, 2) := by decide +kernel
theorem dM_65 : decode bM_ 65 = .ok (.newarray .int, 2) := by decide +kernel
theorem dM_67 : decode bM_ 67 = .ok (.putfield 35, 3) := by decide +kernel
theorem dM_70 : decode bM_ 70 = .ok (.aload_n 0, 1) := by decide +kernel
theorem dM_71 : decode bM_ 71 = .ok (.bipush 24, 2) := by decide +kernel
theorem dM_73 : decode bM_ 73 = .ok (.newarray .boolean, 2) := by decide +kernel
theorem dM_75 : decode bM_ 75 = .ok (.putfield 38, 3) := by decide +kernel
theorem dM_78 : decode bM_ 78 = .ok (.aload_n 0, 1) := by decide +kernel
theorem dM_79 : decode bM_ 79 = .ok (.iconst 0, 1) := by decide +kernel
theorem dM_80 : decode bM_ 80 = .ok (.putfield 42, 3) := by decide +kernel
theorem dM_83 : decode bM_ 83 = .ok (.aload_n 0, 1) := by decide +kernel
theorem dM_84 : decode bM_ 84 = .ok (.sipush 10000, 3) := by decide +kernel
theorem dM_87 : decode bM_ 87 = .ok (.putfield 45, 3) := by decide +kernel
theorem dM_90 : decode bM_ 90 = .ok (.aload_n 0, 1) := by decide +kernel
theorem dM_91 : decode bM_ 91 = .ok (.bipush 60, 2) := by decide +kernel
theorem dM_93 : decode bM_ 93 = .ok (.newarray .int, 2) := by decide +kernel
theorem dM_95 : decode bM_ 95 = .ok (.putfield 48, 3) := by decide +kernel
theorem dM_98 : decode bM_ 98 = .ok (.aload_n 0, 1) := by decide +kernel
theorem dM_99 : decode bM_ 99 = .ok (.iconst 0, 1) := by decide +kernel
theorem dM_100 : decode bM_ 100 = .ok (.putfield 51, 3) := by decide +kernel
theorem dM_103 : decode bM_ 103 = .ok (.aload_n 0, 1) := by decide +kernel
theorem dM_104 : decode bM_ 104 = .ok (.iconst 0, 1) := by decide +kernel
theorem dM_105 : decode bM_ 105 = .ok (.putfield 55, 3) := by decide +kernel
theorem dM_108 : decode bM_ 108 = .ok (.aload_n 0, 1) := by decide +kernel
theorem dM_109 : decode bM_ 109 = .ok (.iconst 0, 1) := by decide +kernel
theorem dM_110 : decode bM_ 110 = .ok (.putfield 58, 3) := by decide +kernel
theorem dM_113 : decode bM_ 113 = .ok (.aload_n 0, 1) := by decide +kernel
theorem dM_114 : decode bM_ 114 = .ok (.bipush 24, 2) := by decide +kernel
theorem dM_116 : decode bM_ 116 = .ok (.newarray .int, 2) := by decide +kernel
theorem dM_118 : decode bM_ 118 = .ok (.putfield 61, 3) := by decide +kernel
theorem dM_121 : decode bM_ 121 = .ok (.aload_n 0, 1) := by decide +kernel
theorem dM_122 : decode bM_ 122 = .ok (.iconst 0, 1) := by decide +kernel
theorem dM_123 : decode bM_ 123 = .ok (.putfield 64, 3) := by decide +kernel
theorem dM_126 : decode bM_ 126 = .ok (.aload_n 0, 1) := by decide +kernel
theorem dM_127 : decode bM_ 127 = .ok (.iconst 4, 1) := by decide +kernel
theorem dM_128 : decode bM_ 128 = .ok (.newarray .int, 2) := by decide +kernel
theorem dM_130 : decode bM_ 130 = .ok (.putfield 67, 3) := by decide +kernel
theorem dM_133 : decode bM_ 133 = .ok (.aload_n 0, 1) := by decide +kernel
theorem dM_134 : decode bM_ 134 = .ok (.bipush 60, 2) := by decide +kernel
theorem dM_136 : decode bM_ 136 = .ok (.newarray .int, 2) := by decide +kernel
theorem dM_138 : decode bM_ 138 = .ok (.putfield 70, 3) := by decide +kernel
theorem dM_141 : decode bM_ 141 = .ok (.aload_n 0, 1) := by decide +kernel
theorem dM_142 : decode bM_ 142 = .ok (.iconst 0, 1) := by decide +kernel
theorem dM_143 : decode bM_ 143 = .ok (.putfield 73, 3) := by decide +kernel
theorem dM_146 : decode bM_ 146 = .ok (.aload_n 0, 1) := by decide +kernel
theorem dM_147 : decode bM_ 147 = .ok (.iconst 0, 1) := by decide +kernel
theorem dM_148 : decode bM_ 148 = .ok (.putfield 76, 3) := by decide +kernel
theorem dM_151 : decode bM_ 151 = .ok (.aload_n 0, 1) := by decide +kernel
theorem dM_152 : decode bM_ 152 = .ok (.bipush 24, 2) := by decide +kernel
theorem dM_154 : decode bM_ 154 = .ok (.newarray .int, 2) := by decide +kernel
theorem dM_156 : decode bM_ 156 = .ok (.putfield 79, 3) := by decide +kernel
theorem dM_159 : decode bM_ 159 = .ok (.aload_n 0, 1) := by decide +kernel
theorem dM_160 : decode bM_ 160 = .ok (.iconst 5, 1) := by decide +kernel
theorem dM_161 : decode bM_ 161 = .ok (.newarray .int, 2) := by decide +kernel
theorem dM_163 : decode bM_ 163 = .ok (.putfield 82, 3) := by decide +kernel
theorem dM_166 : decode bM_ 166 = .ok (.aload_n 0, 1) := by decide +kernel
theorem dM_167 : decode bM_ 167 = .ok (.iconst 5, 1) := by decide +kernel
theorem dM_168 : decode bM_ 168 = .ok (.newarray .boolean, 2) := by decide +kernel
theorem dM_170 : decode bM_ 170 = .ok (.putfield 85, 3) := by decide +kernel
theorem dM_173 : decode bM_ 173 = .ok (.iconst 0, 1) := by decide +kernel
theorem dM_174 : decode bM_ 174 = .ok (.istore_n 1, 1) := by decide +kernel
theorem dM_175 : decode bM_ 175 = .ok (.iload_n 1, 1) := by decide +kernel
theorem dM_176 : decode bM_ 176 = .ok (.bipush 60, 2) := by decide +kernel
theorem dM_178 : decode bM_ 178 = .ok (.if_icmp .ge 16, 3) := by decide +kernel
theorem dM_181 : decode bM_ 181 = .ok (.aload_n 0, 1) := by decide +kernel
theorem dM_182 : decode bM_ 182 = .ok (.getfield 48, 3) := by decide +kernel
theorem dM_185 : decode bM_ 185 = .ok (.iload_n 1, 1) := by decide +kernel
theorem dM_186 : decode bM_ 186 = .ok (.iconst (-1), 1) := by decide +kernel
theorem dM_187 : decode bM_ 187 = .ok (.iastore, 1) := by decide +kernel
theorem dM_188 : decode bM_ 188 = .ok (.iinc 1 1, 3) := by decide +kernel
theorem dM_191 : decode bM_ 191 = .ok (.goto (-16), 3) := by decide +kernel
theorem dM_194 : decode bM_ 194 = .ok (.return_, 1) := by decide +kernel
section
variable {p : Program} {l : Launch} {e : Env} {R : Room} {s : State} {m : MethodId} {args : Array Value} {below : List Frame} {meth : Method} {c : Code} {cells slots : Nat} {Q : State → Prop}
set_option maxHeartbeats 4000000 in
theorem ml_loop {D : va_G} {cI cR cJ cZ : ClassId} {h0 q2 q3 q4 q5 q6 q7 q8 q9 q12 q16 q18 q19 q22 q23 q24 : Nat} {A : Nat → Prop} {H0 : Heap} (hx : p.tables.exec = Jvm.exec) (hb : c.code = bM_) (hts : ∀ w ∈ mj_tbl, w.before args s = true) (hown : s.vm.findClass "ExplainDifferenceModel" = some m.cls) (hK : va_K D vwCl (mj_tys cI cR cJ cZ) s)
    (kk : ∀ (f : Nat → Int32) (H : Heap) (locs : List Loc) (ls : Array Slot), (∀ j, j < 60 → f j = -1) → va_P D vwCl (wm_ cI cZ h0 q2 q3 q4 q5 q6 q7 q8 q9 q12 q16 q18 q19 q22 q23 q24 f) H → va_D A (wm_ cI cZ h0 q2 q3 q4 q5 q6 q7 q8 q9 q12 q16 q18 q19 q22 q23 q24 f) → va_S A H0 H locs → W p l e R s m args below meth c H locs cells slots Q (F0 m 194 ls [])) :
    ∀ (k i : Nat) (f : Nat → Int32) (H : Heap) (locs : List Loc) (ls : Array Slot), k + i = 60 → (∀ j, j < i → f j = -1) → va_P D vwCl (wm_ cI cZ h0 q2 q3 q4 q5 q6 q7 q8 q9 q12 q16 q18 q19 q22 q23 q24 f) H → va_D A (wm_ cI cZ h0 q2 q3 q4 q5 q6 q7 q8 q9 q12 q16 q18 q19 q22 q23 q24 f) → va_S A H0 H locs → lv_has ls 2 [(1, .int (Int32.ofNat i)), (0, .ref h0)] → W p l e R s m args below meth c H locs cells slots Q (F0 m 175 ls []) := by
  intro k
  induction k with
  | zero =>
    intro i f H locs ls hi hf hP hD hS hl
    have hi : i = 60 := by omega
    subst hi
    refine lv_iload_n hx hb dM_175 rfl (lv_at hl 0 rfl) ?_
    refine lv_bipush (v := 60) hx hb dM_176 (by decide) ?_
    refine lv_icmp_ge (tgt := 194) hx hb dM_178 (by decide) (fun _ => ?_) (fun h => absurd (by decide) h)
    exact kk f H locs ls hf hP hD hS
  | succ k ih =>
    intro i f H locs ls hi hf hP hD hS hl
    have hi9 : i < 60 := by omega
    obtain ⟨c1, c2⟩ := mk_cl hi9
    obtain ⟨g1, g2, g3⟩ := mj_okC1 (C := "ExplainDifferenceModel") (F := mj_F3) (N := 25) (by decide +kernel)
    refine lv_iload_n hx hb dM_175 rfl (lv_at hl 0 rfl) ?_
    refine lv_bipush (v := 60) hx hb dM_176 (by decide) ?_
    refine lv_icmp_ge (tgt := 194) hx hb dM_178 (by decide) (fun h => absurd h (mk_ge hi9)) (fun _ => ?_)
    refine lv_aload_n hx hb dM_181 rfl (lv_at hl 1 rfl) ?_
    refine va_get (D := D) (ci := 3) (v := .ref q12) (C := "ExplainDifferenceModel") (T := mj_F3) (N := 25) hx hb hts g1 hown hK hP 0 rfl rfl 12 (by decide) (hts _ (mj_inF (by decide +kernel))) (fun _ h9 => h9) rfl dM_182 ?_
    refine lv_iload_n hx hb dM_185 rfl (lv_at hl 0 rfl) ?_
    refine lv_iconst (v := -1) hx hb dM_186 (by decide) ?_
    refine va_iast hx hb hK hP hD hS 9 0 rfl rfl c1 dM_187 (fun H locs hP hD hS => ?_)
    rw [c2] at hP hD
    refine lv_iinc (k := 0) (v := Int32.ofNat (i + 1)) hx hb dM_188 hl rfl (by rw [Int32.ofNat_add]; rfl) (by decide) rfl (fun ls hl => ?_)
    refine lv_goto (tgt := 175) hx hb dM_191 (by decide) ?_
    exact ih (i + 1) (upd f i (-1)) H locs ls (by omega) (mk_up hf) hP hD hS hl
end
set_option maxHeartbeats 8000000 in
set_option maxRecDepth 100000 in
theorem c_M (l : Launch) (D : va_G) (cI cR cJ cZ : ClassId) (h0 sz : Nat) : Met l yM_ wcM_ ({ frames := 1, cells := 15, slots := 374, locals := 60 }) (va_Pc [.ref h0] (fun U => U.heap.size = sz ∧ va_P D vwCl [(h0, .inr (3, [.int 0, .int 0, .null, .null, .null, .null, .null, .null, .null, .null, .int 0, .int 0, .null, .int 0, .int 0, .int 0, .null, .int 0, .null, .null, .int 0, .int 0, .null, .null, .null]))] U.heap ∧ va_K D vwCl (mj_tys cI cR cJ cZ) U ∧ va_D (fun _ => True) [(h0, .inr (3, [.int 0, .int 0, .null, .null, .null, .null, .null, .null, .null, .null, .int 0, .int 0, .null, .int 0, .int 0, .int 0, .null, .int 0, .null, .null, .int 0, .int 0, .null, .null, .null]))])) (va_Qv (fun _ : Unit => True) (fun _ t => ∃ (q2 q3 q4 q5 q6 q7 q8 q9 q12 q16 q18 q19 q22 q23 q24 : Nat), va_P D vwCl (wm_ cI cZ h0 q2 q3 q4 q5 q6 q7 q8 q9 q12 q16 q18 q19 q22 q23 q24 (fun _ => -1)) t.heap ∧ va_K D vwCl (mj_tys cI cR cJ cZ) t ∧ va_D (va_A [(h0, .inr (3, [.int 0, .int 0, .null, .null, .null, .null, .null, .null, .null, .null, .int 0, .int 0, .null, .int 0, .int 0, .int 0, .null, .int 0, .null, .null, .int 0, .int 0, .null, .null, .null]))] sz) (wm_ cI cZ h0 q2 q3 q4 q5 q6 q7 q8 q9 q12 q16 q18 q19 q22 q23 q24 (fun _ => -1))) (va_A [(h0, .inr (3, [.int 0, .int 0, .null, .null, .null, .null, .null, .null, .null, .null, .int 0, .int 0, .null, .int 0, .int 0, .int 0, .null, .int 0, .null, .null, .int 0, .int 0, .null, .null, .null]))] sz)) 15 374 (va_A [(h0, .inr (3, [.int 0, .int 0, .null, .null, .null, .null, .null, .null, .null, .null, .int 0, .int 0, .null, .int 0, .int 0, .int 0, .null, .int 0, .null, .null, .int 0, .int 0, .null, .null, .null]))] sz) := by
  refine Met.ofW (cc := bM_) (maxL := 2) (ret := none) (by decide) rfl ?_
  intro p e s m args below meth c s₁ B hml hv
  obtain ⟨rfl, hsz, hP, hK, hD0⟩ := hv
  have hx := B.exec
  have hb := B.bytes
  have hr := B.returns
  have hts9 := atoms_spec (ws := wcM_) B.pre
  have hts : ∀ w ∈ mj_tbl, w.before #[Value.ref h0] s = true := fun w hw => hts9 w (List.mem_cons_of_mem _ hw)
  have hown : s.vm.findClass "ExplainDifferenceModel" = some m.cls := findClass_of_methodNamed B.named
  have hlocks := B.notSynchronized
  have hin : meth.name = "<init>" := (name_of_methodNamed B.named B.method).1
  subst hsz
  have hD := hD0.self (sz := s.heap.size)
  generalize hAe : va_A [(h0, .inr (3, [.int 0, .int 0, .null, .null, .null, .null, .null, .null, .null, .null, .int 0, .int 0, .null, .int 0, .int 0, .int 0, .null, .int 0, .null, .null, .int 0, .int 0, .null, .null, .null]))] s.heap.size = A at hD ⊢
  have hA : ∀ q : Nat, s.heap.size ≤ q → A q := fun q h => by rw [← hAe]; exact Or.inr h
  have hS : va_S A s.heap s.heap [] := va_S.rf
  have hP : va_P D vwCl [(h0, .inr (3, [.int 0, .int 0, .null, .null, .null, .null, .null, .null, .null, .null, .int 0, .int 0, .null, .int 0, .int 0, .int 0, .null, .int 0, .null, .null, .int 0, .int 0, .null, .null, .null]))] s.heap := hP
  have hl := lv_entry ([.ref h0]) (n := 2) (Nat.le_of_ble_eq_true rfl)
  rw [lg_entry_eq]
  generalize (lg_sl ([.ref h0]) ++ List.replicate (2 - (lg_sl ([.ref h0])).length) Slot.unset).toArray = ls at hl ⊢
  have hl : lv_has ls 2 [(0, .ref h0)] := hl
  refine lv_aload_n hx hb dM_0 rfl (lv_at hl 0 rfl) ?_
  refine W.objInit (own := "ExplainDifferenceModel") hx hb hown (hts (.methodLink "ExplainDifferenceModel" 1 Lib.objectInit) (mj_inM (by decide +kernel))) (hts (.instanceMethod Lib.objectInit) (mj_inI (by decide +kernel))) (hts _ (mj_inC (List.mem_of_getElem? (i := 1) (by decide +kernel)))) rfl (by rw [hml]; exact hl.1) rfl dM_1 (Nat.le_of_ble_eq_true rfl) (Nat.le_of_ble_eq_true rfl) ?_
  refine W.eq (g2 := F0 m 4 ls []) rfl ?_
  refine lv_aload_n hx hb dM_4 rfl (lv_at hl 0 rfl) ?_
  refine lv_iconst (v := 0) hx hb dM_5 (by decide) ?_
  refine nx_int (ci := 3) (k := 0) (idx := 7) (ty := .int) (v := 0) (C := "ExplainDifferenceModel") (F := mj_F3) hx hb hts rfl (by decide +kernel) hown hK hP hD hS (by decide) (Nat.le_of_ble_eq_true rfl) (by decide +kernel) rfl rfl (by decide +kernel) rfl rfl dM_6 (fun H locs hP hD hS => ?_)
  have hP : va_P D vwCl [(h0, .inr (3, [.int 0, .int 0, .null, .null, .null, .null, .null, .null, .null, .null, .int 0, .int 0, .null, .int 0, .int 0, .int 0, .null, .int 0, .null, .null, .int 0, .int 0, .null, .null, .null]))] H := hP
  have hD : va_D A [(h0, .inr (3, [.int 0, .int 0, .null, .null, .null, .null, .null, .null, .null, .null, .int 0, .int 0, .null, .int 0, .int 0, .int 0, .null, .int 0, .null, .null, .int 0, .int 0, .null, .null, .null]))] := hD
  refine lv_aload_n hx hb dM_9 rfl (lv_at hl 0 rfl) ?_
  refine lv_iconst (v := 0) hx hb dM_10 (by decide) ?_
  refine nx_int (ci := 3) (k := 1) (idx := 13) (ty := .int) (v := 0) (C := "ExplainDifferenceModel") (F := mj_F3) hx hb hts rfl (by decide +kernel) hown hK hP hD hS (by decide) (Nat.le_of_ble_eq_true rfl) (by decide +kernel) rfl rfl (by decide +kernel) rfl rfl dM_11 (fun H locs hP hD hS => ?_)
  have hP : va_P D vwCl [(h0, .inr (3, [.int 0, .int 0, .null, .null, .null, .null, .null, .null, .null, .null, .int 0, .int 0, .null, .int 0, .int 0, .int 0, .null, .int 0, .null, .null, .int 0, .int 0, .null, .null, .null]))] H := hP
  have hD : va_D A [(h0, .inr (3, [.int 0, .int 0, .null, .null, .null, .null, .null, .null, .null, .null, .int 0, .int 0, .null, .int 0, .int 0, .int 0, .null, .int 0, .null, .null, .int 0, .int 0, .null, .null, .null]))] := hD
  refine lv_aload_n hx hb dM_14 rfl (lv_at hl 0 rfl) ?_
  refine lv_bipush (v := 24) hx hb dM_15 (by decide) ?_
  refine nx_arr (ci := 3) (k := 2) (idx := 16) (n := 24) (N' := 24) (ty := .int) (atype := .int) (C := "ExplainDifferenceModel") (F := mj_F3) hx hb hts rfl (by decide +kernel) hown hin hK hP hD hS hA rfl (mj_inO (by decide +kernel)) (t0 := 0) rfl ra_I rfl (by decide) (by decide) (by decide) (Nat.le_of_ble_eq_true rfl) (Nat.le_of_ble_eq_true rfl) (by decide) (Nat.le_of_ble_eq_true rfl) (by decide +kernel) rfl rfl (by decide +kernel) dM_17 dM_19 (fun q2 H locs hP hD hS => ?_)
  have hP : va_P D vwCl [(h0, .inr (3, [.int 0, .int 0, .ref q2, .null, .null, .null, .null, .null, .null, .null, .int 0, .int 0, .null, .int 0, .int 0, .int 0, .null, .int 0, .null, .null, .int 0, .int 0, .null, .null, .null])), (q2, .inl (cI, 24, .inl (fun _ => 0)))] H := hP
  have hD : va_D A [(h0, .inr (3, [.int 0, .int 0, .ref q2, .null, .null, .null, .null, .null, .null, .null, .int 0, .int 0, .null, .int 0, .int 0, .int 0, .null, .int 0, .null, .null, .int 0, .int 0, .null, .null, .null])), (q2, .inl (cI, 24, .inl (fun _ => 0)))] := hD
  refine lv_aload_n hx hb dM_22 rfl (lv_at hl 0 rfl) ?_
  refine lv_bipush (v := 24) hx hb dM_23 (by decide) ?_
  refine nx_arr (ci := 3) (k := 3) (idx := 20) (n := 24) (N' := 24) (ty := .int) (atype := .int) (C := "ExplainDifferenceModel") (F := mj_F3) hx hb hts rfl (by decide +kernel) hown hin hK hP hD hS hA rfl (mj_inO (by decide +kernel)) (t0 := 0) rfl ra_I rfl (by decide) (by decide) (by decide) (Nat.le_of_ble_eq_true rfl) (Nat.le_of_ble_eq_true rfl) (by decide) (Nat.le_of_ble_eq_true rfl) (by decide +kernel) rfl rfl (by decide +kernel) dM_25 dM_27 (fun q3 H locs hP hD hS => ?_)
  have hP : va_P D vwCl [(h0, .inr (3, [.int 0, .int 0, .ref q2, .ref q3, .null, .null, .null, .null, .null, .null, .int 0, .int 0, .null, .int 0, .int 0, .int 0, .null, .int 0, .null, .null, .int 0, .int 0, .null, .null, .null])), (q2, .inl (cI, 24, .inl (fun _ => 0))), (q3, .inl (cI, 24, .inl (fun _ => 0)))] H := hP
  have hD : va_D A [(h0, .inr (3, [.int 0, .int 0, .ref q2, .ref q3, .null, .null, .null, .null, .null, .null, .int 0, .int 0, .null, .int 0, .int 0, .int 0, .null, .int 0, .null, .null, .int 0, .int 0, .null, .null, .null])), (q2, .inl (cI, 24, .inl (fun _ => 0))), (q3, .inl (cI, 24, .inl (fun _ => 0)))] := hD
  refine lv_aload_n hx hb dM_30 rfl (lv_at hl 0 rfl) ?_
  refine lv_bipush (v := 24) hx hb dM_31 (by decide) ?_
  refine nx_arr (ci := 3) (k := 4) (idx := 23) (n := 24) (N' := 24) (ty := .int) (atype := .int) (C := "ExplainDifferenceModel") (F := mj_F3) hx hb hts rfl (by decide +kernel) hown hin hK hP hD hS hA rfl (mj_inO (by decide +kernel)) (t0 := 0) rfl ra_I rfl (by decide) (by decide) (by decide) (Nat.le_of_ble_eq_true rfl) (Nat.le_of_ble_eq_true rfl) (by decide) (Nat.le_of_ble_eq_true rfl) (by decide +kernel) rfl rfl (by decide +kernel) dM_33 dM_35 (fun q4 H locs hP hD hS => ?_)
  have hP : va_P D vwCl [(h0, .inr (3, [.int 0, .int 0, .ref q2, .ref q3, .ref q4, .null, .null, .null, .null, .null, .int 0, .int 0, .null, .int 0, .int 0, .int 0, .null, .int 0, .null, .null, .int 0, .int 0, .null, .null, .null])), (q2, .inl (cI, 24, .inl (fun _ => 0))), (q3, .inl (cI, 24, .inl (fun _ => 0))), (q4, .inl (cI, 24, .inl (fun _ => 0)))] H := hP
  have hD : va_D A [(h0, .inr (3, [.int 0, .int 0, .ref q2, .ref q3, .ref q4, .null, .null, .null, .null, .null, .int 0, .int 0, .null, .int 0, .int 0, .int 0, .null, .int 0, .null, .null, .int 0, .int 0, .null, .null, .null])), (q2, .inl (cI, 24, .inl (fun _ => 0))), (q3, .inl (cI, 24, .inl (fun _ => 0))), (q4, .inl (cI, 24, .inl (fun _ => 0)))] := hD
  refine lv_aload_n hx hb dM_38 rfl (lv_at hl 0 rfl) ?_
  refine lv_bipush (v := 24) hx hb dM_39 (by decide) ?_
  refine nx_arr (ci := 3) (k := 5) (idx := 26) (n := 24) (N' := 24) (ty := .int) (atype := .int) (C := "ExplainDifferenceModel") (F := mj_F3) hx hb hts rfl (by decide +kernel) hown hin hK hP hD hS hA rfl (mj_inO (by decide +kernel)) (t0 := 0) rfl ra_I rfl (by decide) (by decide) (by decide) (Nat.le_of_ble_eq_true rfl) (Nat.le_of_ble_eq_true rfl) (by decide) (Nat.le_of_ble_eq_true rfl) (by decide +kernel) rfl rfl (by decide +kernel) dM_41 dM_43 (fun q5 H locs hP hD hS => ?_)
  have hP : va_P D vwCl [(h0, .inr (3, [.int 0, .int 0, .ref q2, .ref q3, .ref q4, .ref q5, .null, .null, .null, .null, .int 0, .int 0, .null, .int 0, .int 0, .int 0, .null, .int 0, .null, .null, .int 0, .int 0, .null, .null, .null])), (q2, .inl (cI, 24, .inl (fun _ => 0))), (q3, .inl (cI, 24, .inl (fun _ => 0))), (q4, .inl (cI, 24, .inl (fun _ => 0))), (q5, .inl (cI, 24, .inl (fun _ => 0)))] H := hP
  have hD : va_D A [(h0, .inr (3, [.int 0, .int 0, .ref q2, .ref q3, .ref q4, .ref q5, .null, .null, .null, .null, .int 0, .int 0, .null, .int 0, .int 0, .int 0, .null, .int 0, .null, .null, .int 0, .int 0, .null, .null, .null])), (q2, .inl (cI, 24, .inl (fun _ => 0))), (q3, .inl (cI, 24, .inl (fun _ => 0))), (q4, .inl (cI, 24, .inl (fun _ => 0))), (q5, .inl (cI, 24, .inl (fun _ => 0)))] := hD
  refine lv_aload_n hx hb dM_46 rfl (lv_at hl 0 rfl) ?_
  refine lv_bipush (v := 24) hx hb dM_47 (by decide) ?_
  refine nx_arr (ci := 3) (k := 6) (idx := 29) (n := 24) (N' := 24) (ty := .int) (atype := .int) (C := "ExplainDifferenceModel") (F := mj_F3) hx hb hts rfl (by decide +kernel) hown hin hK hP hD hS hA rfl (mj_inO (by decide +kernel)) (t0 := 0) rfl ra_I rfl (by decide) (by decide) (by decide) (Nat.le_of_ble_eq_true rfl) (Nat.le_of_ble_eq_true rfl) (by decide) (Nat.le_of_ble_eq_true rfl) (by decide +kernel) rfl rfl (by decide +kernel) dM_49 dM_51 (fun q6 H locs hP hD hS => ?_)
  have hP : va_P D vwCl [(h0, .inr (3, [.int 0, .int 0, .ref q2, .ref q3, .ref q4, .ref q5, .ref q6, .null, .null, .null, .int 0, .int 0, .null, .int 0, .int 0, .int 0, .null, .int 0, .null, .null, .int 0, .int 0, .null, .null, .null])), (q2, .inl (cI, 24, .inl (fun _ => 0))), (q3, .inl (cI, 24, .inl (fun _ => 0))), (q4, .inl (cI, 24, .inl (fun _ => 0))), (q5, .inl (cI, 24, .inl (fun _ => 0))), (q6, .inl (cI, 24, .inl (fun _ => 0)))] H := hP
  have hD : va_D A [(h0, .inr (3, [.int 0, .int 0, .ref q2, .ref q3, .ref q4, .ref q5, .ref q6, .null, .null, .null, .int 0, .int 0, .null, .int 0, .int 0, .int 0, .null, .int 0, .null, .null, .int 0, .int 0, .null, .null, .null])), (q2, .inl (cI, 24, .inl (fun _ => 0))), (q3, .inl (cI, 24, .inl (fun _ => 0))), (q4, .inl (cI, 24, .inl (fun _ => 0))), (q5, .inl (cI, 24, .inl (fun _ => 0))), (q6, .inl (cI, 24, .inl (fun _ => 0)))] := hD
  refine lv_aload_n hx hb dM_54 rfl (lv_at hl 0 rfl) ?_
  refine lv_bipush (v := 24) hx hb dM_55 (by decide) ?_
  refine nx_arr (ci := 3) (k := 7) (idx := 32) (n := 24) (N' := 24) (ty := .int) (atype := .int) (C := "ExplainDifferenceModel") (F := mj_F3) hx hb hts rfl (by decide +kernel) hown hin hK hP hD hS hA rfl (mj_inO (by decide +kernel)) (t0 := 0) rfl ra_I rfl (by decide) (by decide) (by decide) (Nat.le_of_ble_eq_true rfl) (Nat.le_of_ble_eq_true rfl) (by decide) (Nat.le_of_ble_eq_true rfl) (by decide +kernel) rfl rfl (by decide +kernel) dM_57 dM_59 (fun q7 H locs hP hD hS => ?_)
  have hP : va_P D vwCl [(h0, .inr (3, [.int 0, .int 0, .ref q2, .ref q3, .ref q4, .ref q5, .ref q6, .ref q7, .null, .null, .int 0, .int 0, .null, .int 0, .int 0, .int 0, .null, .int 0, .null, .null, .int 0, .int 0, .null, .null, .null])), (q2, .inl (cI, 24, .inl (fun _ => 0))), (q3, .inl (cI, 24, .inl (fun _ => 0))), (q4, .inl (cI, 24, .inl (fun _ => 0))), (q5, .inl (cI, 24, .inl (fun _ => 0))), (q6, .inl (cI, 24, .inl (fun _ => 0))), (q7, .inl (cI, 24, .inl (fun _ => 0)))] H := hP
  have hD : va_D A [(h0, .inr (3, [.int 0, .int 0, .ref q2, .ref q3, .ref q4, .ref q5, .ref q6, .ref q7, .null, .null, .int 0, .int 0, .null, .int 0, .int 0, .int 0, .null, .int 0, .null, .null, .int 0, .int 0, .null, .null, .null])), (q2, .inl (cI, 24, .inl (fun _ => 0))), (q3, .inl (cI, 24, .inl (fun _ => 0))), (q4, .inl (cI, 24, .inl (fun _ => 0))), (q5, .inl (cI, 24, .inl (fun _ => 0))), (q6, .inl (cI, 24, .inl (fun _ => 0))), (q7, .inl (cI, 24, .inl (fun _ => 0)))] := hD
  refine lv_aload_n hx hb dM_62 rfl (lv_at hl 0 rfl) ?_
  refine lv_bipush (v := 24) hx hb dM_63 (by decide) ?_
  refine nx_arr (ci := 3) (k := 8) (idx := 35) (n := 24) (N' := 24) (ty := .int) (atype := .int) (C := "ExplainDifferenceModel") (F := mj_F3) hx hb hts rfl (by decide +kernel) hown hin hK hP hD hS hA rfl (mj_inO (by decide +kernel)) (t0 := 0) rfl ra_I rfl (by decide) (by decide) (by decide) (Nat.le_of_ble_eq_true rfl) (Nat.le_of_ble_eq_true rfl) (by decide) (Nat.le_of_ble_eq_true rfl) (by decide +kernel) rfl rfl (by decide +kernel) dM_65 dM_67 (fun q8 H locs hP hD hS => ?_)
  have hP : va_P D vwCl [(h0, .inr (3, [.int 0, .int 0, .ref q2, .ref q3, .ref q4, .ref q5, .ref q6, .ref q7, .ref q8, .null, .int 0, .int 0, .null, .int 0, .int 0, .int 0, .null, .int 0, .null, .null, .int 0, .int 0, .null, .null, .null])), (q2, .inl (cI, 24, .inl (fun _ => 0))), (q3, .inl (cI, 24, .inl (fun _ => 0))), (q4, .inl (cI, 24, .inl (fun _ => 0))), (q5, .inl (cI, 24, .inl (fun _ => 0))), (q6, .inl (cI, 24, .inl (fun _ => 0))), (q7, .inl (cI, 24, .inl (fun _ => 0))), (q8, .inl (cI, 24, .inl (fun _ => 0)))] H := hP
  have hD : va_D A [(h0, .inr (3, [.int 0, .int 0, .ref q2, .ref q3, .ref q4, .ref q5, .ref q6, .ref q7, .ref q8, .null, .int 0, .int 0, .null, .int 0, .int 0, .int 0, .null, .int 0, .null, .null, .int 0, .int 0, .null, .null, .null])), (q2, .inl (cI, 24, .inl (fun _ => 0))), (q3, .inl (cI, 24, .inl (fun _ => 0))), (q4, .inl (cI, 24, .inl (fun _ => 0))), (q5, .inl (cI, 24, .inl (fun _ => 0))), (q6, .inl (cI, 24, .inl (fun _ => 0))), (q7, .inl (cI, 24, .inl (fun _ => 0))), (q8, .inl (cI, 24, .inl (fun _ => 0)))] := hD
  refine lv_aload_n hx hb dM_70 rfl (lv_at hl 0 rfl) ?_
  refine lv_bipush (v := 24) hx hb dM_71 (by decide) ?_
  refine nx_arr (ci := 3) (k := 9) (idx := 38) (n := 24) (N' := 24) (ty := .boolean) (atype := .boolean) (C := "ExplainDifferenceModel") (F := mj_F3) hx hb hts rfl (by decide +kernel) hown hin hK hP hD hS hA rfl (mj_inO (by decide +kernel)) (t0 := 3) rfl ra_Z rfl (by decide) (by decide) (by decide) (Nat.le_of_ble_eq_true rfl) (Nat.le_of_ble_eq_true rfl) (by decide) (Nat.le_of_ble_eq_true rfl) (by decide +kernel) rfl rfl (by decide +kernel) dM_73 dM_75 (fun q9 H locs hP hD hS => ?_)
  have hP : va_P D vwCl [(h0, .inr (3, [.int 0, .int 0, .ref q2, .ref q3, .ref q4, .ref q5, .ref q6, .ref q7, .ref q8, .ref q9, .int 0, .int 0, .null, .int 0, .int 0, .int 0, .null, .int 0, .null, .null, .int 0, .int 0, .null, .null, .null])), (q2, .inl (cI, 24, .inl (fun _ => 0))), (q3, .inl (cI, 24, .inl (fun _ => 0))), (q4, .inl (cI, 24, .inl (fun _ => 0))), (q5, .inl (cI, 24, .inl (fun _ => 0))), (q6, .inl (cI, 24, .inl (fun _ => 0))), (q7, .inl (cI, 24, .inl (fun _ => 0))), (q8, .inl (cI, 24, .inl (fun _ => 0))), (q9, .inl (cZ, 24, .inl (fun _ => 0)))] H := hP
  have hD : va_D A [(h0, .inr (3, [.int 0, .int 0, .ref q2, .ref q3, .ref q4, .ref q5, .ref q6, .ref q7, .ref q8, .ref q9, .int 0, .int 0, .null, .int 0, .int 0, .int 0, .null, .int 0, .null, .null, .int 0, .int 0, .null, .null, .null])), (q2, .inl (cI, 24, .inl (fun _ => 0))), (q3, .inl (cI, 24, .inl (fun _ => 0))), (q4, .inl (cI, 24, .inl (fun _ => 0))), (q5, .inl (cI, 24, .inl (fun _ => 0))), (q6, .inl (cI, 24, .inl (fun _ => 0))), (q7, .inl (cI, 24, .inl (fun _ => 0))), (q8, .inl (cI, 24, .inl (fun _ => 0))), (q9, .inl (cZ, 24, .inl (fun _ => 0)))] := hD
  refine lv_aload_n hx hb dM_78 rfl (lv_at hl 0 rfl) ?_
  refine lv_iconst (v := 0) hx hb dM_79 (by decide) ?_
  refine nx_int (ci := 3) (k := 10) (idx := 42) (ty := .int) (v := 0) (C := "ExplainDifferenceModel") (F := mj_F3) hx hb hts rfl (by decide +kernel) hown hK hP hD hS (by decide) (Nat.le_of_ble_eq_true rfl) (by decide +kernel) rfl rfl (by decide +kernel) rfl rfl dM_80 (fun H locs hP hD hS => ?_)
  have hP : va_P D vwCl [(h0, .inr (3, [.int 0, .int 0, .ref q2, .ref q3, .ref q4, .ref q5, .ref q6, .ref q7, .ref q8, .ref q9, .int 0, .int 0, .null, .int 0, .int 0, .int 0, .null, .int 0, .null, .null, .int 0, .int 0, .null, .null, .null])), (q2, .inl (cI, 24, .inl (fun _ => 0))), (q3, .inl (cI, 24, .inl (fun _ => 0))), (q4, .inl (cI, 24, .inl (fun _ => 0))), (q5, .inl (cI, 24, .inl (fun _ => 0))), (q6, .inl (cI, 24, .inl (fun _ => 0))), (q7, .inl (cI, 24, .inl (fun _ => 0))), (q8, .inl (cI, 24, .inl (fun _ => 0))), (q9, .inl (cZ, 24, .inl (fun _ => 0)))] H := hP
  have hD : va_D A [(h0, .inr (3, [.int 0, .int 0, .ref q2, .ref q3, .ref q4, .ref q5, .ref q6, .ref q7, .ref q8, .ref q9, .int 0, .int 0, .null, .int 0, .int 0, .int 0, .null, .int 0, .null, .null, .int 0, .int 0, .null, .null, .null])), (q2, .inl (cI, 24, .inl (fun _ => 0))), (q3, .inl (cI, 24, .inl (fun _ => 0))), (q4, .inl (cI, 24, .inl (fun _ => 0))), (q5, .inl (cI, 24, .inl (fun _ => 0))), (q6, .inl (cI, 24, .inl (fun _ => 0))), (q7, .inl (cI, 24, .inl (fun _ => 0))), (q8, .inl (cI, 24, .inl (fun _ => 0))), (q9, .inl (cZ, 24, .inl (fun _ => 0)))] := hD
  refine lv_aload_n hx hb dM_83 rfl (lv_at hl 0 rfl) ?_
  refine lv_sipush (v := 10000) hx hb dM_84 (by decide) ?_
  refine nx_int (ci := 3) (k := 11) (idx := 45) (ty := .int) (v := 10000) (C := "ExplainDifferenceModel") (F := mj_F3) hx hb hts rfl (by decide +kernel) hown hK hP hD hS (by decide) (Nat.le_of_ble_eq_true rfl) (by decide +kernel) rfl rfl (by decide +kernel) rfl rfl dM_87 (fun H locs hP hD hS => ?_)
  have hP : va_P D vwCl [(h0, .inr (3, [.int 0, .int 0, .ref q2, .ref q3, .ref q4, .ref q5, .ref q6, .ref q7, .ref q8, .ref q9, .int 0, .int 10000, .null, .int 0, .int 0, .int 0, .null, .int 0, .null, .null, .int 0, .int 0, .null, .null, .null])), (q2, .inl (cI, 24, .inl (fun _ => 0))), (q3, .inl (cI, 24, .inl (fun _ => 0))), (q4, .inl (cI, 24, .inl (fun _ => 0))), (q5, .inl (cI, 24, .inl (fun _ => 0))), (q6, .inl (cI, 24, .inl (fun _ => 0))), (q7, .inl (cI, 24, .inl (fun _ => 0))), (q8, .inl (cI, 24, .inl (fun _ => 0))), (q9, .inl (cZ, 24, .inl (fun _ => 0)))] H := hP
  have hD : va_D A [(h0, .inr (3, [.int 0, .int 0, .ref q2, .ref q3, .ref q4, .ref q5, .ref q6, .ref q7, .ref q8, .ref q9, .int 0, .int 10000, .null, .int 0, .int 0, .int 0, .null, .int 0, .null, .null, .int 0, .int 0, .null, .null, .null])), (q2, .inl (cI, 24, .inl (fun _ => 0))), (q3, .inl (cI, 24, .inl (fun _ => 0))), (q4, .inl (cI, 24, .inl (fun _ => 0))), (q5, .inl (cI, 24, .inl (fun _ => 0))), (q6, .inl (cI, 24, .inl (fun _ => 0))), (q7, .inl (cI, 24, .inl (fun _ => 0))), (q8, .inl (cI, 24, .inl (fun _ => 0))), (q9, .inl (cZ, 24, .inl (fun _ => 0)))] := hD
  refine lv_aload_n hx hb dM_90 rfl (lv_at hl 0 rfl) ?_
  refine lv_bipush (v := 60) hx hb dM_91 (by decide) ?_
  refine nx_arr (ci := 3) (k := 12) (idx := 48) (n := 60) (N' := 60) (ty := .int) (atype := .int) (C := "ExplainDifferenceModel") (F := mj_F3) hx hb hts rfl (by decide +kernel) hown hin hK hP hD hS hA rfl (mj_inO (by decide +kernel)) (t0 := 0) rfl ra_I rfl (by decide) (by decide) (by decide) (Nat.le_of_ble_eq_true rfl) (Nat.le_of_ble_eq_true rfl) (by decide) (Nat.le_of_ble_eq_true rfl) (by decide +kernel) rfl rfl (by decide +kernel) dM_93 dM_95 (fun q12 H locs hP hD hS => ?_)
  have hP : va_P D vwCl [(h0, .inr (3, [.int 0, .int 0, .ref q2, .ref q3, .ref q4, .ref q5, .ref q6, .ref q7, .ref q8, .ref q9, .int 0, .int 10000, .ref q12, .int 0, .int 0, .int 0, .null, .int 0, .null, .null, .int 0, .int 0, .null, .null, .null])), (q2, .inl (cI, 24, .inl (fun _ => 0))), (q3, .inl (cI, 24, .inl (fun _ => 0))), (q4, .inl (cI, 24, .inl (fun _ => 0))), (q5, .inl (cI, 24, .inl (fun _ => 0))), (q6, .inl (cI, 24, .inl (fun _ => 0))), (q7, .inl (cI, 24, .inl (fun _ => 0))), (q8, .inl (cI, 24, .inl (fun _ => 0))), (q9, .inl (cZ, 24, .inl (fun _ => 0))), (q12, .inl (cI, 60, .inl (fun _ => 0)))] H := hP
  have hD : va_D A [(h0, .inr (3, [.int 0, .int 0, .ref q2, .ref q3, .ref q4, .ref q5, .ref q6, .ref q7, .ref q8, .ref q9, .int 0, .int 10000, .ref q12, .int 0, .int 0, .int 0, .null, .int 0, .null, .null, .int 0, .int 0, .null, .null, .null])), (q2, .inl (cI, 24, .inl (fun _ => 0))), (q3, .inl (cI, 24, .inl (fun _ => 0))), (q4, .inl (cI, 24, .inl (fun _ => 0))), (q5, .inl (cI, 24, .inl (fun _ => 0))), (q6, .inl (cI, 24, .inl (fun _ => 0))), (q7, .inl (cI, 24, .inl (fun _ => 0))), (q8, .inl (cI, 24, .inl (fun _ => 0))), (q9, .inl (cZ, 24, .inl (fun _ => 0))), (q12, .inl (cI, 60, .inl (fun _ => 0)))] := hD
  refine lv_aload_n hx hb dM_98 rfl (lv_at hl 0 rfl) ?_
  refine lv_iconst (v := 0) hx hb dM_99 (by decide) ?_
  refine nx_int (ci := 3) (k := 13) (idx := 51) (ty := .boolean) (v := 0) (C := "ExplainDifferenceModel") (F := mj_F3) hx hb hts rfl (by decide +kernel) hown hK hP hD hS (by decide) (Nat.le_of_ble_eq_true rfl) (by decide +kernel) rfl rfl (by decide +kernel) rfl rfl dM_100 (fun H locs hP hD hS => ?_)
  have hP : va_P D vwCl [(h0, .inr (3, [.int 0, .int 0, .ref q2, .ref q3, .ref q4, .ref q5, .ref q6, .ref q7, .ref q8, .ref q9, .int 0, .int 10000, .ref q12, .int 0, .int 0, .int 0, .null, .int 0, .null, .null, .int 0, .int 0, .null, .null, .null])), (q2, .inl (cI, 24, .inl (fun _ => 0))), (q3, .inl (cI, 24, .inl (fun _ => 0))), (q4, .inl (cI, 24, .inl (fun _ => 0))), (q5, .inl (cI, 24, .inl (fun _ => 0))), (q6, .inl (cI, 24, .inl (fun _ => 0))), (q7, .inl (cI, 24, .inl (fun _ => 0))), (q8, .inl (cI, 24, .inl (fun _ => 0))), (q9, .inl (cZ, 24, .inl (fun _ => 0))), (q12, .inl (cI, 60, .inl (fun _ => 0)))] H := hP
  have hD : va_D A [(h0, .inr (3, [.int 0, .int 0, .ref q2, .ref q3, .ref q4, .ref q5, .ref q6, .ref q7, .ref q8, .ref q9, .int 0, .int 10000, .ref q12, .int 0, .int 0, .int 0, .null, .int 0, .null, .null, .int 0, .int 0, .null, .null, .null])), (q2, .inl (cI, 24, .inl (fun _ => 0))), (q3, .inl (cI, 24, .inl (fun _ => 0))), (q4, .inl (cI, 24, .inl (fun _ => 0))), (q5, .inl (cI, 24, .inl (fun _ => 0))), (q6, .inl (cI, 24, .inl (fun _ => 0))), (q7, .inl (cI, 24, .inl (fun _ => 0))), (q8, .inl (cI, 24, .inl (fun _ => 0))), (q9, .inl (cZ, 24, .inl (fun _ => 0))), (q12, .inl (cI, 60, .inl (fun _ => 0)))] := hD
  refine lv_aload_n hx hb dM_103 rfl (lv_at hl 0 rfl) ?_
  refine lv_iconst (v := 0) hx hb dM_104 (by decide) ?_
  refine nx_int (ci := 3) (k := 14) (idx := 55) (ty := .int) (v := 0) (C := "ExplainDifferenceModel") (F := mj_F3) hx hb hts rfl (by decide +kernel) hown hK hP hD hS (by decide) (Nat.le_of_ble_eq_true rfl) (by decide +kernel) rfl rfl (by decide +kernel) rfl rfl dM_105 (fun H locs hP hD hS => ?_)
  have hP : va_P D vwCl [(h0, .inr (3, [.int 0, .int 0, .ref q2, .ref q3, .ref q4, .ref q5, .ref q6, .ref q7, .ref q8, .ref q9, .int 0, .int 10000, .ref q12, .int 0, .int 0, .int 0, .null, .int 0, .null, .null, .int 0, .int 0, .null, .null, .null])), (q2, .inl (cI, 24, .inl (fun _ => 0))), (q3, .inl (cI, 24, .inl (fun _ => 0))), (q4, .inl (cI, 24, .inl (fun _ => 0))), (q5, .inl (cI, 24, .inl (fun _ => 0))), (q6, .inl (cI, 24, .inl (fun _ => 0))), (q7, .inl (cI, 24, .inl (fun _ => 0))), (q8, .inl (cI, 24, .inl (fun _ => 0))), (q9, .inl (cZ, 24, .inl (fun _ => 0))), (q12, .inl (cI, 60, .inl (fun _ => 0)))] H := hP
  have hD : va_D A [(h0, .inr (3, [.int 0, .int 0, .ref q2, .ref q3, .ref q4, .ref q5, .ref q6, .ref q7, .ref q8, .ref q9, .int 0, .int 10000, .ref q12, .int 0, .int 0, .int 0, .null, .int 0, .null, .null, .int 0, .int 0, .null, .null, .null])), (q2, .inl (cI, 24, .inl (fun _ => 0))), (q3, .inl (cI, 24, .inl (fun _ => 0))), (q4, .inl (cI, 24, .inl (fun _ => 0))), (q5, .inl (cI, 24, .inl (fun _ => 0))), (q6, .inl (cI, 24, .inl (fun _ => 0))), (q7, .inl (cI, 24, .inl (fun _ => 0))), (q8, .inl (cI, 24, .inl (fun _ => 0))), (q9, .inl (cZ, 24, .inl (fun _ => 0))), (q12, .inl (cI, 60, .inl (fun _ => 0)))] := hD
  refine lv_aload_n hx hb dM_108 rfl (lv_at hl 0 rfl) ?_
  refine lv_iconst (v := 0) hx hb dM_109 (by decide) ?_
  refine nx_int (ci := 3) (k := 15) (idx := 58) (ty := .int) (v := 0) (C := "ExplainDifferenceModel") (F := mj_F3) hx hb hts rfl (by decide +kernel) hown hK hP hD hS (by decide) (Nat.le_of_ble_eq_true rfl) (by decide +kernel) rfl rfl (by decide +kernel) rfl rfl dM_110 (fun H locs hP hD hS => ?_)
  have hP : va_P D vwCl [(h0, .inr (3, [.int 0, .int 0, .ref q2, .ref q3, .ref q4, .ref q5, .ref q6, .ref q7, .ref q8, .ref q9, .int 0, .int 10000, .ref q12, .int 0, .int 0, .int 0, .null, .int 0, .null, .null, .int 0, .int 0, .null, .null, .null])), (q2, .inl (cI, 24, .inl (fun _ => 0))), (q3, .inl (cI, 24, .inl (fun _ => 0))), (q4, .inl (cI, 24, .inl (fun _ => 0))), (q5, .inl (cI, 24, .inl (fun _ => 0))), (q6, .inl (cI, 24, .inl (fun _ => 0))), (q7, .inl (cI, 24, .inl (fun _ => 0))), (q8, .inl (cI, 24, .inl (fun _ => 0))), (q9, .inl (cZ, 24, .inl (fun _ => 0))), (q12, .inl (cI, 60, .inl (fun _ => 0)))] H := hP
  have hD : va_D A [(h0, .inr (3, [.int 0, .int 0, .ref q2, .ref q3, .ref q4, .ref q5, .ref q6, .ref q7, .ref q8, .ref q9, .int 0, .int 10000, .ref q12, .int 0, .int 0, .int 0, .null, .int 0, .null, .null, .int 0, .int 0, .null, .null, .null])), (q2, .inl (cI, 24, .inl (fun _ => 0))), (q3, .inl (cI, 24, .inl (fun _ => 0))), (q4, .inl (cI, 24, .inl (fun _ => 0))), (q5, .inl (cI, 24, .inl (fun _ => 0))), (q6, .inl (cI, 24, .inl (fun _ => 0))), (q7, .inl (cI, 24, .inl (fun _ => 0))), (q8, .inl (cI, 24, .inl (fun _ => 0))), (q9, .inl (cZ, 24, .inl (fun _ => 0))), (q12, .inl (cI, 60, .inl (fun _ => 0)))] := hD
  refine lv_aload_n hx hb dM_113 rfl (lv_at hl 0 rfl) ?_
  refine lv_bipush (v := 24) hx hb dM_114 (by decide) ?_
  refine nx_arr (ci := 3) (k := 16) (idx := 61) (n := 24) (N' := 24) (ty := .int) (atype := .int) (C := "ExplainDifferenceModel") (F := mj_F3) hx hb hts rfl (by decide +kernel) hown hin hK hP hD hS hA rfl (mj_inO (by decide +kernel)) (t0 := 0) rfl ra_I rfl (by decide) (by decide) (by decide) (Nat.le_of_ble_eq_true rfl) (Nat.le_of_ble_eq_true rfl) (by decide) (Nat.le_of_ble_eq_true rfl) (by decide +kernel) rfl rfl (by decide +kernel) dM_116 dM_118 (fun q16 H locs hP hD hS => ?_)
  have hP : va_P D vwCl [(h0, .inr (3, [.int 0, .int 0, .ref q2, .ref q3, .ref q4, .ref q5, .ref q6, .ref q7, .ref q8, .ref q9, .int 0, .int 10000, .ref q12, .int 0, .int 0, .int 0, .ref q16, .int 0, .null, .null, .int 0, .int 0, .null, .null, .null])), (q2, .inl (cI, 24, .inl (fun _ => 0))), (q3, .inl (cI, 24, .inl (fun _ => 0))), (q4, .inl (cI, 24, .inl (fun _ => 0))), (q5, .inl (cI, 24, .inl (fun _ => 0))), (q6, .inl (cI, 24, .inl (fun _ => 0))), (q7, .inl (cI, 24, .inl (fun _ => 0))), (q8, .inl (cI, 24, .inl (fun _ => 0))), (q9, .inl (cZ, 24, .inl (fun _ => 0))), (q12, .inl (cI, 60, .inl (fun _ => 0))), (q16, .inl (cI, 24, .inl (fun _ => 0)))] H := hP
  have hD : va_D A [(h0, .inr (3, [.int 0, .int 0, .ref q2, .ref q3, .ref q4, .ref q5, .ref q6, .ref q7, .ref q8, .ref q9, .int 0, .int 10000, .ref q12, .int 0, .int 0, .int 0, .ref q16, .int 0, .null, .null, .int 0, .int 0, .null, .null, .null])), (q2, .inl (cI, 24, .inl (fun _ => 0))), (q3, .inl (cI, 24, .inl (fun _ => 0))), (q4, .inl (cI, 24, .inl (fun _ => 0))), (q5, .inl (cI, 24, .inl (fun _ => 0))), (q6, .inl (cI, 24, .inl (fun _ => 0))), (q7, .inl (cI, 24, .inl (fun _ => 0))), (q8, .inl (cI, 24, .inl (fun _ => 0))), (q9, .inl (cZ, 24, .inl (fun _ => 0))), (q12, .inl (cI, 60, .inl (fun _ => 0))), (q16, .inl (cI, 24, .inl (fun _ => 0)))] := hD
  refine lv_aload_n hx hb dM_121 rfl (lv_at hl 0 rfl) ?_
  refine lv_iconst (v := 0) hx hb dM_122 (by decide) ?_
  refine nx_int (ci := 3) (k := 17) (idx := 64) (ty := .int) (v := 0) (C := "ExplainDifferenceModel") (F := mj_F3) hx hb hts rfl (by decide +kernel) hown hK hP hD hS (by decide) (Nat.le_of_ble_eq_true rfl) (by decide +kernel) rfl rfl (by decide +kernel) rfl rfl dM_123 (fun H locs hP hD hS => ?_)
  have hP : va_P D vwCl [(h0, .inr (3, [.int 0, .int 0, .ref q2, .ref q3, .ref q4, .ref q5, .ref q6, .ref q7, .ref q8, .ref q9, .int 0, .int 10000, .ref q12, .int 0, .int 0, .int 0, .ref q16, .int 0, .null, .null, .int 0, .int 0, .null, .null, .null])), (q2, .inl (cI, 24, .inl (fun _ => 0))), (q3, .inl (cI, 24, .inl (fun _ => 0))), (q4, .inl (cI, 24, .inl (fun _ => 0))), (q5, .inl (cI, 24, .inl (fun _ => 0))), (q6, .inl (cI, 24, .inl (fun _ => 0))), (q7, .inl (cI, 24, .inl (fun _ => 0))), (q8, .inl (cI, 24, .inl (fun _ => 0))), (q9, .inl (cZ, 24, .inl (fun _ => 0))), (q12, .inl (cI, 60, .inl (fun _ => 0))), (q16, .inl (cI, 24, .inl (fun _ => 0)))] H := hP
  have hD : va_D A [(h0, .inr (3, [.int 0, .int 0, .ref q2, .ref q3, .ref q4, .ref q5, .ref q6, .ref q7, .ref q8, .ref q9, .int 0, .int 10000, .ref q12, .int 0, .int 0, .int 0, .ref q16, .int 0, .null, .null, .int 0, .int 0, .null, .null, .null])), (q2, .inl (cI, 24, .inl (fun _ => 0))), (q3, .inl (cI, 24, .inl (fun _ => 0))), (q4, .inl (cI, 24, .inl (fun _ => 0))), (q5, .inl (cI, 24, .inl (fun _ => 0))), (q6, .inl (cI, 24, .inl (fun _ => 0))), (q7, .inl (cI, 24, .inl (fun _ => 0))), (q8, .inl (cI, 24, .inl (fun _ => 0))), (q9, .inl (cZ, 24, .inl (fun _ => 0))), (q12, .inl (cI, 60, .inl (fun _ => 0))), (q16, .inl (cI, 24, .inl (fun _ => 0)))] := hD
  refine lv_aload_n hx hb dM_126 rfl (lv_at hl 0 rfl) ?_
  refine lv_iconst (v := 4) hx hb dM_127 (by decide) ?_
  refine nx_arr (ci := 3) (k := 18) (idx := 67) (n := 4) (N' := 4) (ty := .int) (atype := .int) (C := "ExplainDifferenceModel") (F := mj_F3) hx hb hts rfl (by decide +kernel) hown hin hK hP hD hS hA rfl (mj_inO (by decide +kernel)) (t0 := 0) rfl ra_I rfl (by decide) (by decide) (by decide) (Nat.le_of_ble_eq_true rfl) (Nat.le_of_ble_eq_true rfl) (by decide) (Nat.le_of_ble_eq_true rfl) (by decide +kernel) rfl rfl (by decide +kernel) dM_128 dM_130 (fun q18 H locs hP hD hS => ?_)
  have hP : va_P D vwCl [(h0, .inr (3, [.int 0, .int 0, .ref q2, .ref q3, .ref q4, .ref q5, .ref q6, .ref q7, .ref q8, .ref q9, .int 0, .int 10000, .ref q12, .int 0, .int 0, .int 0, .ref q16, .int 0, .ref q18, .null, .int 0, .int 0, .null, .null, .null])), (q2, .inl (cI, 24, .inl (fun _ => 0))), (q3, .inl (cI, 24, .inl (fun _ => 0))), (q4, .inl (cI, 24, .inl (fun _ => 0))), (q5, .inl (cI, 24, .inl (fun _ => 0))), (q6, .inl (cI, 24, .inl (fun _ => 0))), (q7, .inl (cI, 24, .inl (fun _ => 0))), (q8, .inl (cI, 24, .inl (fun _ => 0))), (q9, .inl (cZ, 24, .inl (fun _ => 0))), (q12, .inl (cI, 60, .inl (fun _ => 0))), (q16, .inl (cI, 24, .inl (fun _ => 0))), (q18, .inl (cI, 4, .inl (fun _ => 0)))] H := hP
  have hD : va_D A [(h0, .inr (3, [.int 0, .int 0, .ref q2, .ref q3, .ref q4, .ref q5, .ref q6, .ref q7, .ref q8, .ref q9, .int 0, .int 10000, .ref q12, .int 0, .int 0, .int 0, .ref q16, .int 0, .ref q18, .null, .int 0, .int 0, .null, .null, .null])), (q2, .inl (cI, 24, .inl (fun _ => 0))), (q3, .inl (cI, 24, .inl (fun _ => 0))), (q4, .inl (cI, 24, .inl (fun _ => 0))), (q5, .inl (cI, 24, .inl (fun _ => 0))), (q6, .inl (cI, 24, .inl (fun _ => 0))), (q7, .inl (cI, 24, .inl (fun _ => 0))), (q8, .inl (cI, 24, .inl (fun _ => 0))), (q9, .inl (cZ, 24, .inl (fun _ => 0))), (q12, .inl (cI, 60, .inl (fun _ => 0))), (q16, .inl (cI, 24, .inl (fun _ => 0))), (q18, .inl (cI, 4, .inl (fun _ => 0)))] := hD
  refine lv_aload_n hx hb dM_133 rfl (lv_at hl 0 rfl) ?_
  refine lv_bipush (v := 60) hx hb dM_134 (by decide) ?_
  refine nx_arr (ci := 3) (k := 19) (idx := 70) (n := 60) (N' := 60) (ty := .int) (atype := .int) (C := "ExplainDifferenceModel") (F := mj_F3) hx hb hts rfl (by decide +kernel) hown hin hK hP hD hS hA rfl (mj_inO (by decide +kernel)) (t0 := 0) rfl ra_I rfl (by decide) (by decide) (by decide) (Nat.le_of_ble_eq_true rfl) (Nat.le_of_ble_eq_true rfl) (by decide) (Nat.le_of_ble_eq_true rfl) (by decide +kernel) rfl rfl (by decide +kernel) dM_136 dM_138 (fun q19 H locs hP hD hS => ?_)
  have hP : va_P D vwCl [(h0, .inr (3, [.int 0, .int 0, .ref q2, .ref q3, .ref q4, .ref q5, .ref q6, .ref q7, .ref q8, .ref q9, .int 0, .int 10000, .ref q12, .int 0, .int 0, .int 0, .ref q16, .int 0, .ref q18, .ref q19, .int 0, .int 0, .null, .null, .null])), (q2, .inl (cI, 24, .inl (fun _ => 0))), (q3, .inl (cI, 24, .inl (fun _ => 0))), (q4, .inl (cI, 24, .inl (fun _ => 0))), (q5, .inl (cI, 24, .inl (fun _ => 0))), (q6, .inl (cI, 24, .inl (fun _ => 0))), (q7, .inl (cI, 24, .inl (fun _ => 0))), (q8, .inl (cI, 24, .inl (fun _ => 0))), (q9, .inl (cZ, 24, .inl (fun _ => 0))), (q12, .inl (cI, 60, .inl (fun _ => 0))), (q16, .inl (cI, 24, .inl (fun _ => 0))), (q18, .inl (cI, 4, .inl (fun _ => 0))), (q19, .inl (cI, 60, .inl (fun _ => 0)))] H := hP
  have hD : va_D A [(h0, .inr (3, [.int 0, .int 0, .ref q2, .ref q3, .ref q4, .ref q5, .ref q6, .ref q7, .ref q8, .ref q9, .int 0, .int 10000, .ref q12, .int 0, .int 0, .int 0, .ref q16, .int 0, .ref q18, .ref q19, .int 0, .int 0, .null, .null, .null])), (q2, .inl (cI, 24, .inl (fun _ => 0))), (q3, .inl (cI, 24, .inl (fun _ => 0))), (q4, .inl (cI, 24, .inl (fun _ => 0))), (q5, .inl (cI, 24, .inl (fun _ => 0))), (q6, .inl (cI, 24, .inl (fun _ => 0))), (q7, .inl (cI, 24, .inl (fun _ => 0))), (q8, .inl (cI, 24, .inl (fun _ => 0))), (q9, .inl (cZ, 24, .inl (fun _ => 0))), (q12, .inl (cI, 60, .inl (fun _ => 0))), (q16, .inl (cI, 24, .inl (fun _ => 0))), (q18, .inl (cI, 4, .inl (fun _ => 0))), (q19, .inl (cI, 60, .inl (fun _ => 0)))] := hD
  refine lv_aload_n hx hb dM_141 rfl (lv_at hl 0 rfl) ?_
  refine lv_iconst (v := 0) hx hb dM_142 (by decide) ?_
  refine nx_int (ci := 3) (k := 20) (idx := 73) (ty := .int) (v := 0) (C := "ExplainDifferenceModel") (F := mj_F3) hx hb hts rfl (by decide +kernel) hown hK hP hD hS (by decide) (Nat.le_of_ble_eq_true rfl) (by decide +kernel) rfl rfl (by decide +kernel) rfl rfl dM_143 (fun H locs hP hD hS => ?_)
  have hP : va_P D vwCl [(h0, .inr (3, [.int 0, .int 0, .ref q2, .ref q3, .ref q4, .ref q5, .ref q6, .ref q7, .ref q8, .ref q9, .int 0, .int 10000, .ref q12, .int 0, .int 0, .int 0, .ref q16, .int 0, .ref q18, .ref q19, .int 0, .int 0, .null, .null, .null])), (q2, .inl (cI, 24, .inl (fun _ => 0))), (q3, .inl (cI, 24, .inl (fun _ => 0))), (q4, .inl (cI, 24, .inl (fun _ => 0))), (q5, .inl (cI, 24, .inl (fun _ => 0))), (q6, .inl (cI, 24, .inl (fun _ => 0))), (q7, .inl (cI, 24, .inl (fun _ => 0))), (q8, .inl (cI, 24, .inl (fun _ => 0))), (q9, .inl (cZ, 24, .inl (fun _ => 0))), (q12, .inl (cI, 60, .inl (fun _ => 0))), (q16, .inl (cI, 24, .inl (fun _ => 0))), (q18, .inl (cI, 4, .inl (fun _ => 0))), (q19, .inl (cI, 60, .inl (fun _ => 0)))] H := hP
  have hD : va_D A [(h0, .inr (3, [.int 0, .int 0, .ref q2, .ref q3, .ref q4, .ref q5, .ref q6, .ref q7, .ref q8, .ref q9, .int 0, .int 10000, .ref q12, .int 0, .int 0, .int 0, .ref q16, .int 0, .ref q18, .ref q19, .int 0, .int 0, .null, .null, .null])), (q2, .inl (cI, 24, .inl (fun _ => 0))), (q3, .inl (cI, 24, .inl (fun _ => 0))), (q4, .inl (cI, 24, .inl (fun _ => 0))), (q5, .inl (cI, 24, .inl (fun _ => 0))), (q6, .inl (cI, 24, .inl (fun _ => 0))), (q7, .inl (cI, 24, .inl (fun _ => 0))), (q8, .inl (cI, 24, .inl (fun _ => 0))), (q9, .inl (cZ, 24, .inl (fun _ => 0))), (q12, .inl (cI, 60, .inl (fun _ => 0))), (q16, .inl (cI, 24, .inl (fun _ => 0))), (q18, .inl (cI, 4, .inl (fun _ => 0))), (q19, .inl (cI, 60, .inl (fun _ => 0)))] := hD
  refine lv_aload_n hx hb dM_146 rfl (lv_at hl 0 rfl) ?_
  refine lv_iconst (v := 0) hx hb dM_147 (by decide) ?_
  refine nx_int (ci := 3) (k := 21) (idx := 76) (ty := .int) (v := 0) (C := "ExplainDifferenceModel") (F := mj_F3) hx hb hts rfl (by decide +kernel) hown hK hP hD hS (by decide) (Nat.le_of_ble_eq_true rfl) (by decide +kernel) rfl rfl (by decide +kernel) rfl rfl dM_148 (fun H locs hP hD hS => ?_)
  have hP : va_P D vwCl [(h0, .inr (3, [.int 0, .int 0, .ref q2, .ref q3, .ref q4, .ref q5, .ref q6, .ref q7, .ref q8, .ref q9, .int 0, .int 10000, .ref q12, .int 0, .int 0, .int 0, .ref q16, .int 0, .ref q18, .ref q19, .int 0, .int 0, .null, .null, .null])), (q2, .inl (cI, 24, .inl (fun _ => 0))), (q3, .inl (cI, 24, .inl (fun _ => 0))), (q4, .inl (cI, 24, .inl (fun _ => 0))), (q5, .inl (cI, 24, .inl (fun _ => 0))), (q6, .inl (cI, 24, .inl (fun _ => 0))), (q7, .inl (cI, 24, .inl (fun _ => 0))), (q8, .inl (cI, 24, .inl (fun _ => 0))), (q9, .inl (cZ, 24, .inl (fun _ => 0))), (q12, .inl (cI, 60, .inl (fun _ => 0))), (q16, .inl (cI, 24, .inl (fun _ => 0))), (q18, .inl (cI, 4, .inl (fun _ => 0))), (q19, .inl (cI, 60, .inl (fun _ => 0)))] H := hP
  have hD : va_D A [(h0, .inr (3, [.int 0, .int 0, .ref q2, .ref q3, .ref q4, .ref q5, .ref q6, .ref q7, .ref q8, .ref q9, .int 0, .int 10000, .ref q12, .int 0, .int 0, .int 0, .ref q16, .int 0, .ref q18, .ref q19, .int 0, .int 0, .null, .null, .null])), (q2, .inl (cI, 24, .inl (fun _ => 0))), (q3, .inl (cI, 24, .inl (fun _ => 0))), (q4, .inl (cI, 24, .inl (fun _ => 0))), (q5, .inl (cI, 24, .inl (fun _ => 0))), (q6, .inl (cI, 24, .inl (fun _ => 0))), (q7, .inl (cI, 24, .inl (fun _ => 0))), (q8, .inl (cI, 24, .inl (fun _ => 0))), (q9, .inl (cZ, 24, .inl (fun _ => 0))), (q12, .inl (cI, 60, .inl (fun _ => 0))), (q16, .inl (cI, 24, .inl (fun _ => 0))), (q18, .inl (cI, 4, .inl (fun _ => 0))), (q19, .inl (cI, 60, .inl (fun _ => 0)))] := hD
  refine lv_aload_n hx hb dM_151 rfl (lv_at hl 0 rfl) ?_
  refine lv_bipush (v := 24) hx hb dM_152 (by decide) ?_
  refine nx_arr (ci := 3) (k := 22) (idx := 79) (n := 24) (N' := 24) (ty := .int) (atype := .int) (C := "ExplainDifferenceModel") (F := mj_F3) hx hb hts rfl (by decide +kernel) hown hin hK hP hD hS hA rfl (mj_inO (by decide +kernel)) (t0 := 0) rfl ra_I rfl (by decide) (by decide) (by decide) (Nat.le_of_ble_eq_true rfl) (Nat.le_of_ble_eq_true rfl) (by decide) (Nat.le_of_ble_eq_true rfl) (by decide +kernel) rfl rfl (by decide +kernel) dM_154 dM_156 (fun q22 H locs hP hD hS => ?_)
  have hP : va_P D vwCl [(h0, .inr (3, [.int 0, .int 0, .ref q2, .ref q3, .ref q4, .ref q5, .ref q6, .ref q7, .ref q8, .ref q9, .int 0, .int 10000, .ref q12, .int 0, .int 0, .int 0, .ref q16, .int 0, .ref q18, .ref q19, .int 0, .int 0, .ref q22, .null, .null])), (q2, .inl (cI, 24, .inl (fun _ => 0))), (q3, .inl (cI, 24, .inl (fun _ => 0))), (q4, .inl (cI, 24, .inl (fun _ => 0))), (q5, .inl (cI, 24, .inl (fun _ => 0))), (q6, .inl (cI, 24, .inl (fun _ => 0))), (q7, .inl (cI, 24, .inl (fun _ => 0))), (q8, .inl (cI, 24, .inl (fun _ => 0))), (q9, .inl (cZ, 24, .inl (fun _ => 0))), (q12, .inl (cI, 60, .inl (fun _ => 0))), (q16, .inl (cI, 24, .inl (fun _ => 0))), (q18, .inl (cI, 4, .inl (fun _ => 0))), (q19, .inl (cI, 60, .inl (fun _ => 0))), (q22, .inl (cI, 24, .inl (fun _ => 0)))] H := hP
  have hD : va_D A [(h0, .inr (3, [.int 0, .int 0, .ref q2, .ref q3, .ref q4, .ref q5, .ref q6, .ref q7, .ref q8, .ref q9, .int 0, .int 10000, .ref q12, .int 0, .int 0, .int 0, .ref q16, .int 0, .ref q18, .ref q19, .int 0, .int 0, .ref q22, .null, .null])), (q2, .inl (cI, 24, .inl (fun _ => 0))), (q3, .inl (cI, 24, .inl (fun _ => 0))), (q4, .inl (cI, 24, .inl (fun _ => 0))), (q5, .inl (cI, 24, .inl (fun _ => 0))), (q6, .inl (cI, 24, .inl (fun _ => 0))), (q7, .inl (cI, 24, .inl (fun _ => 0))), (q8, .inl (cI, 24, .inl (fun _ => 0))), (q9, .inl (cZ, 24, .inl (fun _ => 0))), (q12, .inl (cI, 60, .inl (fun _ => 0))), (q16, .inl (cI, 24, .inl (fun _ => 0))), (q18, .inl (cI, 4, .inl (fun _ => 0))), (q19, .inl (cI, 60, .inl (fun _ => 0))), (q22, .inl (cI, 24, .inl (fun _ => 0)))] := hD
  refine lv_aload_n hx hb dM_159 rfl (lv_at hl 0 rfl) ?_
  refine lv_iconst (v := 5) hx hb dM_160 (by decide) ?_
  refine nx_arr (ci := 3) (k := 23) (idx := 82) (n := 5) (N' := 5) (ty := .int) (atype := .int) (C := "ExplainDifferenceModel") (F := mj_F3) hx hb hts rfl (by decide +kernel) hown hin hK hP hD hS hA rfl (mj_inO (by decide +kernel)) (t0 := 0) rfl ra_I rfl (by decide) (by decide) (by decide) (Nat.le_of_ble_eq_true rfl) (Nat.le_of_ble_eq_true rfl) (by decide) (Nat.le_of_ble_eq_true rfl) (by decide +kernel) rfl rfl (by decide +kernel) dM_161 dM_163 (fun q23 H locs hP hD hS => ?_)
  have hP : va_P D vwCl [(h0, .inr (3, [.int 0, .int 0, .ref q2, .ref q3, .ref q4, .ref q5, .ref q6, .ref q7, .ref q8, .ref q9, .int 0, .int 10000, .ref q12, .int 0, .int 0, .int 0, .ref q16, .int 0, .ref q18, .ref q19, .int 0, .int 0, .ref q22, .ref q23, .null])), (q2, .inl (cI, 24, .inl (fun _ => 0))), (q3, .inl (cI, 24, .inl (fun _ => 0))), (q4, .inl (cI, 24, .inl (fun _ => 0))), (q5, .inl (cI, 24, .inl (fun _ => 0))), (q6, .inl (cI, 24, .inl (fun _ => 0))), (q7, .inl (cI, 24, .inl (fun _ => 0))), (q8, .inl (cI, 24, .inl (fun _ => 0))), (q9, .inl (cZ, 24, .inl (fun _ => 0))), (q12, .inl (cI, 60, .inl (fun _ => 0))), (q16, .inl (cI, 24, .inl (fun _ => 0))), (q18, .inl (cI, 4, .inl (fun _ => 0))), (q19, .inl (cI, 60, .inl (fun _ => 0))), (q22, .inl (cI, 24, .inl (fun _ => 0))), (q23, .inl (cI, 5, .inl (fun _ => 0)))] H := hP
  have hD : va_D A [(h0, .inr (3, [.int 0, .int 0, .ref q2, .ref q3, .ref q4, .ref q5, .ref q6, .ref q7, .ref q8, .ref q9, .int 0, .int 10000, .ref q12, .int 0, .int 0, .int 0, .ref q16, .int 0, .ref q18, .ref q19, .int 0, .int 0, .ref q22, .ref q23, .null])), (q2, .inl (cI, 24, .inl (fun _ => 0))), (q3, .inl (cI, 24, .inl (fun _ => 0))), (q4, .inl (cI, 24, .inl (fun _ => 0))), (q5, .inl (cI, 24, .inl (fun _ => 0))), (q6, .inl (cI, 24, .inl (fun _ => 0))), (q7, .inl (cI, 24, .inl (fun _ => 0))), (q8, .inl (cI, 24, .inl (fun _ => 0))), (q9, .inl (cZ, 24, .inl (fun _ => 0))), (q12, .inl (cI, 60, .inl (fun _ => 0))), (q16, .inl (cI, 24, .inl (fun _ => 0))), (q18, .inl (cI, 4, .inl (fun _ => 0))), (q19, .inl (cI, 60, .inl (fun _ => 0))), (q22, .inl (cI, 24, .inl (fun _ => 0))), (q23, .inl (cI, 5, .inl (fun _ => 0)))] := hD
  refine lv_aload_n hx hb dM_166 rfl (lv_at hl 0 rfl) ?_
  refine lv_iconst (v := 5) hx hb dM_167 (by decide) ?_
  refine nx_arr (ci := 3) (k := 24) (idx := 85) (n := 5) (N' := 5) (ty := .boolean) (atype := .boolean) (C := "ExplainDifferenceModel") (F := mj_F3) hx hb hts rfl (by decide +kernel) hown hin hK hP hD hS hA rfl (mj_inO (by decide +kernel)) (t0 := 3) rfl ra_Z rfl (by decide) (by decide) (by decide) (Nat.le_of_ble_eq_true rfl) (Nat.le_of_ble_eq_true rfl) (by decide) (Nat.le_of_ble_eq_true rfl) (by decide +kernel) rfl rfl (by decide +kernel) dM_168 dM_170 (fun q24 H locs hP hD hS => ?_)
  have hP : va_P D vwCl [(h0, .inr (3, [.int 0, .int 0, .ref q2, .ref q3, .ref q4, .ref q5, .ref q6, .ref q7, .ref q8, .ref q9, .int 0, .int 10000, .ref q12, .int 0, .int 0, .int 0, .ref q16, .int 0, .ref q18, .ref q19, .int 0, .int 0, .ref q22, .ref q23, .ref q24])), (q2, .inl (cI, 24, .inl (fun _ => 0))), (q3, .inl (cI, 24, .inl (fun _ => 0))), (q4, .inl (cI, 24, .inl (fun _ => 0))), (q5, .inl (cI, 24, .inl (fun _ => 0))), (q6, .inl (cI, 24, .inl (fun _ => 0))), (q7, .inl (cI, 24, .inl (fun _ => 0))), (q8, .inl (cI, 24, .inl (fun _ => 0))), (q9, .inl (cZ, 24, .inl (fun _ => 0))), (q12, .inl (cI, 60, .inl (fun _ => 0))), (q16, .inl (cI, 24, .inl (fun _ => 0))), (q18, .inl (cI, 4, .inl (fun _ => 0))), (q19, .inl (cI, 60, .inl (fun _ => 0))), (q22, .inl (cI, 24, .inl (fun _ => 0))), (q23, .inl (cI, 5, .inl (fun _ => 0))), (q24, .inl (cZ, 5, .inl (fun _ => 0)))] H := hP
  have hD : va_D A [(h0, .inr (3, [.int 0, .int 0, .ref q2, .ref q3, .ref q4, .ref q5, .ref q6, .ref q7, .ref q8, .ref q9, .int 0, .int 10000, .ref q12, .int 0, .int 0, .int 0, .ref q16, .int 0, .ref q18, .ref q19, .int 0, .int 0, .ref q22, .ref q23, .ref q24])), (q2, .inl (cI, 24, .inl (fun _ => 0))), (q3, .inl (cI, 24, .inl (fun _ => 0))), (q4, .inl (cI, 24, .inl (fun _ => 0))), (q5, .inl (cI, 24, .inl (fun _ => 0))), (q6, .inl (cI, 24, .inl (fun _ => 0))), (q7, .inl (cI, 24, .inl (fun _ => 0))), (q8, .inl (cI, 24, .inl (fun _ => 0))), (q9, .inl (cZ, 24, .inl (fun _ => 0))), (q12, .inl (cI, 60, .inl (fun _ => 0))), (q16, .inl (cI, 24, .inl (fun _ => 0))), (q18, .inl (cI, 4, .inl (fun _ => 0))), (q19, .inl (cI, 60, .inl (fun _ => 0))), (q22, .inl (cI, 24, .inl (fun _ => 0))), (q23, .inl (cI, 5, .inl (fun _ => 0))), (q24, .inl (cZ, 5, .inl (fun _ => 0)))] := hD
  refine lv_iconst (v := 0) hx hb dM_173 (by decide) ?_
  refine lv_istore_n hx hb dM_174 rfl hl (by decide) rfl (fun ls hl => ?_)
  refine ml_loop hx hb hts hown hK (fun f9 H locs ls hf hP hD hS => ?_) 60 0 (fun _ => 0) H locs ls rfl (fun j hj => absurd hj (Nat.not_lt_zero _)) hP hD hS hl
  have hD9 : va_D A (wm_ cI cZ h0 q2 q3 q4 q5 q6 q7 q8 q9 q12 q16 q18 q19 q22 q23 q24 (fun _ => -1)) := hD.set (p := 9) (e := .inl (cI, 60, .inl (fun _ => -1))) rfl
  have hP9 : va_P D vwCl (wm_ cI cZ h0 q2 q3 q4 q5 q6 q7 q8 q9 q12 q16 q18 q19 q22 q23 q24 (fun _ => -1)) H := by
    intro k q hk
    by_cases h9 : k = 9
    · subst h9
      cases hk
      have h9 := hP 9 _ rfl
      show H[q12]? = some (vp_cell cI (60, .inl (fun _ => -1)))
      rw [← mk_cell (c := cI) hf]
      exact h9
    · refine hP k q ?_
      rw [← hk, show wm_ cI cZ h0 q2 q3 q4 q5 q6 q7 q8 q9 q12 q16 q18 q19 q22 q23 q24 (fun _ => -1) = (wm_ cI cZ h0 q2 q3 q4 q5 q6 q7 q8 q9 q12 q16 q18 q19 q22 q23 q24 f9).set 9 (q12, .inl (cI, 60, .inl (fun _ => -1))) from rfl, List.getElem?_set_ne (Ne.symm h9)]
  exact W.vret hx hb hr (fun t ht hW => ⟨⟨(), rfl, trivial, q2, q3, q4, q5, q6, q7, q8, q9, q12, q16, q18, q19, q22, q23, q24, by rw [ht]; exact hP9, va_K.moved hW.alike hK, hD9⟩, hS.F ht⟩) hS.2.2 dM_194
