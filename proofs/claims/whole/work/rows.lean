section
/-- the class of the arrays of arrays of t stands in the tables -/
def va_AOA (t : FieldType) (U : State) : Prop := (Cond.arrayOver (.array t)).before #[] U = true
theorem va_AOA.use {t : FieldType} {A : Array Value} {U : State} (h : va_AOA t U) : (Cond.arrayOver (.array t)).before A U = true := h
theorem va_AOA.of {t : FieldType} {A : Array Value} {U : State} (h : (Cond.arrayOver (.array t)).before A U = true) : va_AOA t U := h
/-! ===== BEGIN words of one list among another's, by their places ===== -/
theorem goodIn_r {big : List Cond} (ws : List Cond) (ps : List Nat) (hp : ws = ps.filterMap (fun i => big[i]?)) (h : ws.all goodWord = true) : GoodIn big ws := by
  intro w hw
  have h1 := List.all_eq_true.mp h w hw
  rw [hp] at hw
  obtain ⟨i, -, hi⟩ := List.mem_filterMap.mp hw
  have hm : w ∈ big := by first | exact List.mem_of_getElem? hi | exact List.getElem?_mem hi
  exact ⟨hm, good_of_word h1⟩
theorem goodIn_app {big a b : List Cond} (ha : GoodIn big a) (hb : GoodIn big b) : GoodIn big (a ++ b) := fun w h => (List.mem_append.mp h).elim (ha w) (hb w)
theorem goodIn_ca {big a b : List Cond} {c : Cond} (ha : GoodIn big (c :: a)) (hb : GoodIn big b) : GoodIn big (c :: (a ++ b)) := fun w h => (List.mem_cons.mp h).elim (fun e => ha w (List.mem_cons.mpr (Or.inl e))) (fun h => (List.mem_append.mp h).elim (fun h => ha w (List.mem_cons.mpr (Or.inr h))) (hb w))
theorem goodIn_sub {big ws : List Cond} (hm : ∀ w ∈ ws, w ∈ big) (h : ws.all goodWord = true) : GoodIn big ws := fun w hw => ⟨hm w hw, good_of_word (List.all_eq_true.mp h w hw)⟩
/-! ===== END ===== -/

/-! ===== BEGIN new T[n][m]: the outer array a place, the inner ones among the pooled ===== -/
/-- f, but v at every address of l -/
def vr_up {α : Type} (f : Nat → α) (l : List Nat) (v : α) : Nat → α := fun a => if a ∈ l then v else f a
theorem vr_up_in {α : Type} {f : Nat → α} {l : List Nat} {v : α} {a : Nat} (h : a ∈ l) : vr_up f l v a = v := if_pos h
theorem vr_up_ne {α : Type} {f : Nat → α} {l : List Nat} {v : α} {a : Nat} (h : a ∉ l) : vr_up f l v a = f a := if_neg h
theorem vr_rows {L l : List Nat} {f : Nat → va_E} {e : va_E} (h : ∀ a, a ∈ l → a ∉ L) : va_pl L f ++ l.map (fun a => (a, e)) = va_pl (L ++ l) (vr_up f l e) := by
  unfold va_pl
  rw [List.map_append]
  congr 1
  · apply List.map_congr_left
    intro a ha
    rw [vr_up_ne (fun q => h a q ha)]
  · apply List.map_congr_left
    intro a ha
    rw [vr_up_in ha]
theorem vr_lay {X rows : va_W} {x : Nat × va_E} {pl : va_W} {D : va_G} {cl : List vw_C} {H : Heap} (hP : va_P D cl (((X ++ pl) ++ [x]) ++ rows) H) : va_P D cl ((X ++ [x]) ++ (pl ++ rows)) H := by
  rw [List.append_assoc (X ++ pl)] at hP
  have h := va_P.swap hP
  rw [← List.append_assoc X] at h
  have h2 := va_P.swap h
  rw [List.append_assoc (X ++ [x])] at h2
  exact h2
theorem vr_layD {X rows : va_W} {x : Nat × va_E} {pl : va_W} {A : Nat → Prop} (hD : va_D A (((X ++ pl) ++ [x]) ++ rows)) : va_D A ((X ++ [x]) ++ (pl ++ rows)) := by
  rw [List.append_assoc (X ++ pl)] at hD
  have h := va_D.swap hD
  rw [← List.append_assoc X] at h
  have h2 := va_D.swap h
  rw [List.append_assoc (X ++ [x])] at h2
  exact h2
theorem vr_outer (c : ClassId) (N h0 : Nat) : ∀ i : Nat, Jvm.Free.Multi.outerC c N h0 i = arrV c N (fun j => va_rf (if j < i then some (h0 + 1 + j) else none))
  | 0 => by
    show ({ cls := c, slots := Array.replicate N .null, vm := .none } : Cell) = _
    rw [arrV_new]
    refine congrArg (arrV c N) (funext fun j => ?_)
    simp [va_rf]
  | i + 1 => by
    show (Jvm.Free.Multi.outerC c N h0 i).setSlot i (.ref (h0 + 1 + i)) = _
    rw [vr_outer c N h0 i, arrV_store]
    refine congrArg (arrV c N) (funext fun j => ?_)
    by_cases e : j = i
    · subst e
      simp [updV, va_rf]
    · by_cases h : j < i
      · simp [updV, e, h, Nat.lt_succ_of_lt h]
      · simp [updV, e, h, show ¬ j < i + 1 by omega]
section VGM
variable {p : Program} {l : Launch} {e : Env} {R : Room} {s : State} {m : MethodId} {args : Array Value} {below : List Frame} {meth : Method} {c : Code} {H : Heap} {locs : List Loc} {cells slots : Nat} {Q : State → Prop}
variable {cc : ByteArray} {pc : Nat} {ls : Array Slot} {rest : List Value} {D : va_G} {cl : List vw_C} {A : Nat → Prop} {a : Nat} {tys : List (ClassId × FieldType)} {ws : va_W} {H0 : Heap}
theorem va_mna {X : va_W} {L : List Nat} {f : Nat → va_E} {cc : ByteArray} (hexec : p.tables.exec = Jvm.exec) (hb : c.code = cc) {own : String} {index : Nat} {ty : FieldType} {cy : ClassId} (hown : s.vm.findClass own = some m.cls) (hclink : (Cond.classLink own index ("[" ++ (FieldType.array ty).toString)).before args s = true) (hover : va_AOA ty s) (harr : (Cond.arrayClass ty).before args s = true) (hcy : s.vm.findClass (FieldType.array ty).toString = some cy)
    (hK : va_K D cl tys s) (hP : va_P D cl (X ++ va_pl L f) H) (hD : va_D A (X ++ va_pl L f)) (hS : va_S A H0 H locs) (hA : ∀ q, H0.size ≤ q → A q) {n k : Int32} {N' K' : Nat} {z : vp_A} (hn : ¬ n < 0) (hk : ¬ k < 0) (hN : n.toNatClampNeg = N') (hM : k.toNatClampNeg = K')
    (hb1 : N' * 4 ≤ 536870912) (hb2 : K' * componentBytes ty ≤ 536870912) (hb3 : K' ≤ 536870912) (hdf : fits ty (defaultValue ty) = true) (hdd : (defaultValue ty).isDefault = true) (hcells : cells + (1 + N') ≤ R.cells) (hslots : slots + (N' + N' * K') ≤ R.slots) (hz : ∀ c : ClassId, Jvm.Free.Multi.innerC c K' (defaultValue ty) = vp_cell c z) (hdg : decode cc pc = .ok (.multianewarray index 2, 4))
    (kk : ∀ (q : Nat) (r : Nat → Nat) (cA : ClassId) (H1 : Heap), (∀ i j : Nat, i < N' → j < N' → r i = r j → i = j) → (∀ i : Nat, i < N' → r i ∉ L) → va_K D cl (tys ++ [(cA, .array ty)]) s →
      va_P D cl ((X ++ [(q, .inl (cA, N', .inr (.inr (.inr (.inr (fun i => if i < N' then some (r i) else none))))))]) ++ va_pl (L ++ (List.range N').map r) (vr_up f ((List.range N').map r) (.inl (cy, z)))) H1 → va_D A ((X ++ [(q, .inl (cA, N', .inr (.inr (.inr (.inr (fun i => if i < N' then some (r i) else none))))))]) ++ va_pl (L ++ (List.range N').map r) (vr_up f ((List.range N').map r) (.inl (cy, z)))) → va_S A H0 H1 locs →
      W p l e R s m args below meth c H1 locs (cells + 1 + N') (slots + N' + N' * K') Q (F0 m (pc + 4) ls (.ref q :: rest))) : W p l e R s m args below meth c H locs cells slots Q (F0 m pc ls (.int k :: .int n :: rest)) := by
  subst hN
  subst hM
  intro T hT Xs
  obtain ⟨vm₁, cA, comp, -, fA, fC, hO, -, X', step⟩ := Xs.multianewarray2F hexec hown hclink (va_AOA.use hover) harr (g := F0 m pc ls (.int k :: .int n :: rest)) rfl (by rw [hb]; exact hdg) rfl hn hk hb1 hb2 hb3 hdf hdd hcells hslots
  have ec : some cy = some comp := hcy.symm.trans fC
  cases ec
  generalize hF : Jvm.Free.Multi.fill (T.setVm vm₁) cA cy n.toNatClampNeg k.toNatClampNeg (defaultValue ty) n.toNatClampNeg = F at X' step
  have hTh : (T.setVm vm₁).heap = H := hT
  obtain ⟨f1, f2, -, -⟩ := Jvm.Free.Multi.fill_facts (T.setVm vm₁) cA cy n.toNatClampNeg k.toNatClampNeg (defaultValue ty) n.toNatClampNeg
  rw [hF, hTh] at f1 f2
  have hold : ∀ x : Nat, x < H.size → F.heap[x]? = H[x]? := fun x hx => by
    have := Jvm.Free.Multi.fill_old (T.setVm vm₁) cA cy n.toNatClampNeg k.toNatClampNeg (defaultValue ty) (a := x) (by rw [hTh]; exact hx) n.toNatClampNeg
    rw [hF, hTh] at this
    exact this
  have hrow : ∀ j : Nat, j < n.toNatClampNeg → F.heap[H.size + 1 + j]? = some (vp_cell cy z) := fun j hj => by
    have := Jvm.Free.Multi.fill_inner (T.setVm vm₁) cA cy n.toNatClampNeg k.toNatClampNeg (defaultValue ty) n.toNatClampNeg j hj
    rw [hF, hTh, hz] at this
    exact this
  have hout : Jvm.Free.Multi.outerC cA n.toNatClampNeg H.size n.toNatClampNeg = vp_cell cA (n.toNatClampNeg, .inr (.inr (.inr (.inr (fun i => if i < n.toNatClampNeg then some (H.size + 1 + i) else none))))) := by
    rw [vp_cell_q]
    exact vr_outer cA n.toNatClampNeg H.size n.toNatClampNeg
  rw [hout] at f2
  have hlt : ∀ a, a ∈ L → a < H.size := fun a ha => by
    obtain ⟨k9, hk9⟩ := va_pl_get (X := X) (f := f) ha
    exact (hP k9 _ hk9).lt
  have hnl : ∀ i : Nat, i < n.toNatClampNeg → H.size + 1 + i ∉ L := fun i _ h => by
    have := hlt _ h
    omega
  have hnm : ∀ a, a ∈ (List.range n.toNatClampNeg).map (fun i => H.size + 1 + i) → a ∉ L := fun a ha h => by
    obtain ⟨i, -, rfl⟩ := List.mem_map.mp ha
    have := hlt _ h
    omega
  have hP0 : va_P D cl (X ++ va_pl L f) F.heap := hP.kept (fun k9 x hx => hold x.1 ((hP k9 x hx).lt))
  have hP1 : va_P D cl ((X ++ va_pl L f) ++ [(H.size, .inl (cA, n.toNatClampNeg, .inr (.inr (.inr (.inr (fun i => if i < n.toNatClampNeg then some (H.size + 1 + i) else none))))))]) F.heap := hP0.app (fun k9 x hx => by
    have h0 : k9 < 1 := (List.getElem?_eq_some_iff.mp hx).1
    rw [show k9 = 0 by omega] at hx
    cases hx
    exact f2)
  have hP2 : va_P D cl (((X ++ va_pl L f) ++ [(H.size, .inl (cA, n.toNatClampNeg, .inr (.inr (.inr (.inr (fun i => if i < n.toNatClampNeg then some (H.size + 1 + i) else none))))))]) ++ ((List.range n.toNatClampNeg).map (fun i => H.size + 1 + i)).map (fun a => (a, .inl (cy, z)))) F.heap := hP1.app (fun k9 x hx => by
    obtain ⟨a, ha, rfl⟩ := List.mem_map.mp (List.mem_of_getElem? hx)
    obtain ⟨i, hi, rfl⟩ := List.mem_map.mp ha
    exact hrow i (List.mem_range.mp hi))
  have hD2 : va_D A (((X ++ va_pl L f) ++ [(H.size, .inl (cA, n.toNatClampNeg, .inr (.inr (.inr (.inr (fun i => if i < n.toNatClampNeg then some (H.size + 1 + i) else none))))))]) ++ ((List.range n.toNatClampNeg).map (fun i => H.size + 1 + i)).map (fun a => (a, .inl (cy, z)))) := by
    have hD1 := hD.push (e := .inl (cA, n.toNatClampNeg, .inr (.inr (.inr (.inr (fun i => if i < n.toNatClampNeg then some (H.size + 1 + i) else none)))))) hP rfl (hA _ hS.1)
    generalize hW1 : (X ++ va_pl L f) ++ [(H.size, .inl (cA, n.toNatClampNeg, .inr (.inr (.inr (.inr (fun i => if i < n.toNatClampNeg then some (H.size + 1 + i) else none))))))] = W1 at hD1 hP1 ⊢
    have hle : ∀ (k9 : Nat) (x : Nat × va_E), W1[k9]? = some x → x.1 ≤ H.size := fun k9 x hx => by
      rw [← hW1] at hx
      by_cases hl : k9 < (X ++ va_pl L f).length
      · rw [List.getElem?_append_left hl] at hx
        exact Nat.le_of_lt ((hP k9 x hx).lt)
      · rw [List.getElem?_append_right (by omega)] at hx
        have h0 : k9 - (X ++ va_pl L f).length < 1 := (List.getElem?_eq_some_iff.mp hx).1
        rw [show k9 - (X ++ va_pl L f).length = 0 by omega] at hx
        cases hx
        exact Nat.le_refl _
    have hr : ∀ (k9 : Nat) (x : Nat × va_E), (((List.range n.toNatClampNeg).map (fun i => H.size + 1 + i)).map (fun a => ((a, .inl (cy, z)) : Nat × va_E)))[k9]? = some x → x.1 = H.size + 1 + k9 := fun k9 x hx => by
      rw [List.getElem?_map, List.getElem?_map] at hx
      by_cases h9 : k9 < n.toNatClampNeg
      · rw [List.getElem?_range h9] at hx
        cases hx
        rfl
      · have hn0 : (List.range n.toNatClampNeg)[k9]? = none := List.getElem?_eq_none (by rw [List.length_range]; omega)
        rw [hn0] at hx
        cases hx
    refine ⟨fun i j x y hi hj hxy => ?_, fun k9 x hx => ?_⟩
    · by_cases h1 : i < W1.length <;> by_cases h2 : j < W1.length
      · rw [List.getElem?_append_left h1] at hi
        rw [List.getElem?_append_left h2] at hj
        exact hD1.1 i j x y hi hj hxy
      · rw [List.getElem?_append_left h1] at hi
        rw [List.getElem?_append_right (by omega)] at hj
        have := hle _ _ hi
        have := hr _ _ hj
        omega
      · rw [List.getElem?_append_right (by omega)] at hi
        rw [List.getElem?_append_left h2] at hj
        have := hle _ _ hj
        have := hr _ _ hi
        omega
      · rw [List.getElem?_append_right (by omega)] at hi hj
        have := hr _ _ hi
        have := hr _ _ hj
        omega
    · by_cases h1 : k9 < W1.length
      · rw [List.getElem?_append_left h1] at hx
        exact hD1.2 k9 x hx
      · rw [List.getElem?_append_right (by omega)] at hx
        have := hr _ _ hx
        exact hA _ (by have := hS.1; omega)
  have hAr : ArrOfT s cA (.array ty) := fun N9 z9 => by
    obtain ⟨-, k9, hk9, cm9, hkk9⟩ := (hO 0 0 0).1
    exact ⟨(fun q hq => by cases hq), k9, hk9, cm9, hkk9⟩
  have hK2 : va_K D cl (tys ++ [(cA, .array ty)]) s := ⟨hK.1, fun k9 x hx => by
    by_cases hl : k9 < tys.length
    · rw [List.getElem?_append_left hl] at hx
      exact hK.2 k9 x hx
    · rw [List.getElem?_append_right (by omega)] at hx
      have h0 : k9 - tys.length < 1 := (List.getElem?_eq_some_iff.mp hx).1
      rw [show k9 - tys.length = 0 by omega] at hx
      cases hx
      exact ⟨hAr, fA⟩⟩
  obtain ⟨t, a1, b1⟩ := kk H.size (fun i => H.size + 1 + i) cA F.heap (fun i j _ _ h => by have h9 : H.size + 1 + i = H.size + 1 + j := h; omega) hnl hK2 (by rw [← vr_rows hnm]; exact vr_lay hP2) (by rw [← vr_rows hnm]; exact vr_layD hD2) ⟨by rw [f1]; have := hS.1; omega, fun x h1 h2 => (hold x (Nat.lt_of_lt_of_le h1 hS.1)).trans (hS.2.1 x h1 h2), hS.2.2⟩ F rfl X'
  refine ⟨t, step t ?_, b1⟩
  have e : T.heap.size = H.size := by rw [hT]
  rw [e]
  exact a1
end VGM
/-! ===== END ===== -/

/-! ===== BEGIN exceptions that leave a method, and their catching by the caller (launches without stack traces) ===== -/
section VXA
/-! The laws vx_back, vx_callV, vx_callS, vx_callSW, vx_throw0, vx_throwS follow proofs of the library, with one case more: JvmDerived/Free/Laws.lean (Back.of_free), Shelf42/LK1.lean (callV, callS), Shelf/KitTraced.lean (throwNew0V, throwNewS). -/
/-- where a method has thrown q: the class by its name, the cell, what was written, the world -/
def vx_T (XC : String → State → State → Prop) (st : State) (q : Addr) (t : State) (mc ms : Nat) (free : Addr → Prop) : Prop :=
  ∃ (E : String) (ce : Cell) (L : List Loc), XC E st t ∧ t.heap[q]? = some ce ∧ ce.vm = .none ∧ st.vm.findClass E = some ce.cls ∧ st.WarmedH t.vm ∧ st.sameButNew ({ t with vm := st.vm } : State) L mc ms ∧ ∀ z ∈ L, free z.base
def vx_Q (Qc : Array Value → State → Outcome → State → Prop) (XC : String → State → State → Prop) (mc ms : Nat) (free : Addr → Prop) : Array Value → State → Outcome → State → Prop := fun a st o t =>
  (Qc a st o t ∧ ∃ L, FrameEnd st o t L mc ms ∧ ∀ q ∈ L, free q.base) ∨ ∃ q, o = .threw q ∧ vx_T XC st q t mc ms free
/-- a callee that returns or throws -/
def vx_Met (l : Launch) (y : MethodName) (ws : List Cond) (rm : Room) (Pc : Array Value → State → Prop) (Qc : Array Value → State → Outcome → State → Prop) (XC : String → State → State → Prop) (mc ms : Nat) (free : Addr → Prop) : Prop :=
  MetFree l y (headSpec ws rm) Pc (fun _ _ _ _ _ => True) (vx_Q Qc XC mc ms free)
def vx_Post (XC : String → State → State → Prop) (mc ms : Nat) (free : Addr → Prop) : Pt → Array Value → Addr → Pt → Prop := fun A a q B =>
  ∃ (g : JFrame) (mk : MethodId) (t : State) (L : List Loc) (E : String) (ce : Cell), B.U.heap = t.heap ∧ B.U.vm = t.vm ∧ XC E (A.U.calling g mk a) t ∧ t.heap[q]? = some ce ∧ ce.vm = .none ∧ A.U.vm.findClass E = some ce.cls ∧ B.locs = A.locs ++ L ∧ (∀ z ∈ L, free z.base) ∧ B.cells = A.cells + mc ∧ B.slots = A.slots + ms
def vx_Back (l : Launch) (R : Room) (p : Program) (e : Env) (below : List Frame) (s : State) (sargs : Array Value) (y : MethodName) (len W9 : Nat)
    (Pre : Pt → Array Value → Prop) (Post : Pt → Array Value → Option Value → Pt → Prop) (PostX : Pt → Array Value → Addr → Pt → Prop) : Prop :=
  ∀ (m : MethodId) (meth : Method) (c : Code) (A : Pt) (g : JFrame) (ig : Instr) (mk : MethodId) (a : Array Value),
    Stand p l e R s m sargs below meth c A.U A.locs A.cells A.slots → g.method = m → g.locals.size = c.maxLocals → decode c.code g.pc = .ok (ig, len) →
    2 * g.monitorRoom + (g.stack.map fun v => v.category).sum ≤ W9 → A.U.methodNamed? y = some mk → Pre A a →
    (∃ (v : Option Value) (B : Pt), Stand p l e R s m sargs below meth c B.U B.locs B.cells B.slots ∧ Post A a v B ∧
      Steps p.tables e below (doInvoke e (A.U.setTop g) [] mk a).1 (B.U.setTop { g with pc := g.pc + len, stack := v.toList ++ g.stack })) ∨
    (∃ (q : Addr) (B : Pt), Stand p l e R s m sargs below meth c B.U B.locs B.cells B.slots ∧ PostX A a q B ∧
      Steps p.tables e below (doInvoke e (A.U.setTop g) [] mk a).1 ((B.U.setTop g).pushFrame (.throwing q)))
section Payer
variable {l : Launch} {R : Room} {p : Program} {e : Env} {below : List Frame} {s : State} {sargs : Array Value} {y : MethodName} {len W9 : Nat}
theorem vx_back {ws : List Cond} {rm : Room} {Pc : Array Value → State → Prop} {Qc : Array Value → State → Outcome → State → Prop} {XC : String → State → State → Prop} {mc ms : Nat} {free : Addr → Prop} {bytes : ByteArray} {maxL : Nat} {ret : Option FieldType}
    (hM : vx_Met l y ws rm Pc Qc XC mc ms free) (hblind : FrameBlind Pc) (hrc : rm.cells = mc) (hrs : rm.slots = ms)
    (hframes : rm.frames + 1 ≤ R.frames) (hlocals : W9 + (maxL + 11) + rm.locals ≤ R.locals)
    (hws : ∀ w ∈ ws, ∀ a' U, s.WarmedH U.vm → w.before a' U = true) (hcode : Cond.code y bytes maxL ret ∈ ws) (hinit : ∀ a' U, s.WarmedH U.vm → (Cond.initialized y.cls).before a' U = true) :
    vx_Back l R p e below s sargs y len W9 (PreOf R mc ms Pc) (PostOf Qc mc ms free) (vx_Post XC mc ms free) := by
  intro m meth c A g ig mk a X hg hsize hdg hW hn hp
  have h1 : (headSpec ws rm).pre.before a A.U = true := atoms_intro fun w hw => hws w hw _ _ X.warmed
  have h2 : (Cond.code y bytes maxL ret).before a A.U = true := hws _ hcode _ _ X.warmed
  have h3 : (Cond.initialized y.cls).before a A.U = true := hinit _ _ X.warmed
  have h4 : A.cells + (headSpec ws rm).room.cells ≤ R.cells := by rw [show (headSpec ws rm).room.cells = mc from hrc]; exact hp.1
  have h5 : A.slots + (headSpec ws rm).room.slots ≤ R.slots := by rw [show (headSpec ws rm).room.slots = ms from hrs]; exact hp.2.1
  have hPc : Pc a (A.U.calling g mk a) := hblind _ _ _ _ hp.2.2
  obtain ⟨U, Ls, c0, s0⟩ := A
  dsimp only [Pt.U, Pt.locs, Pt.cells, Pt.slots] at h1 h2 h3 h4 h5 X hn hPc ⊢
  obtain ⟨methY, cY, hmY, hcY, -, hlY, -, -, -, -⟩ := Cond.code_spec hn h2
  obtain ⟨kY, hkY, -⟩ := className_of_methodNamed hn
  have hinitY : kY.init = .initialized := Cond.initialized_spec (findClass_of_methodNamed hn) hkY h3
  have h : At U g.method c below := by rw [hg]; exact X.here
  have hlocals9 : W9 + (maxL + 11) + (headSpec ws rm).room.locals ≤ R.locals := hlocals
  have happ : (headSpec ws rm).appliesLoose y e.platform (U.calling g mk a) = true :=
    Spec.appliesLoose_calling (g := g) h hdg hn hkY hinitY
      (X.room_calling (g := g) (R' := (headSpec ws rm).room) hsize hmY hcY hframes (by rw [hlY]; omega) h4 h5) h1
  obtain ⟨mid, hmid⟩ := h.above
  have hfr : (U.setTop g).frames = (.java g :: mid) ++ below := by rw [State.frames_setTop' g h.top, hmid]; rfl
  obtain ⟨o, s₂, hsteps, -, hend, hq⟩ := Steps.callFree hM p X.admits X.cas X.clock (acts := []) hfr happ hPc trivial
  have hq' : vx_Q Qc XC mc ms free a (U.calling g mk a) o s₂ := hq
  rw [State.frames_setTop' g h.top] at hend
  obtain ⟨g₀, hg0⟩ := Option.isSome_iff_exists.mp h.top
  obtain ⟨r, hr⟩ := State.topJava?_eq_some.mp hg0
  have hr' : (({ U with heap := s₂.heap, slotsUsed := s₂.slotsUsed } : State).setVm s₂.vm).frames = .java g₀ :: r := hr
  rcases hq' with ⟨hqc, L, hfe, hL⟩ | ⟨q, rfl, E, ce, L, hx, hce, hcv, hcl, hW₂, hsm, hL⟩
  · obtain ⟨⟨v, rfl⟩, hW₂, e2, q2, q3, q4, q5, q6⟩ := id hfe
    have e3 : s₂ = ({ (U.calling g mk a).setFrames s₂.frames with heap := s₂.heap, slotsUsed := s₂.slotsUsed } : State).setVm s₂.vm := by
      have : s₂ = ({ s₂ with vm := (U.calling g mk a).vm } : State).setVm s₂.vm := rfl
      rw [e2] at this
      exact this
    obtain ⟨c₂, i₂, len₂, hc₂, hd₂, hf₂⟩ := hend
    have hW' : U.WarmedH s₂.vm := hW₂
    have hcc : c₂ = c := by
      have h1 : s₂.code? g.method = U.code? g.method := by
        rw [State.code?_eq, State.code?_eq, hW'.alike.method?]
      exact Option.some.inj (hc₂.symm.trans (h1.trans h.code))
    subst hcc
    have hlen : len₂ = len := by rw [hdg] at hd₂; cases hd₂; rfl
    subst hlen
    have hs₂ : s₂ = (({ U with heap := s₂.heap, slotsUsed := s₂.slotsUsed } : State).setVm s₂.vm).setTop { g with pc := g.pc + len₂, stack := v.toList ++ g.stack } := by
      refine e3.trans ?_
      rw [hf₂, State.calling_eq h.top, State.setFrames_setFrames, State.setTop_of_frames _ hr', hr]
      rfl
    have hsame : U.sameButNew ({ U with heap := s₂.heap, slotsUsed := s₂.slotsUsed } : State) L mc ms := by
      refine ⟨?_, q2, q3, q4, q5, q6⟩
      obtain ⟨t, ht, -⟩ := State.frames_cons hr
      show ({ U with heap := s₂.heap, slotsUsed := s₂.slotsUsed } : State) = { U.setFrames U.frames with heap := s₂.heap, slotsUsed := s₂.slotsUsed }
      rw [State.setFrames_self ht]
    subst hg
    refine Or.inl ⟨v, ⟨(({ U with heap := s₂.heap, slotsUsed := s₂.slotsUsed } : State).setVm s₂.vm), Ls ++ L, c0 + mc, s0 + ms⟩,
      ⟨X.admits, X.cas, X.clock, X.frames, X.room, X.hears, X.method, X.code, (X.here.setHeapUsed s₂.heap s₂.slotsUsed).setVm hW'.alike, X.tail, State.WarmedH.trans X.warmed hW', X.limits, X.bytes, X.same.trans (hsame.setVm s.vm)⟩,
      ⟨g, mk, s₂, L, rfl, rfl, hqc, rfl, hL, rfl, rfl⟩, ?_⟩
    show Steps p.tables e below _ ((({ U with heap := s₂.heap, slotsUsed := s₂.slotsUsed } : State).setVm s₂.vm).setTop { g with pc := g.pc + len₂, stack := v.toList ++ g.stack })
    rw [← hs₂]
    exact hsteps
  · obtain ⟨e2, q2, q3, q4, q5, q6⟩ := id hsm
    have e3 : s₂ = ({ (U.calling g mk a).setFrames s₂.frames with heap := s₂.heap, slotsUsed := s₂.slotsUsed } : State).setVm s₂.vm := by
      have : s₂ = ({ s₂ with vm := (U.calling g mk a).vm } : State).setVm s₂.vm := rfl
      rw [e2] at this
      exact this
    have hf₂ : s₂.frames = .throwing q :: .java g :: U.frames.tail := hend
    have hW' : U.WarmedH s₂.vm := hW₂
    have hs₂ : s₂ = ((({ U with heap := s₂.heap, slotsUsed := s₂.slotsUsed } : State).setVm s₂.vm).setTop g).pushFrame (.throwing q) := by
      refine e3.trans ?_
      rw [hf₂, State.calling_eq h.top, State.setFrames_setFrames, State.pushFrame, State.frames_setTop _ hr', State.setTop_of_frames _ hr', State.setFrames_setFrames, hr]
      rfl
    have hsame : U.sameButNew ({ U with heap := s₂.heap, slotsUsed := s₂.slotsUsed } : State) L mc ms := by
      refine ⟨?_, q2, q3, q4, q5, q6⟩
      obtain ⟨t, ht, -⟩ := State.frames_cons hr
      show ({ U with heap := s₂.heap, slotsUsed := s₂.slotsUsed } : State) = { U.setFrames U.frames with heap := s₂.heap, slotsUsed := s₂.slotsUsed }
      rw [State.setFrames_self ht]
    subst hg
    refine Or.inr ⟨q, ⟨(({ U with heap := s₂.heap, slotsUsed := s₂.slotsUsed } : State).setVm s₂.vm), Ls ++ L, c0 + mc, s0 + ms⟩,
      ⟨X.admits, X.cas, X.clock, X.frames, X.room, X.hears, X.method, X.code, (X.here.setHeapUsed s₂.heap s₂.slotsUsed).setVm hW'.alike, X.tail, State.WarmedH.trans X.warmed hW', X.limits, X.bytes, X.same.trans (hsame.setVm s.vm)⟩,
      ⟨g, mk, s₂, L, E, ce, rfl, rfl, hx, hce, hcv, hcl, rfl, hL, rfl, rfl⟩, ?_⟩
    show Steps p.tables e below _ (((({ U with heap := s₂.heap, slotsUsed := s₂.slotsUsed } : State).setVm s₂.vm).setTop g).pushFrame (.throwing q))
    rw [← hs₂]
    exact hsteps
end Payer
section Calls
variable {p : Program} {l : Launch} {e : Env} {R : Room} {s : State} {m : MethodId} {args : Array Value} {below : List Frame} {meth : Method} {c : Code} {T : State} {locs : List Loc} {cells slots : Nat}
theorem vx_callV (X : Stand p l e R s m args below meth c T locs cells slots) (hexec : p.tables.exec = Jvm.exec) {own C : String} {index : Nat} {y : MethodName} {bytes : ByteArray} {maxL : Nat} {ret : Option FieldType}
    (hown : s.vm.findClass own = some m.cls) (hlink : (Cond.methodLink own index y).before args s = true) (hinst : (Cond.instanceMethod y).before args s = true) (hsel : (Cond.selects C y y).before args s = true)
    (hcode : (Cond.code y bytes maxL ret).before args s = true) (hy : y.cls ≠ "java/lang/invoke/MethodHandle" ∧ y.cls ≠ "java/lang/invoke/VarHandle")
    {W9 : Nat} {Pre : Pt → Array Value → Prop} {Post : Pt → Array Value → Option Value → Pt → Prop} {PostX : Pt → Array Value → Addr → Pt → Prop} (hK : vx_Back l R p e below s args y 3 W9 Pre Post PostX)
    {b : Addr} {cellB : Cell} (hcell : T.heap[b]? = some cellB) (hobj : cellB.vm.isStatics = false) (hcls : s.vm.findClass C = some cellB.cls)
    {g : JFrame} (hg : g.method = m) (hsize : g.locals.size = c.maxLocals) {argsL rest : List Value} (hlen : ∀ sig, parseMethodDescriptor y.desc = some sig → argsL.length = sig.parameters.length)
    (hstack : g.stack = argsL.reverse ++ .ref b :: rest) (hW : 2 * g.monitorRoom + (rest.map fun v => v.category).sum ≤ W9) (hdg : decode c.code g.pc = .ok (.invokevirtual index, 3))
    (hpre : ∀ vm₁, s.WarmedH vm₁ → Pre ⟨T.setVm vm₁, locs, cells, slots⟩ (Value.ref b :: argsL).toArray) :
    (∃ (v : Option Value) (vm₁ : Vm) (B : Pt), s.WarmedH vm₁ ∧ Stand p l e R s m args below meth c B.U B.locs B.cells B.slots ∧ Post ⟨T.setVm vm₁, locs, cells, slots⟩ (Value.ref b :: argsL).toArray v B ∧
      ∀ target, Steps p.tables e below (B.U.setTop { g with pc := g.pc + 3, stack := v.toList ++ rest }) target → Steps p.tables e below (T.setTop g) target) ∨
    (∃ (q : Addr) (vm₁ : Vm) (B : Pt), s.WarmedH vm₁ ∧ Stand p l e R s m args below meth c B.U B.locs B.cells B.slots ∧ PostX ⟨T.setVm vm₁, locs, cells, slots⟩ (Value.ref b :: argsL).toArray q B ∧
      Steps p.tables e below (T.setTop g) ((B.U.setTop { g with stack := rest }).pushFrame (.throwing q))) := by
  obtain ⟨mk, methM, hnamed, hmethM, hstM, habM⟩ := Cond.instanceMethod_spec hinst
  obtain ⟨methM', cM, hmethM', -, -, -, -, -, -, hsigM⟩ := Cond.code_spec hnamed hcode
  cases hmethM.symm.trans hmethM'
  obtain ⟨c2, r2, m2, q1, q2, q3, q4, kP, hkP, hkPi⟩ := Cond.selects_spec hsel
  cases hcls.symm.trans q1
  cases (State.methodFound?_of_named hnamed hy).symm.trans q2
  cases hnamed.symm.trans q3
  have hselP : selectMethod e.platform s.vm cellB.cls mk = .method mk := by rw [Launch.admits_selectMethod X.admits]; exact q4
  obtain ⟨vm₁, X₁, hstep₁⟩ := X.invokevirtual hexec hown hlink hnamed hmethM hstM hkP hkPi hy (a := b) (cell := cellB) hcell
    (fun z h => by rw [h] at hobj; cases hobj) hselP hmethM habM hkP hkPi (g := g) hg (argsL := argsL) (rest := rest) (hlen _ hsigM) hstack hdg
  rcases hK m meth c ⟨T.setVm vm₁, locs, cells, slots⟩ { g with stack := rest } (.invokevirtual index) mk (Value.ref b :: argsL).toArray X₁ hg hsize hdg hW (X₁.named hnamed) (hpre vm₁ X₁.warmed) with ⟨v, B, X', hpost, hsteps⟩ | ⟨q, B, X', hpost, hsteps⟩
  · exact Or.inl ⟨v, vm₁, B, X₁.warmed, X', hpost, fun target h => hstep₁ _ fun acts => by rw [doInvoke_state]; exact hsteps.trans h⟩
  · exact Or.inr ⟨q, vm₁, B, X₁.warmed, X', hpost, hstep₁ _ fun acts => by rw [doInvoke_state]; exact hsteps⟩
theorem vx_callS (X : Stand p l e R s m args below meth c T locs cells slots) (hexec : p.tables.exec = Jvm.exec) {own : String} {index : Nat} {y : MethodName} {bytes : ByteArray} {maxL : Nat} {ret : Option FieldType}
    (hown : s.vm.findClass own = some m.cls) (hlink : (Cond.methodLink own index y).before args s = true) (hstat : (Cond.static y).before args s = true) (hinit : (Cond.initialized y.cls).before args s = true)
    (hcode : (Cond.code y bytes maxL ret).before args s = true) (hy : y.cls ≠ "java/lang/invoke/MethodHandle" ∧ y.cls ≠ "java/lang/invoke/VarHandle")
    {W9 : Nat} {Pre : Pt → Array Value → Prop} {Post : Pt → Array Value → Option Value → Pt → Prop} {PostX : Pt → Array Value → Addr → Pt → Prop} (hK : vx_Back l R p e below s args y 3 W9 Pre Post PostX)
    {g : JFrame} (hg : g.method = m) (hsize : g.locals.size = c.maxLocals) {argsL rest : List Value} (hlen : ∀ sig, parseMethodDescriptor y.desc = some sig → argsL.length = sig.parameters.length)
    (hstack : g.stack = argsL.reverse ++ rest) (hW : 2 * g.monitorRoom + (rest.map fun v => v.category).sum ≤ W9) (hdg : decode c.code g.pc = .ok (.invokestatic index, 3))
    (hpre : ∀ vm₁, s.WarmedH vm₁ → Pre ⟨T.setVm vm₁, locs, cells, slots⟩ argsL.toArray) :
    (∃ (v : Option Value) (vm₁ : Vm) (B : Pt), s.WarmedH vm₁ ∧ Stand p l e R s m args below meth c B.U B.locs B.cells B.slots ∧ Post ⟨T.setVm vm₁, locs, cells, slots⟩ argsL.toArray v B ∧
      ∀ target, Steps p.tables e below (B.U.setTop { g with pc := g.pc + 3, stack := v.toList ++ rest }) target → Steps p.tables e below (T.setTop g) target) ∨
    (∃ (q : Addr) (vm₁ : Vm) (B : Pt), s.WarmedH vm₁ ∧ Stand p l e R s m args below meth c B.U B.locs B.cells B.slots ∧ PostX ⟨T.setVm vm₁, locs, cells, slots⟩ argsL.toArray q B ∧
      Steps p.tables e below (T.setTop g) ((B.U.setTop { g with stack := rest }).pushFrame (.throwing q))) := by
  obtain ⟨mk, hnamed⟩ := Cond.code_named hcode
  obtain ⟨methM, cM, hmethM, -, -, -, -, -, -, hsigM⟩ := Cond.code_spec hnamed hcode
  have hstatic : methM.isStatic = true := Cond.static_spec hnamed hmethM hstat
  obtain ⟨kP, hkP, -⟩ := className_of_methodNamed hnamed
  have hinitP : kP.init = .initialized := Cond.initialized_spec (findClass_of_methodNamed hnamed) hkP hinit
  obtain ⟨vm₁, X₁, hstep₁⟩ := X.invokestatic hexec hown hlink hnamed hmethM hstatic hkP hinitP hy (g := g) hg (argsL := argsL) (rest := rest) (hlen _ hsigM) hstack hdg
  rcases hK m meth c ⟨T.setVm vm₁, locs, cells, slots⟩ { g with stack := rest } (.invokestatic index) mk argsL.toArray X₁ hg hsize hdg hW (X₁.named hnamed) (hpre vm₁ X₁.warmed) with ⟨v, B, X', hpost, hsteps⟩ | ⟨q, B, X', hpost, hsteps⟩
  · exact Or.inl ⟨v, vm₁, B, X₁.warmed, X', hpost, fun target h => hstep₁ _ fun acts => by rw [doInvoke_state]; exact hsteps.trans h⟩
  · exact Or.inr ⟨q, vm₁, B, X₁.warmed, X', hpost, hstep₁ _ fun acts => by rw [doInvoke_state]; exact hsteps⟩
end Calls
theorem vx_cls {s : State} {T : State} {vm₁ : Vm} {E : String} {k : ClassId} (hW : s.WarmedH vm₁) (h : (T.setVm vm₁).vm.findClass E = some k) : s.vm.findClass E = some k := by
  have h1 : vm₁.findClass E = some k := h
  rw [hW.alike.findClass] at h1
  exact h1
/-- the method's frame g, with q thrown over it -/
def vx_W (p : Program) (l : Launch) (e : Env) (R : Room) (s : State) (m : MethodId) (args : Array Value) (below : List Frame) (meth : Method) (c : Code) (H : Heap) (locs : List Loc) (cells slots : Nat) (Q : State → Prop) (g : JFrame) (q : Addr) : Prop :=
  ∀ T : State, T.heap = H → Stand p l e R s m args below meth c T locs cells slots → ∃ t, Steps p.tables e below ((T.setTop g).pushFrame (.throwing q)) t ∧ Q t
def vx_Run (p : Program) (l : Launch) (e : Env) (R : Room) (s : State) (m : MethodId) (args : Array Value) (below : List Frame) (meth : Method) (c : Code) (H : Heap) (locs : List Loc) (cells slots mc ms : Nat) (g : JFrame) (rest : List Value) (Qa : State → Outcome → State → Prop) (XC : String → State → State → Prop) (free : Addr → Prop) : Prop :=
  ∀ T : State, T.heap = H → Stand p l e R s m args below meth c T locs cells slots →
    (∃ (v : Option Value) (st₀ t T' : State) (L : List Loc), st₀.heap = H ∧ Stand p l e R s m args below meth c T' (locs ++ L) (cells + mc) (slots + ms) ∧ (∀ q ∈ L, free q.base) ∧ T'.heap = t.heap ∧ T'.vm = t.vm ∧ Qa st₀ (.returned v) t ∧
      Goes p e below T g T' { g with pc := g.pc + 3, stack := v.toList ++ rest }) ∨
    (∃ (q : Addr) (st₀ t T' : State) (L : List Loc) (E : String) (ce : Cell), st₀.heap = H ∧ Stand p l e R s m args below meth c T' (locs ++ L) (cells + mc) (slots + ms) ∧ (∀ z ∈ L, free z.base) ∧ T'.heap = t.heap ∧ T'.vm = t.vm ∧ XC E st₀ t ∧ t.heap[q]? = some ce ∧ ce.vm = .none ∧ s.vm.findClass E = some ce.cls ∧
      Steps p.tables e below (T.setTop g) ((T'.setTop { g with stack := rest }).pushFrame (.throwing q)))
def vx_X {S : Type} (px : S → Prop) (B : String → S → State → Prop) (A : Nat → Prop) : String → State → State → Prop := fun E st t => ∃ u : S, px u ∧ B E u t ∧ va_F A st t
section Runs
variable {p : Program} {l : Launch} {e : Env} {R : Room} {s : State} {m : MethodId} {args : Array Value} {below : List Frame} {meth : Method} {c : Code} {H : Heap} {locs : List Loc} {cells slots : Nat}
variable {y : MethodName} {bytes cc : ByteArray} {maxL nL mc ms n index : Nat} {ret : Option FieldType} {ws : List Cond} {rm : Room} {Pc : Array Value → State → Prop} {Qc : Array Value → State → Outcome → State → Prop} {XC : String → State → State → Prop} {free : Addr → Prop} {Ts : List Cond} {own C : String} {b : Addr} {As rest : List Value} {g : JFrame}
theorem vx_callBack (cb : CallB R s args own index y bytes maxL ret ws rm mc ms n) (hM : vx_Met l y ws rm Pc Qc XC mc ms free) (hbl : FrameBlind Pc) : vx_Back l R p e below s args y 3 8 (PreOf R mc ms Pc) (PostOf Qc mc ms free) (vx_Post XC mc ms free) := by
  obtain ⟨hrc, hrs, hfr, hlo, hws, hcw, -, hini, -⟩ := cb
  exact vx_back (bytes := bytes) (maxL := maxL) (ret := ret) hM hbl hrc hrs hfr hlo hws hcw (fun a' U hW => word_at hW (Or.inl (by first | rfl | simp [Cond.onTables, Cond.keeps, Cond.steady])) hini)
theorem vx_runV (S : CallFix p m c cc nL s args Ts own) (hM : vx_Met l y ws rm Pc Qc XC mc ms free) (cw : CallW R s args own C index y bytes maxL ret ws rm mc ms n) (hp : PreV s H C b Pc As)
    (hg : g.method = m) (hn : As.length = n) (hsize : g.locals.size = nL) (hstack : g.stack = As.reverse ++ .ref b :: rest) (hW : 2 * g.monitorRoom + (rest.map fun v => v.category).sum ≤ 8) (hdg : decode cc g.pc = .ok (.invokevirtual index, 3)) (hf : cells + mc ≤ R.cells ∧ slots + ms ≤ R.slots) :
    vx_Run p l e R s m args below meth c H locs cells slots mc ms g rest (Qc (Value.ref b :: As).toArray) XC free := by
  have hK : vx_Back l R p e below s args y 3 8 (PreOf R mc ms Pc) (PostOf Qc mc ms free) (vx_Post XC mc ms free) := vx_callBack cw.1 hM hp.1
  obtain ⟨⟨-, -, -, -, -, -, hcode, -, hy, hlen, hl⟩, hin, hse⟩ := cw
  obtain ⟨hx, hb, hml, ho, -⟩ := S
  obtain ⟨-, ⟨cellB, hcB, hoB, hclB⟩, hPc⟩ := hp
  intro T hT X
  rcases vx_callV X hx (C := C) (bytes := bytes) (maxL := maxL) (ret := ret) ho hl hin hse hcode hy hK (by rw [hT]; exact hcB) hoB hclB hg (hsize.trans hml.symm) (argsL := As) (rest := rest) (fun sig h => hn.trans (hlen sig h)) hstack hW (by rw [hb]; exact hdg)
    (fun vm₁ hW₁ => ⟨hf.1, hf.2, hPc (T.setVm vm₁) hT hW₁⟩) with ⟨v, vm₁, ⟨U', l2, c2, s2⟩, hW₁, X', ⟨g', mk, t, L, e1, e2, hq, h1, hL, h2, h3⟩, st⟩ | ⟨q, vm₁, ⟨U', l2, c2, s2⟩, hW₁, X', ⟨g', mk, t, L, E, ce, e1, e2, hq, hce, hcv, hcl, h1, hL, h2, h3⟩, st⟩
  · dsimp only [Pt.U, Pt.locs, Pt.cells, Pt.slots] at X' e1 e2 h1 h2 h3 st
    subst h1; subst h2; subst h3
    exact Or.inl ⟨v, (T.setVm vm₁).calling g' mk (Value.ref b :: As).toArray, t, U', L, hT, X', hL, e1, e2, hq, st⟩
  · dsimp only [Pt.U, Pt.locs, Pt.cells, Pt.slots] at X' e1 e2 h1 h2 h3 st hcl
    subst h1; subst h2; subst h3
    exact Or.inr ⟨q, (T.setVm vm₁).calling g' mk (Value.ref b :: As).toArray, t, U', L, E, ce, hT, X', hL, e1, e2, hq, hce, hcv, vx_cls hW₁ hcl, st⟩
theorem vx_runS (S : CallFix p m c cc nL s args Ts own) (hM : vx_Met l y ws rm Pc Qc XC mc ms free) (cw : CallB R s args own index y bytes maxL ret ws rm mc ms n ∧ (Cond.static y).before args s = true) (hp : PreS s H Pc As)
    (hg : g.method = m) (hn : As.length = n) (hsize : g.locals.size = nL) (hstack : g.stack = As.reverse ++ rest) (hW : 2 * g.monitorRoom + (rest.map fun v => v.category).sum ≤ 8) (hdg : decode cc g.pc = .ok (.invokestatic index, 3)) (hf : cells + mc ≤ R.cells ∧ slots + ms ≤ R.slots) :
    vx_Run p l e R s m args below meth c H locs cells slots mc ms g rest (Qc As.toArray) XC free := by
  have hK : vx_Back l R p e below s args y 3 8 (PreOf R mc ms Pc) (PostOf Qc mc ms free) (vx_Post XC mc ms free) := vx_callBack cw.1 hM hp.1
  obtain ⟨⟨-, -, -, -, -, -, hcode, hini, hy, hlen, hl⟩, hstt⟩ := cw
  obtain ⟨hx, hb, hml, ho, -⟩ := S
  intro T hT X
  rcases vx_callS X hx (bytes := bytes) (maxL := maxL) (ret := ret) ho hl hstt hini hcode hy hK hg (hsize.trans hml.symm) (argsL := As) (rest := rest) (fun sig h => hn.trans (hlen sig h)) hstack hW (by rw [hb]; exact hdg)
    (fun vm₁ hW₁ => ⟨hf.1, hf.2, hp.2 (T.setVm vm₁) hT hW₁⟩) with ⟨v, vm₁, ⟨U', l2, c2, s2⟩, hW₁, X', ⟨g', mk, t, L, e1, e2, hq, h1, hL, h2, h3⟩, st⟩ | ⟨q, vm₁, ⟨U', l2, c2, s2⟩, hW₁, X', ⟨g', mk, t, L, E, ce, e1, e2, hq, hce, hcv, hcl, h1, hL, h2, h3⟩, st⟩
  · dsimp only [Pt.U, Pt.locs, Pt.cells, Pt.slots] at X' e1 e2 h1 h2 h3 st
    subst h1; subst h2; subst h3
    exact Or.inl ⟨v, (T.setVm vm₁).calling g' mk As.toArray, t, U', L, hT, X', hL, e1, e2, hq, st⟩
  · dsimp only [Pt.U, Pt.locs, Pt.cells, Pt.slots] at X' e1 e2 h1 h2 h3 st hcl
    subst h1; subst h2; subst h3
    exact Or.inr ⟨q, (T.setVm vm₁).calling g' mk As.toArray, t, U', L, E, ce, hT, X', hL, e1, e2, hq, hce, hcv, vx_cls hW₁ hcl, st⟩
end Runs
section Rows
variable {p : Program} {l : Launch} {e : Env} {R : Room} {s : State} {m : MethodId} {args : Array Value} {below : List Frame} {meth : Method} {c : Code} {H : Heap} {locs : List Loc} {cells slots : Nat} {Q : State → Prop}
variable {mc ms : Nat} {free : Addr → Prop} {A0 A1 : Nat → Prop} {H0 : Heap} {a : Array Value} {pc : Nat} {ls : Array Slot} {st0 rest : List Value}
theorem vx_keep {st₀ t T' : State} {L : List Loc} (h0 : st₀.heap = H) (e1 : T'.heap = t.heap) (hS : va_S A0 H0 H locs) (hA : ∀ q, q < H.size → A1 q → A0 q) (hf : ∀ q, free q → A0 q) (hL : ∀ q ∈ L, free q.base) (hF : va_F A1 st₀ t) :
    H.size ≤ T'.heap.size ∧ (∀ q : Nat, q < H.size → ¬ A1 q → T'.heap[q]? = H[q]?) ∧ va_S A0 H0 T'.heap (locs ++ L) := by
  obtain ⟨hz, hk⟩ := hF
  rw [h0] at hz hk
  exact ⟨by rw [e1]; exact hz, fun q h1 h2 => by rw [e1]; exact hk q h1 h2,
    ⟨Nat.le_trans hS.1 (by rw [e1]; exact hz), fun q h1 h2 => by rw [e1, hk q (Nat.lt_of_lt_of_le h1 hS.1) (fun z => h2 (hA q (Nat.lt_of_lt_of_le h1 hS.1) z))]; exact hS.2.1 q h1 h2, fun q hq => by
      rcases List.mem_append.mp hq with h | h
      · exact hS.2.2 q h
      · exact hf _ (hL q h)⟩⟩
theorem vx_calli {S SX : Type} {post : Int32 → S → Prop} {px : SX → Prop} {B : S → State → Prop} {BX : String → SX → State → Prop} {AX : Nat → Prop} (hr : vx_Run p l e R s m args below meth c H locs cells slots mc ms (F0 m pc ls st0) rest (va_Qi post B A1 a) (vx_X px BX AX) free) (hS : va_S A0 H0 H locs) (hA : ∀ q, q < H.size → A1 q → A0 q) (hf : ∀ q, free q → A0 q) (hAX : ∀ q, q < H.size → AX q → A0 q)
    (kx : ∀ (E : String) (ce : Cell) (q9 : Addr) (u : SX) (t : State) (H1 : Heap) (locs1 : List Loc), t.heap = H1 → s.vm.Alike t.vm → px u → BX E u t → H.size ≤ H1.size → (∀ q : Nat, q < H.size → ¬ AX q → H1[q]? = H[q]?) → va_S A0 H0 H1 locs1 → H1[q9]? = some ce → ce.vm = .none → s.vm.findClass E = some ce.cls → vx_W p l e R s m args below meth c H1 locs1 (cells + mc) (slots + ms) Q (F0 m pc ls rest) q9)
    (kk : ∀ (r : Int32) (u : S) (t : State) (H1 : Heap) (locs1 : List Loc), t.heap = H1 → s.vm.Alike t.vm → post r u → B u t → H.size ≤ H1.size → (∀ q : Nat, q < H.size → ¬ A1 q → H1[q]? = H[q]?) → va_S A0 H0 H1 locs1 → W p l e R s m args below meth c H1 locs1 (cells + mc) (slots + ms) Q (F0 m (pc + 3) ls (.int r :: rest))) : W p l e R s m args below meth c H locs cells slots Q (F0 m pc ls st0) := by
  intro T hT X
  rcases hr T hT X with ⟨v, st₀, t, T', L, h0, X', hL, e1, e2, ⟨⟨r, u, hv, hp, hb⟩, hF⟩, st⟩ | ⟨q, st₀, t, T', L, E, ce, h0, X', hL, e1, e2, ⟨u, hp, hb, hF⟩, hce, hcv, hcl, st⟩
  · cases hv
    obtain ⟨k1, k2, k3⟩ := vx_keep h0 e1 hS hA hf hL hF
    obtain ⟨t2, a1, b1⟩ := kk r u t T'.heap (locs ++ L) e1.symm (by rw [← e2]; exact X'.warmed.alike) hp hb k1 k2 k3 T' rfl X'
    exact ⟨t2, st t2 a1, b1⟩
  · obtain ⟨k1, k2, k3⟩ := vx_keep h0 e1 hS hAX hf hL hF
    obtain ⟨t2, a1, b1⟩ := kx E ce q u t T'.heap (locs ++ L) e1.symm (by rw [← e2]; exact X'.warmed.alike) hp hb k1 k2 k3 (by rw [e1]; exact hce) hcv hcl T' rfl X'
    exact ⟨t2, st.trans a1, b1⟩
theorem vx_calll {S SX : Type} {post : Int64 → S → Prop} {px : SX → Prop} {B : S → State → Prop} {BX : String → SX → State → Prop} {AX : Nat → Prop} (hr : vx_Run p l e R s m args below meth c H locs cells slots mc ms (F0 m pc ls st0) rest (va_Ql post B A1 a) (vx_X px BX AX) free) (hS : va_S A0 H0 H locs) (hA : ∀ q, q < H.size → A1 q → A0 q) (hf : ∀ q, free q → A0 q) (hAX : ∀ q, q < H.size → AX q → A0 q)
    (kx : ∀ (E : String) (ce : Cell) (q9 : Addr) (u : SX) (t : State) (H1 : Heap) (locs1 : List Loc), t.heap = H1 → s.vm.Alike t.vm → px u → BX E u t → H.size ≤ H1.size → (∀ q : Nat, q < H.size → ¬ AX q → H1[q]? = H[q]?) → va_S A0 H0 H1 locs1 → H1[q9]? = some ce → ce.vm = .none → s.vm.findClass E = some ce.cls → vx_W p l e R s m args below meth c H1 locs1 (cells + mc) (slots + ms) Q (F0 m pc ls rest) q9)
    (kk : ∀ (r : Int64) (u : S) (t : State) (H1 : Heap) (locs1 : List Loc), t.heap = H1 → s.vm.Alike t.vm → post r u → B u t → H.size ≤ H1.size → (∀ q : Nat, q < H.size → ¬ A1 q → H1[q]? = H[q]?) → va_S A0 H0 H1 locs1 → W p l e R s m args below meth c H1 locs1 (cells + mc) (slots + ms) Q (F0 m (pc + 3) ls (.long r :: rest))) : W p l e R s m args below meth c H locs cells slots Q (F0 m pc ls st0) := by
  intro T hT X
  rcases hr T hT X with ⟨v, st₀, t, T', L, h0, X', hL, e1, e2, ⟨⟨r, u, hv, hp, hb⟩, hF⟩, st⟩ | ⟨q, st₀, t, T', L, E, ce, h0, X', hL, e1, e2, ⟨u, hp, hb, hF⟩, hce, hcv, hcl, st⟩
  · cases hv
    obtain ⟨k1, k2, k3⟩ := vx_keep h0 e1 hS hA hf hL hF
    obtain ⟨t2, a1, b1⟩ := kk r u t T'.heap (locs ++ L) e1.symm (by rw [← e2]; exact X'.warmed.alike) hp hb k1 k2 k3 T' rfl X'
    exact ⟨t2, st t2 a1, b1⟩
  · obtain ⟨k1, k2, k3⟩ := vx_keep h0 e1 hS hAX hf hL hF
    obtain ⟨t2, a1, b1⟩ := kx E ce q u t T'.heap (locs ++ L) e1.symm (by rw [← e2]; exact X'.warmed.alike) hp hb k1 k2 k3 (by rw [e1]; exact hce) hcv hcl T' rfl X'
    exact ⟨t2, st.trans a1, b1⟩
theorem vx_callf {S SX : Type} {post : UInt32 → S → Prop} {px : SX → Prop} {B : S → State → Prop} {BX : String → SX → State → Prop} {AX : Nat → Prop} (hr : vx_Run p l e R s m args below meth c H locs cells slots mc ms (F0 m pc ls st0) rest (va_Qf post B A1 a) (vx_X px BX AX) free) (hS : va_S A0 H0 H locs) (hA : ∀ q, q < H.size → A1 q → A0 q) (hf : ∀ q, free q → A0 q) (hAX : ∀ q, q < H.size → AX q → A0 q)
    (kx : ∀ (E : String) (ce : Cell) (q9 : Addr) (u : SX) (t : State) (H1 : Heap) (locs1 : List Loc), t.heap = H1 → s.vm.Alike t.vm → px u → BX E u t → H.size ≤ H1.size → (∀ q : Nat, q < H.size → ¬ AX q → H1[q]? = H[q]?) → va_S A0 H0 H1 locs1 → H1[q9]? = some ce → ce.vm = .none → s.vm.findClass E = some ce.cls → vx_W p l e R s m args below meth c H1 locs1 (cells + mc) (slots + ms) Q (F0 m pc ls rest) q9)
    (kk : ∀ (r : UInt32) (u : S) (t : State) (H1 : Heap) (locs1 : List Loc), t.heap = H1 → s.vm.Alike t.vm → post r u → B u t → H.size ≤ H1.size → (∀ q : Nat, q < H.size → ¬ A1 q → H1[q]? = H[q]?) → va_S A0 H0 H1 locs1 → W p l e R s m args below meth c H1 locs1 (cells + mc) (slots + ms) Q (F0 m (pc + 3) ls (.float r :: rest))) : W p l e R s m args below meth c H locs cells slots Q (F0 m pc ls st0) := by
  intro T hT X
  rcases hr T hT X with ⟨v, st₀, t, T', L, h0, X', hL, e1, e2, ⟨⟨r, u, hv, hp, hb⟩, hF⟩, st⟩ | ⟨q, st₀, t, T', L, E, ce, h0, X', hL, e1, e2, ⟨u, hp, hb, hF⟩, hce, hcv, hcl, st⟩
  · cases hv
    obtain ⟨k1, k2, k3⟩ := vx_keep h0 e1 hS hA hf hL hF
    obtain ⟨t2, a1, b1⟩ := kk r u t T'.heap (locs ++ L) e1.symm (by rw [← e2]; exact X'.warmed.alike) hp hb k1 k2 k3 T' rfl X'
    exact ⟨t2, st t2 a1, b1⟩
  · obtain ⟨k1, k2, k3⟩ := vx_keep h0 e1 hS hAX hf hL hF
    obtain ⟨t2, a1, b1⟩ := kx E ce q u t T'.heap (locs ++ L) e1.symm (by rw [← e2]; exact X'.warmed.alike) hp hb k1 k2 k3 (by rw [e1]; exact hce) hcv hcl T' rfl X'
    exact ⟨t2, st.trans a1, b1⟩
theorem vx_calld {S SX : Type} {post : UInt64 → S → Prop} {px : SX → Prop} {B : S → State → Prop} {BX : String → SX → State → Prop} {AX : Nat → Prop} (hr : vx_Run p l e R s m args below meth c H locs cells slots mc ms (F0 m pc ls st0) rest (va_Qd post B A1 a) (vx_X px BX AX) free) (hS : va_S A0 H0 H locs) (hA : ∀ q, q < H.size → A1 q → A0 q) (hf : ∀ q, free q → A0 q) (hAX : ∀ q, q < H.size → AX q → A0 q)
    (kx : ∀ (E : String) (ce : Cell) (q9 : Addr) (u : SX) (t : State) (H1 : Heap) (locs1 : List Loc), t.heap = H1 → s.vm.Alike t.vm → px u → BX E u t → H.size ≤ H1.size → (∀ q : Nat, q < H.size → ¬ AX q → H1[q]? = H[q]?) → va_S A0 H0 H1 locs1 → H1[q9]? = some ce → ce.vm = .none → s.vm.findClass E = some ce.cls → vx_W p l e R s m args below meth c H1 locs1 (cells + mc) (slots + ms) Q (F0 m pc ls rest) q9)
    (kk : ∀ (r : UInt64) (u : S) (t : State) (H1 : Heap) (locs1 : List Loc), t.heap = H1 → s.vm.Alike t.vm → post r u → B u t → H.size ≤ H1.size → (∀ q : Nat, q < H.size → ¬ A1 q → H1[q]? = H[q]?) → va_S A0 H0 H1 locs1 → W p l e R s m args below meth c H1 locs1 (cells + mc) (slots + ms) Q (F0 m (pc + 3) ls (.double r :: rest))) : W p l e R s m args below meth c H locs cells slots Q (F0 m pc ls st0) := by
  intro T hT X
  rcases hr T hT X with ⟨v, st₀, t, T', L, h0, X', hL, e1, e2, ⟨⟨r, u, hv, hp, hb⟩, hF⟩, st⟩ | ⟨q, st₀, t, T', L, E, ce, h0, X', hL, e1, e2, ⟨u, hp, hb, hF⟩, hce, hcv, hcl, st⟩
  · cases hv
    obtain ⟨k1, k2, k3⟩ := vx_keep h0 e1 hS hA hf hL hF
    obtain ⟨t2, a1, b1⟩ := kk r u t T'.heap (locs ++ L) e1.symm (by rw [← e2]; exact X'.warmed.alike) hp hb k1 k2 k3 T' rfl X'
    exact ⟨t2, st t2 a1, b1⟩
  · obtain ⟨k1, k2, k3⟩ := vx_keep h0 e1 hS hAX hf hL hF
    obtain ⟨t2, a1, b1⟩ := kx E ce q u t T'.heap (locs ++ L) e1.symm (by rw [← e2]; exact X'.warmed.alike) hp hb k1 k2 k3 (by rw [e1]; exact hce) hcv hcl T' rfl X'
    exact ⟨t2, st.trans a1, b1⟩
theorem vx_callv {S SX : Type} {post : S → Prop} {px : SX → Prop} {B : S → State → Prop} {BX : String → SX → State → Prop} {AX : Nat → Prop} (hr : vx_Run p l e R s m args below meth c H locs cells slots mc ms (F0 m pc ls st0) rest (va_Qv post B A1 a) (vx_X px BX AX) free) (hS : va_S A0 H0 H locs) (hA : ∀ q, q < H.size → A1 q → A0 q) (hf : ∀ q, free q → A0 q) (hAX : ∀ q, q < H.size → AX q → A0 q)
    (kx : ∀ (E : String) (ce : Cell) (q9 : Addr) (u : SX) (t : State) (H1 : Heap) (locs1 : List Loc), t.heap = H1 → s.vm.Alike t.vm → px u → BX E u t → H.size ≤ H1.size → (∀ q : Nat, q < H.size → ¬ AX q → H1[q]? = H[q]?) → va_S A0 H0 H1 locs1 → H1[q9]? = some ce → ce.vm = .none → s.vm.findClass E = some ce.cls → vx_W p l e R s m args below meth c H1 locs1 (cells + mc) (slots + ms) Q (F0 m pc ls rest) q9)
    (kk : ∀ (u : S) (t : State) (H1 : Heap) (locs1 : List Loc), t.heap = H1 → s.vm.Alike t.vm → post u → B u t → H.size ≤ H1.size → (∀ q : Nat, q < H.size → ¬ A1 q → H1[q]? = H[q]?) → va_S A0 H0 H1 locs1 → W p l e R s m args below meth c H1 locs1 (cells + mc) (slots + ms) Q (F0 m (pc + 3) ls (rest))) : W p l e R s m args below meth c H locs cells slots Q (F0 m pc ls st0) := by
  intro T hT X
  rcases hr T hT X with ⟨v, st₀, t, T', L, h0, X', hL, e1, e2, ⟨⟨u, hv, hp, hb⟩, hF⟩, st⟩ | ⟨q, st₀, t, T', L, E, ce, h0, X', hL, e1, e2, ⟨u, hp, hb, hF⟩, hce, hcv, hcl, st⟩
  · cases hv
    obtain ⟨k1, k2, k3⟩ := vx_keep h0 e1 hS hA hf hL hF
    obtain ⟨t2, a1, b1⟩ := kk u t T'.heap (locs ++ L) e1.symm (by rw [← e2]; exact X'.warmed.alike) hp hb k1 k2 k3 T' rfl X'
    exact ⟨t2, st t2 a1, b1⟩
  · obtain ⟨k1, k2, k3⟩ := vx_keep h0 e1 hS hAX hf hL hF
    obtain ⟨t2, a1, b1⟩ := kx E ce q u t T'.heap (locs ++ L) e1.symm (by rw [← e2]; exact X'.warmed.alike) hp hb k1 k2 k3 (by rw [e1]; exact hce) hcv hcl T' rfl X'
    exact ⟨t2, st.trans a1, b1⟩
/-- caught by the row x of this method's table; the rows ahead don't take it -/
theorem vx_catch {own name : String} {E : String} {ce : Cell} {q : Addr} (hown : s.vm.findClass own = some m.cls) (pre : List ExceptionTableEntry) (x : ExceptionTableEntry) (suf : List ExceptionTableEntry) (hsplit : c.exceptionTable.toList = pre ++ x :: suf)
    (hpass : ∀ z ∈ pre, covers z pc = false ∨ (z.catchType ≠ 0 ∧ ∃ nm : String, (Cond.classLink own z.catchType nm).before args s = true ∧ va_Nc E nm s)) (hx : covers x pc = true) (h0 : x.catchType ≠ 0)
    (hlink : (Cond.classLink own x.catchType name).before args s = true) (hcast : (Cond.castable E name).before args s = true) (hcell : H[q]? = some ce) (hv : ce.vm = .none) (hcl : s.vm.findClass E = some ce.cls)
    (kk : W p l e R s m args below meth c H locs cells slots Q (F0 m x.handlerPc ls [.ref q])) : vx_W p l e R s m args below meth c H locs cells slots Q (F0 m pc ls rest) q := by
  intro T hT X
  have hpl : e.platform.magicAccessors = ({} : Platform).magicAccessors := by rw [X.admits.platform]
  obtain ⟨c3, c4, hc3, hc4, hasg⟩ := Cond.castable_spec hcast
  cases Option.some.inj (hc3.symm.trans hcl)
  obtain ⟨c5, hc5, hcl5⟩ := Cond.classLink_spec hown hlink e.platform hpl
  cases Option.some.inj (hc4.symm.trans hc5)
  obtain ⟨vm', X', st⟩ := X.thenCaughtThrough q (g := F0 m pc ls rest) rfl (Steps.refl _) (by rw [hT]; exact hcell) (by rw [hv]; rfl) (by obtain ⟨k9, h9, -⟩ := Vm.findClass_spec hcl; exact ⟨k9, h9⟩) pre x suf hsplit
    (fun z hz => by
      rcases hpass z hz with h | ⟨hz0, nm, hl1, hn1⟩
      · exact Or.inl h
      · obtain ⟨c6, hc6, hcl6⟩ := Cond.classLink_spec hown hl1 e.platform hpl
        obtain ⟨a8, b8, h1, h2, h3⟩ := hn1
        cases Option.some.inj (h1.symm.trans hcl)
        cases Option.some.inj (h2.symm.trans hc6)
        exact Or.inr ⟨hz0, _, hcl6, h3⟩) hx (Or.inr ⟨h0, c4, hcl5, hasg⟩)
  obtain ⟨t, a1, b1⟩ := kk (T.setVm vm') hT X'
  exact ⟨t, st.trans a1, b1⟩
end Rows
section Ends
variable {p : Program} {l : Launch} {e : Env} {R : Room} {s : State} {m : MethodId} {args : Array Value} {below : List Frame} {meth : Method} {c : Code} {H : Heap} {locs : List Loc} {cells slots : Nat} {Q : State → Prop}
variable {mc ms : Nat} {free : Addr → Prop} {A0 A1 : Nat → Prop} {H0 : Heap} {a : Array Value} {ls : Array Slot} {st0 rest : List Value}
variable {Qc : Array Value → State → Outcome → State → Prop} {XC : String → State → State → Prop}
/-- what a body that may throw owes at its end -/
def vx_MQ (below : List Frame) (Qc : Array Value → State → Outcome → State → Prop) (XC : String → State → State → Prop) (a : Array Value) (s : State) (mc ms : Nat) (free : Addr → Prop) : State → Prop := fun t =>
  ∃ o, t.status = .running ∧ Ended t below o ∧ vx_Q Qc XC mc ms free a s o t
theorem vx_ret {g : JFrame} {mc ms : Nat} (k : W p l e R s m args below meth c H locs cells slots (MQ below Qc args s mc ms free) g) : W p l e R s m args below meth c H locs cells slots (vx_MQ below Qc XC args s mc ms free) g := by
  intro T hT X
  obtain ⟨t, a1, o, b1, b2, b3, b4⟩ := k T hT X
  exact ⟨t, a1, o, b1, b2, Or.inl ⟨b3, b4⟩⟩
/-- not caught here: it goes on to the caller -/
theorem vx_widen {g : JFrame} {q : Addr} {k n : Nat} (h1 : cells ≤ k) (h2 : slots ≤ n) (kk : vx_W p l e R s m args below meth c H locs k n Q g q) : vx_W p l e R s m args below meth c H locs cells slots Q g q := fun T hT X => kk T hT (stand_widen X h1 h2)
theorem vx_out {pc : Nat} {E : String} {ce : Cell} {q : Addr} {mc ms : Nat} (hout : ∀ x ∈ c.exceptionTable.toList, covers x pc = false) (hlocks : meth.locks = false) (hcell : H[q]? = some ce) (hv : ce.vm = .none) (hcl : s.vm.findClass E = some ce.cls)
    (hx : ∀ t : State, t.heap = H → s.vm.Alike t.vm → XC E s t) (hf : ∀ z ∈ locs, free z.base) (hc : cells ≤ mc) (hs : slots ≤ ms) :
    vx_W p l e R s m args below meth c H locs cells slots (vx_MQ below Qc XC args s mc ms free) (F0 m pc ls rest) q := by
  intro T hT X
  obtain ⟨st1, hrun, hend, hW, hsm⟩ := X.leaveThrown q (g := F0 m pc ls rest) rfl rfl rfl hout hlocks
  have hcell9 : (T.setFrames (.throwing q :: below)).heap[q]? = some ce := by
    show T.heap[q]? = some ce
    rw [hT]; exact hcell
  exact ⟨_, st1, .threw q, hrun, hend, Or.inr ⟨q, rfl, E, ce, locs, hx _ hT hW.alike, hcell9, hv, hcl, hW, hsm.mono hc hs, hf⟩⟩
theorem vx_frame {U : State} {k n : Nat} (h : s.sameButNew ({ U with vm := s.vm } : State) locs k n) : s.heap.size ≤ U.heap.size ∧ ∀ q : Nat, q < s.heap.size → (∀ z ∈ locs, z.base ≠ q) → U.heap[q]? = s.heap[q]? := by
  obtain ⟨-, h2, -, -, -, h6⟩ := h
  refine ⟨h2, fun q hq hz => ?_⟩
  obtain ⟨c9, e1, e2, e3, e4⟩ := h6 q _ (Array.getElem?_eq_getElem hq)
  have hs : c9.slots = (s.heap[q]).slots := Array.ext_getElem? fun i => e4 i fun hm => hz _ hm rfl
  have h9 : c9 = s.heap[q] := by
    rw [hs] at e2
    exact e2
  have e5 : U.heap[q]? = some c9 := e1
  rw [e5, h9, Array.getElem?_eq_getElem hq]
/-- the words of a throw but the four that speak of the heap -/
def vx_no (w : Cond) : Bool := decide (w ≠ .isRef (.static Bundle.tN "UNASSIGNED_STACK" Bundle.steD)) && decide (w ≠ .isRef (.static Bundle.tN "SUPPRESSED_SENTINEL" Bundle.listD)) && decide (w ≠ .laysStatic Bundle.tN "UNASSIGNED_STACK" Bundle.steD) && decide (w ≠ .laysStatic Bundle.tN "SUPPRESSED_SENTINEL" Bundle.listD)
def vx_at0 (own : String) (ic : Nat) (X : String) (names : List String) : List Cond := (Bundle.ownAtoms0 own ic X names).filter vx_no
def vx_atS (own : String) (ic : Nat) (X : String) (names : List String) : List Cond := (Bundle.ownAtoms own ic X names).filter vx_no
/-- a word that the tables alone decide, or a good one -/
def vx_ot (w : Cond) : Bool := w.onTables || goodWord w
theorem vx_ot_at {args a' : Array Value} {s U : State} {w : Cond} (hW : s.WarmedH U.vm) (hvm : s.vm = U.vm) (hg : vx_ot w = true) (h : w.before args s = true) : w.before a' U = true := by
  simp only [vx_ot, Bool.or_eq_true] at hg
  rcases hg with hg | hg
  · exact va_tabs hg hvm h
  · exact word_at hW (good_of_word hg) h
/-- a list's words: the good ones out of the method's own list, the others by premises of their own -/
theorem vx_hat {args : Array Value} {s : State} {L B : List Cond} (h1 : ∀ w ∈ L.filter goodWord, w.before args s = true) (h2 : ∀ w ∈ L.filter (fun w => !goodWord w), w ∈ B) (h3 : ∀ w ∈ B, w.before args s = true) : ∀ w ∈ L, w.before args s = true := by
  intro w hw
  by_cases g : goodWord w = true
  · exact h1 w (List.mem_filter.mpr ⟨hw, g⟩)
  · refine h3 w (h2 w (List.mem_filter.mpr ⟨hw, ?_⟩))
    show (!goodWord w) = true
    cases hgw : goodWord w
    · rfl
    · exact absurd hgw g
theorem vx_c {args : Array Value} {s : State} {w : Cond} {B : List Cond} (h : w.before args s = true) (t : ∀ w ∈ B, w.before args s = true) : ∀ w' ∈ w :: B, w'.before args s = true := fun w' h' => (List.mem_cons.mp h').elim (fun e => by rw [e]; exact h) (t w')
theorem vx_n {args : Array Value} {s : State} : ∀ w ∈ ([] : List Cond), w.before args s = true := fun _ h => nomatch h
theorem vx_own {args : Array Value} {s : State} {L : List Cond} (h1 : ∀ w ∈ L.filter vx_no, w.before args s = true)
    (hU : (Cond.isRef (.static Bundle.tN "UNASSIGNED_STACK" Bundle.steD)).before args s = true) (hN : (Cond.isRef (.static Bundle.tN "SUPPRESSED_SENTINEL" Bundle.listD)).before args s = true)
    (lU : (Cond.laysStatic Bundle.tN "UNASSIGNED_STACK" Bundle.steD).before args s = true) (lN : (Cond.laysStatic Bundle.tN "SUPPRESSED_SENTINEL" Bundle.listD).before args s = true) : ∀ w ∈ L, w.before args s = true := by
  intro w hw
  by_cases e1 : w = .isRef (.static Bundle.tN "UNASSIGNED_STACK" Bundle.steD)
  · rw [e1]; exact hU
  · by_cases e2 : w = .isRef (.static Bundle.tN "SUPPRESSED_SENTINEL" Bundle.listD)
    · rw [e2]; exact hN
    · by_cases e3 : w = .laysStatic Bundle.tN "UNASSIGNED_STACK" Bundle.steD
      · rw [e3]; exact lU
      · by_cases e4 : w = .laysStatic Bundle.tN "SUPPRESSED_SENTINEL" Bundle.listD
        · rw [e4]; exact lN
        · exact h1 w (List.mem_filter.mpr ⟨hw, by unfold vx_no; rw [decide_eq_true e1, decide_eq_true e2, decide_eq_true e3, decide_eq_true e4]; rfl⟩)
/-- where a static field lies, its class's statics cell in H -/
def vx_L (C n d : String) (A : Nat → Prop) (U : State) (H : Heap) : Prop := ∃ (c : ClassId) (k : Class) (i : Nat) (f : Field) (a : Nat) (cell : Cell), U.vm.findClass C = some c ∧ U.fieldFound? C n d = some (c, k, i, f) ∧ f.isStatic = true ∧ k.statics = some a ∧ H[a]? = some cell ∧ cell.vm.isStatics = true ∧ cell.cls = c ∧ f.slot < cell.slots.size ∧ k.staticTypes[f.slot]? = some f.type ∧ ¬ A a
theorem vx_L.moved {C n d : String} {A : Nat → Prop} {u U : State} {H : Heap} (hvm : u.vm.Alike U.vm) (h : vx_L C n d A u H) : vx_L C n d A U H := by
  obtain ⟨c, k, i, f, a, cell, h1, h2, h3, h4, h5, h6, h7, h8, h9, h10⟩ := h
  obtain ⟨k', hi', he⟩ := State.fieldFound?_setVm hvm h2
  exact ⟨c, k', i, f, a, cell, by rw [hvm.findClass]; exact h1, hi', h3, by rw [he]; exact h4, h5, h6, h7, h8, by rw [he]; exact h9, h10⟩
theorem vx_L.kept {C n d : String} {A : Nat → Prop} {U : State} {H H1 : Heap} (h : vx_L C n d A U H) (hq : ∀ a : Nat, a < H.size → ¬ A a → H1[a]? = H[a]?) : vx_L C n d A U H1 := by
  obtain ⟨c, k, i, f, a, cell, h1, h2, h3, h4, h5, h6, h7, h8, h9, h10⟩ := h
  exact ⟨c, k, i, f, a, cell, h1, h2, h3, h4, by rw [hq a (Array.getElem?_eq_some_iff.mp h5).1 h10]; exact h5, h6, h7, h8, h9, h10⟩
theorem vx_L.narrow {C n d : String} {A B : Nat → Prop} {U : State} {H : Heap} (h : vx_L C n d A U H) (hAB : ∀ q, B q → A q) : vx_L C n d B U H := by
  obtain ⟨c, k, i, f, a, cell, h1, h2, h3, h4, h5, h6, h7, h8, h9, h10⟩ := h
  exact ⟨c, k, i, f, a, cell, h1, h2, h3, h4, h5, h6, h7, h8, h9, fun z => h10 (hAB _ z)⟩
theorem vx_L.word {C n d : String} {A : Nat → Prop} {s : State} {args : Array Value} (h : vx_L C n d A s s.heap) : (Cond.laysStatic C n d).before args s = true := by
  obtain ⟨c, k, i, f, a, cell, h1, h2, h3, h4, h5, h6, h7, h8, h9, -⟩ := h
  show (Cond.laysStatic C n d).holds args s none s [] = true
  exact Cond.laysStatic_of h1 h2 h3 h4 h5 h6 h7 h8 h9
/-- .. and what it holds: null or some reference -/
def vx_Zq (C n d : String) (A : Nat → Prop) (U : State) (H : Heap) : Prop := va_Zq C n d A U H ∧ vx_L C n d A U H
theorem vx_Zq.moved {C n d : String} {A : Nat → Prop} {u U : State} {H : Heap} (hvm : u.vm.Alike U.vm) (h : vx_Zq C n d A u H) : vx_Zq C n d A U H := ⟨va_Zq.moved hvm h.1, vx_L.moved hvm h.2⟩
theorem vx_Zq.kept {C n d : String} {A : Nat → Prop} {U : State} {H H1 : Heap} (h : vx_Zq C n d A U H) (hq : ∀ a : Nat, a < H.size → ¬ A a → H1[a]? = H[a]?) : vx_Zq C n d A U H1 := ⟨va_Zq.kept h.1 hq, vx_L.kept h.2 hq⟩
theorem vx_Zq.narrow {C n d : String} {A B : Nat → Prop} {U : State} {H : Heap} (h : vx_Zq C n d A U H) (hAB : ∀ q, B q → A q) : vx_Zq C n d B U H := ⟨va_Zq.narrow h.1 hAB, vx_L.narrow h.2 hAB⟩
theorem vx_Zqof {args : Array Value} {s : State} {C n d : String} {A : Nat → Prop} (hl : (Cond.laysStatic C n d).before args s = true) (hini : (Cond.initialized C).before args s = true) (h : (Cond.isRef (.static C n d)).before args s = true) (hA : ∀ a : Nat, a < s.heap.size → ¬ A a) : vx_Zq C n d A s s.heap := by
  refine ⟨va_Zqof hl hini h hA, ?_⟩
  obtain ⟨c, k, i, f, a, cell, h1, h2, h3, h4, h5, h6, h7, h8, h9⟩ := Cond.laysStatic_spec hl
  exact ⟨c, k, i, f, a, cell, h1, h2, h3, h4, h5, h6, h7, h8, h9, hA a (Array.getElem?_eq_some_iff.mp h5).1⟩
theorem vx_isRef {C n d : String} {v : Value} {A : Nat → Prop} {s : State} {args : Array Value} (h : va_Z C n d v A s s.heap) (hv : v.isRef = true) : (Cond.isRef (.static C n d)).before args s = true := by
  obtain ⟨cf, kf, fi, f, a, cell, h1, h2, h3, h4, h5, h6, h7, -⟩ := h
  have he : (Term.static C n d).eval args s none [] s = some v := by
    simp [Term.eval, State.fieldNamed?, h1, h2, h4, h5, h6, h7]
  simp only [Cond.before, Cond.holds, Cond.value, he]
  cases v <;> simp_all [Value.isRef]
theorem vx_isRefq {C n d : String} {A : Nat → Prop} {s : State} {args : Array Value} (h : va_Zq C n d A s s.heap) : (Cond.isRef (.static C n d)).before args s = true := by
  rcases h with h | ⟨t, h⟩
  · exact vx_isRef h rfl
  · exact vx_isRef h rfl
/-- the same frame, seen from here: as if the method were called anew in this heap -/
theorem vx_rebase {T : State} (X : Stand p l e R s m args below meth c T locs cells slots) {R' : Room} (hf : R'.frames ≤ R.frames) (hl : R'.locals ≤ R.locals) (hc : cells + R'.cells ≤ R.cells) (hs : slots + R'.slots ≤ R.slots) :
    Stand p l e R' ((T.setVm s.vm).setFrames (.invoking m args :: below)) m args below meth c T [] 0 0 := by
  have htop : (T.setVm s.vm).topJava?.isSome := X.here.top
  have hF : ((T.setVm s.vm).setFrames (.invoking m args :: below)).frames = .invoking m args :: below := State.frames_setFrames _ (State.cur_lt_of_top htop)
  obtain ⟨g₀, hg0⟩ := Option.isSome_iff_exists.mp htop
  obtain ⟨r, hr⟩ := State.topJava?_eq_some.mp hg0
  have hl9 : e.platform.stackLimits (T.setVm s.vm).me = e.platform.stackLimits s.me := X.limits
  have hb9 : (T.setVm s.vm).me.stackBytes = s.me.stackBytes := X.bytes
  refine ⟨X.admits, X.cas, X.clock, hF, ?_, X.hears, X.method, X.code, X.here, X.tail, X.warmed, ?_, ?_, ?_⟩
  · have h := X.room
    have hU : ((T.setVm s.vm).setFrames (.invoking m args :: below)).localsInUse = s.localsInUse := by
      rw [State.localsInUse_invoking hF (meth := meth) (c := c) X.method X.code, State.localsInUse_invoking X.frames X.method X.code]
    simp only [State.hasRoom, Bool.and_eq_true, decide_eq_true_eq] at h ⊢
    obtain ⟨⟨⟨⟨h1, h2, h3, h4, h5, h6⟩, h7⟩, h8⟩, h9⟩ := h
    rw [X.frames, List.length_cons] at h2 h3
    have q1 := X.heapSize
    have q2 := X.used
    simp only [hF, hU, List.length_cons, State.stackLimits_setFrames, State.stackBytes_setFrames, hl9, hb9]
    refine ⟨⟨⟨⟨by omega, by omega, by omega, by omega, by omega, h6⟩, ?_⟩, ?_⟩, X.book⟩
    · show T.heap.size + R'.cells ≤ e.platform.maxCells
      omega
    · show T.slotsUsed + R'.slots ≤ e.platform.maxSlots
      omega
  · rw [State.stackLimits_setFrames]; rfl
  · rw [State.stackBytes_setFrames]; rfl
  · refine ⟨?_, Nat.le_refl _, Nat.le_refl _, ?_, ?_, fun a c9 h9 => ⟨c9, h9, rfl, rfl, fun _ _ => rfl⟩⟩
    · obtain ⟨t, ht, -⟩ := State.frames_cons hr
      show T.setVm s.vm = { ((T.setVm s.vm).setFrames (.invoking m args :: below)).setFrames (T.setVm s.vm).frames with heap := T.heap, slotsUsed := T.slotsUsed }
      rw [State.setFrames_setFrames, State.setFrames_self ht]
      rfl
    · show T.slotsUsed = T.slotsUsed + ((T.heap.toList.drop T.heap.size).map (·.slots.size)).sum
      rw [List.drop_eq_nil_of_le (Nat.le_of_eq Array.length_toList)]
      rfl
    · show ((T.heap.toList.drop T.heap.size).map (·.slots.size)).sum ≤ 0
      rw [List.drop_eq_nil_of_le (Nat.le_of_eq Array.length_toList)]
      exact Nat.le_refl _
/-- 'throw new E()': new; dup; invokespecial; athrow -/
theorem vx_throw0 {cc : ByteArray} {pc : Nat} (hexec : p.tables.exec = Jvm.exec) (hb : c.code = cc) (hl : l.stackTraces = false) {own cls : String} {names : List String} {ik ic mc ms : Nat} {A : Nat → Prop}
    (hown : s.vm.findClass own = some m.cls) (hcls : Bundle.fit cls = true) (hnames : ∀ n ∈ names, Bundle.fit n = true)
    (hk : (Cond.classLink own ik cls).before args s = true) (hini : (Cond.initialized cls).before args s = true) (hat : ∀ w ∈ vx_at0 own ic cls names, w.before args s = true)
    (hgood : ∀ w ∈ Cond.classLink own ik cls :: Cond.initialized cls :: vx_at0 own ic cls names, vx_ot w = true)
    (hU : vx_Zq Bundle.tN "UNASSIGNED_STACK" Bundle.steD A s s.heap) (hN : vx_Zq Bundle.tN "SUPPRESSED_SENTINEL" Bundle.listD A s s.heap) (hS : va_S A s.heap H locs) (hsize : ls.size = c.maxLocals)
    (d0 : decode cc pc = .ok (.new ik, 3)) (d3 : decode cc (pc + 3) = .ok (.dup, 1)) (d4 : decode cc (pc + 4) = .ok (.invokespecial ic, 3)) (d7 : decode cc (pc + 7) = .ok (.athrow, 1))
    (hout : ∀ x ∈ c.exceptionTable.toList, covers x (pc + 7) = false)
    (hRframes : names.length + 3 < R.frames) (hRlocals : (rest.map fun v => v.category).sum + (13 * (names.length + 1) + 42) ≤ R.locals) (hRcells : cells + 1 ≤ R.cells) (hRslots : slots + 6 ≤ R.slots) (hlocks : meth.locks = false)
    (hx : ∀ t : State, s.vm.Alike t.vm → H.size ≤ t.heap.size → (∀ q : Nat, q < H.size → t.heap[q]? = H[q]?) → XC cls s t)
    (hf : ∀ z ∈ locs, free z.base) (hc : cells + 1 ≤ mc) (hs : slots + 6 ≤ ms) :
    W p l e R s m args below meth c H locs cells slots (vx_MQ below Qc XC args s mc ms free) (F0 m pc ls rest) := by
  intro T hT X
  have htr : e.platform.stackTraces = false := (show e.platform.stackTraces = l.stackTraces by rw [X.admits.platform]).trans hl
  have Y := vx_rebase X (R' := { frames := R.frames, locals := R.locals, cells := 1, slots := 6 }) (Nat.le_refl _) (Nat.le_refl _) hRcells hRslots
  obtain ⟨s', hA⟩ : ∃ z, z = (T.setVm s.vm).setFrames (.invoking m args :: below) := ⟨_, rfl⟩
  rw [← hA] at Y
  have hvm : s'.vm = s.vm := by rw [hA]; rfl
  have hhp : s'.heap = H := by rw [hA]; exact hT
  have hW0 : s.WarmedH s'.vm := by rw [hvm]; exact State.WarmedH.refl s
  have hat' : ∀ w ∈ vx_at0 own ic cls names, w.before args s' = true := fun w hw => vx_ot_at hW0 hvm.symm (hgood w (List.mem_cons_of_mem _ (List.mem_cons_of_mem _ hw))) (hat w hw)
  have hk' : (Cond.classLink own ik cls).before args s' = true := vx_ot_at hW0 hvm.symm (hgood _ List.mem_cons_self) hk
  have hini' : (Cond.initialized cls).before args s' = true := vx_ot_at hW0 hvm.symm (hgood _ (List.mem_cons_of_mem _ List.mem_cons_self)) hini
  have hU' : vx_Zq Bundle.tN "UNASSIGNED_STACK" Bundle.steD A s' s'.heap := by rw [hhp]; exact vx_Zq.moved hW0.alike (hU.kept hS.2.1)
  have hN' : vx_Zq Bundle.tN "SUPPRESSED_SENTINEL" Bundle.listD A s' s'.heap := by rw [hhp]; exact vx_Zq.moved hW0.alike (hN.kept hS.2.1)
  have h : ∀ w ∈ Bundle.ownAtoms0 own ic cls names, w.before args s' = true := vx_own hat' (vx_isRefq hU'.1) (vx_isRefq hN'.1) hU'.2.word hN'.2.word
  have hown' : s'.vm.findClass own = some m.cls := by rw [hvm]; exact hown
  have hins : (Cond.instantiable cls 6).before args s' = true := h _ (by simp [Bundle.ownAtoms0])
  obtain ⟨vm₁, cX, kX, hfX, hkX, -, -, X₁, st1⟩ := Y.newCold hexec (own := own) (C := cls) (index := ik) (n := 6) hown' hk' hins hini'
    (g := F0 m pc ls rest) rfl (by rw [hb]; exact d0) (Nat.le_refl _) (Nat.le_refl _)
  generalize hT1 : (T.setVm vm₁).pushCell { cls := cX, slots := kX.instanceTypes.map defaultValue, vm := .none } = T1 at X₁ st1
  have hcat : (Value.ref T.heap.size).category = 1 := rfl
  have hcellA : T1.heap[T.heap.size]? = some (freshCell cX kX) := by rw [← hT1]; exact State.heap_pushCell_size _ _
  have d3' : decode c.code (pc + 3) = .ok (.dup, 1) := by rw [hb]; exact d3
  obtain ⟨U, hsteps, hrun, hend, hW, hsame, ce, hce, hO⟩ := X₁.ctorThrow0 hexec htr (own := own) (cls := cls) (names := names) (ic := ic) hown' hcls hnames h (fun x hx => nomatch hx) hfX hkX hcellA (by rw [hhp, hT]; exact Nat.le_refl _)
    (g := { method := m, pc := pc + 4, locals := ls, stack := .ref T.heap.size :: .ref T.heap.size :: rest, locked := none }) rfl hsize rfl rfl (rest := rest) rfl
    (by rw [hb]; exact d4) (by rw [hb]; exact d7) hout hRframes (by simp only [List.map_cons, List.sum_cons, hcat]; omega) hlocks
  obtain ⟨f1, f2⟩ := vx_frame hsame
  rw [hhp] at f1 f2
  have hWs : s.WarmedH U.vm := State.WarmedH.trans hW0 hW
  have hcl : s.vm.findClass cls = some ce.cls := by
    have h9 := hO.cls
    rw [hvm] at h9
    exact h9
  have hall : s.sameButNew ({ U with vm := s.vm } : State) locs mc ms := by
    subst hA
    obtain ⟨e1, e2⟩ := hsame
    rw [State.setFrames_setFrames] at e1
    have h2 : (T.setVm s.vm).sameButNew ({ U with vm := s.vm } : State) [] (0 + 1) (0 + 6) := ⟨e1, e2⟩
    have h3 := X.same.trans h2
    rw [List.append_nil] at h3
    exact h3.mono hc hs
  refine ⟨U, ?_, .threw T.heap.size, hrun, hend, Or.inr ⟨T.heap.size, rfl, cls, ce, locs, hx U hWs.alike f1 (fun q hq => f2 q hq (fun z hz => nomatch hz)), hce, hO.vm, hcl, hWs, hall, hf⟩⟩
  refine st1 _ ?_
  show Steps p.tables e below (T1.setTop { method := m, pc := pc + 3, locals := ls, stack := .ref T.heap.size :: rest, locked := none }) _
  jvm_step X₁.here [X₁.here.top, hexec, d3', Value.category]
  exact hsteps
/-- 'throw new E("text")': new; dup; ldc; invokespecial; athrow -/
theorem vx_throwS {cc : ByteArray} {pc : Nat} (hexec : p.tables.exec = Jvm.exec) (hb : c.code = cc) (hl : l.stackTraces = false) {own cls text : String} {names : List String} {ik is ic mc ms sa : Nat} {A : Nat → Prop}
    (hown : s.vm.findClass own = some m.cls) (hcls : Bundle.fit cls = true) (hnames : ∀ n ∈ names, Bundle.fit n = true)
    (hk : (Cond.classLink own ik cls).before args s = true) (hini : (Cond.initialized cls).before args s = true) (hstr : vk_R own is text sa s) (hat : ∀ w ∈ vx_atS own ic cls names, w.before args s = true)
    (hgood : ∀ w ∈ Cond.classLink own ik cls :: Cond.initialized cls :: vx_atS own ic cls names, vx_ot w = true)
    (hU : vx_Zq Bundle.tN "UNASSIGNED_STACK" Bundle.steD A s s.heap) (hN : vx_Zq Bundle.tN "SUPPRESSED_SENTINEL" Bundle.listD A s s.heap) (hS : va_S A s.heap H locs) (hsize : ls.size = c.maxLocals)
    (d0 : decode cc pc = .ok (.new ik, 3)) (d3 : decode cc (pc + 3) = .ok (.dup, 1)) (d4 : decode cc (pc + 4) = .ok (.ldc is, 2)) (d6 : decode cc (pc + 6) = .ok (.invokespecial ic, 3)) (d9 : decode cc (pc + 9) = .ok (.athrow, 1))
    (hout : ∀ x ∈ c.exceptionTable.toList, covers x (pc + 9) = false)
    (hRframes : names.length + 3 < R.frames) (hRlocals : (rest.map fun v => v.category).sum + (13 * (names.length + 1) + 43) ≤ R.locals) (hRcells : cells + 1 ≤ R.cells) (hRslots : slots + 6 ≤ R.slots) (hlocks : meth.locks = false)
    (hx : ∀ t : State, s.vm.Alike t.vm → H.size ≤ t.heap.size → (∀ q : Nat, q < H.size → t.heap[q]? = H[q]?) → XC cls s t)
    (hf : ∀ z ∈ locs, free z.base) (hc : cells + 1 ≤ mc) (hs : slots + 6 ≤ ms) :
    W p l e R s m args below meth c H locs cells slots (vx_MQ below Qc XC args s mc ms free) (F0 m pc ls rest) := by
  intro T hT X
  have htr : e.platform.stackTraces = false := (show e.platform.stackTraces = l.stackTraces by rw [X.admits.platform]).trans hl
  have Y := vx_rebase X (R' := { frames := R.frames, locals := R.locals, cells := 1, slots := 6 }) (Nat.le_refl _) (Nat.le_refl _) hRcells hRslots
  obtain ⟨s', hA⟩ : ∃ z, z = (T.setVm s.vm).setFrames (.invoking m args :: below) := ⟨_, rfl⟩
  rw [← hA] at Y
  have hvm : s'.vm = s.vm := by rw [hA]; rfl
  have hhp : s'.heap = H := by rw [hA]; exact hT
  have hW0 : s.WarmedH s'.vm := by rw [hvm]; exact State.WarmedH.refl s
  have hat' : ∀ w ∈ vx_atS own ic cls names, w.before args s' = true := fun w hw => vx_ot_at hW0 hvm.symm (hgood w (List.mem_cons_of_mem _ (List.mem_cons_of_mem _ hw))) (hat w hw)
  have hk' : (Cond.classLink own ik cls).before args s' = true := vx_ot_at hW0 hvm.symm (hgood _ List.mem_cons_self) hk
  have hini' : (Cond.initialized cls).before args s' = true := vx_ot_at hW0 hvm.symm (hgood _ (List.mem_cons_of_mem _ List.mem_cons_self)) hini
  have hU' : vx_Zq Bundle.tN "UNASSIGNED_STACK" Bundle.steD A s' s'.heap := by rw [hhp]; exact vx_Zq.moved hW0.alike (hU.kept hS.2.1)
  have hN' : vx_Zq Bundle.tN "SUPPRESSED_SENTINEL" Bundle.listD A s' s'.heap := by rw [hhp]; exact vx_Zq.moved hW0.alike (hN.kept hS.2.1)
  have h : ∀ w ∈ Bundle.ownAtoms own ic cls names, w.before args s' = true := vx_own hat' (vx_isRefq hU'.1) (vx_isRefq hN'.1) hU'.2.word hN'.2.word
  have hown' : s'.vm.findClass own = some m.cls := by rw [hvm]; exact hown
  have hins : (Cond.instantiable cls 6).before args s' = true := h _ (by simp [Bundle.ownAtoms])
  obtain ⟨vm₁, cX, kX, hfX, hkX, -, -, X₁, st1⟩ := Y.newCold hexec (own := own) (C := cls) (index := ik) (n := 6) hown' hk' hins hini'
    (g := F0 m pc ls rest) rfl (by rw [hb]; exact d0) (Nat.le_refl _) (Nat.le_refl _)
  generalize hT1 : (T.setVm vm₁).pushCell { cls := cX, slots := kX.instanceTypes.map defaultValue, vm := .none } = T1 at X₁ st1
  have hcat : (Value.ref T.heap.size).category = 1 := rfl
  have hcellA : T1.heap[T.heap.size]? = some (freshCell cX kX) := by rw [← hT1]; exact State.heap_pushCell_size _ _
  have d3' : decode c.code (pc + 3) = .ok (.dup, 1) := by rw [hb]; exact d3
  have d4' : decode c.code (pc + 4) = .ok (.ldc is, 2) := by rw [hb]; exact d4
  have hstr' : vk_R own is text sa s' := vk_R.warm hW0 hstr
  obtain ⟨U, hsteps, hrun, hend, hW, hsame, ce, hce, hO⟩ := X₁.ctorThrowS hexec htr (own := own) (cls := cls) (names := names) (ic := ic) hown' hcls hnames h (fun x hx => nomatch hx) hfX hkX hcellA (by rw [hhp, hT]; exact Nat.le_refl _) (msg := .ref sa) rfl
    (g := { method := m, pc := pc + 6, locals := ls, stack := .ref sa :: .ref T.heap.size :: .ref T.heap.size :: rest, locked := none }) rfl hsize rfl rfl (rest := rest) rfl
    (by rw [hb]; exact d6) (by rw [hb]; exact d9) hout hRframes (by simp only [List.map_cons, List.sum_cons, hcat]; omega) hlocks
  obtain ⟨f1, f2⟩ := vx_frame hsame
  rw [hhp] at f1 f2
  have hWs : s.WarmedH U.vm := State.WarmedH.trans hW0 hW
  have hcl : s.vm.findClass cls = some ce.cls := by
    have h9 := hO.cls
    rw [hvm] at h9
    exact h9
  have hall : s.sameButNew ({ U with vm := s.vm } : State) locs mc ms := by
    subst hA
    obtain ⟨e1, e2⟩ := hsame
    rw [State.setFrames_setFrames] at e1
    have h2 : (T.setVm s.vm).sameButNew ({ U with vm := s.vm } : State) [] (0 + 1) (0 + 6) := ⟨e1, e2⟩
    have h3 := X.same.trans h2
    rw [List.append_nil] at h3
    exact h3.mono hc hs
  refine ⟨U, ?_, .threw T.heap.size, hrun, hend, Or.inr ⟨T.heap.size, rfl, cls, ce, locs, hx U hWs.alike f1 (fun q hq => f2 q hq (fun z hz => nomatch hz)), hce, hO.vm, hcl, hWs, hall, hf⟩⟩
  refine st1 _ ?_
  show Steps p.tables e below (T1.setTop { method := m, pc := pc + 3, locals := ls, stack := .ref T.heap.size :: rest, locked := none }) _
  jvm_step X₁.here [X₁.here.top, hexec, d3', Value.category]
  exact X₁.ldcString hexec (own := own) (text := text) (index := is) (a := sa) hown' hstr'.1 hstr'.2
    (g := { method := m, pc := pc + 4, locals := ls, stack := .ref T.heap.size :: .ref T.heap.size :: rest, locked := none }) rfl d4' _ hsteps
/-- 'throw new E("text")', the text by a wide index -/
theorem vx_throwSW {cc : ByteArray} {pc : Nat} (hexec : p.tables.exec = Jvm.exec) (hb : c.code = cc) (hl : l.stackTraces = false) {own cls text : String} {names : List String} {ik is ic mc ms sa : Nat} {A : Nat → Prop}
    (hown : s.vm.findClass own = some m.cls) (hcls : Bundle.fit cls = true) (hnames : ∀ n ∈ names, Bundle.fit n = true)
    (hk : (Cond.classLink own ik cls).before args s = true) (hini : (Cond.initialized cls).before args s = true) (hstr : vk_R own is text sa s) (hat : ∀ w ∈ vx_atS own ic cls names, w.before args s = true)
    (hgood : ∀ w ∈ Cond.classLink own ik cls :: Cond.initialized cls :: vx_atS own ic cls names, vx_ot w = true)
    (hU : vx_Zq Bundle.tN "UNASSIGNED_STACK" Bundle.steD A s s.heap) (hN : vx_Zq Bundle.tN "SUPPRESSED_SENTINEL" Bundle.listD A s s.heap) (hS : va_S A s.heap H locs) (hsize : ls.size = c.maxLocals)
    (d0 : decode cc pc = .ok (.new ik, 3)) (d3 : decode cc (pc + 3) = .ok (.dup, 1)) (d4 : decode cc (pc + 4) = .ok (.ldc_w is, 3)) (d7 : decode cc (pc + 7) = .ok (.invokespecial ic, 3)) (d10 : decode cc (pc + 10) = .ok (.athrow, 1))
    (hout : ∀ x ∈ c.exceptionTable.toList, covers x (pc + 10) = false)
    (hRframes : names.length + 3 < R.frames) (hRlocals : (rest.map fun v => v.category).sum + (13 * (names.length + 1) + 43) ≤ R.locals) (hRcells : cells + 1 ≤ R.cells) (hRslots : slots + 6 ≤ R.slots) (hlocks : meth.locks = false)
    (hx : ∀ t : State, s.vm.Alike t.vm → H.size ≤ t.heap.size → (∀ q : Nat, q < H.size → t.heap[q]? = H[q]?) → XC cls s t)
    (hf : ∀ z ∈ locs, free z.base) (hc : cells + 1 ≤ mc) (hs : slots + 6 ≤ ms) :
    W p l e R s m args below meth c H locs cells slots (vx_MQ below Qc XC args s mc ms free) (F0 m pc ls rest) := by
  intro T hT X
  have htr : e.platform.stackTraces = false := (show e.platform.stackTraces = l.stackTraces by rw [X.admits.platform]).trans hl
  have Y := vx_rebase X (R' := { frames := R.frames, locals := R.locals, cells := 1, slots := 6 }) (Nat.le_refl _) (Nat.le_refl _) hRcells hRslots
  obtain ⟨s', hA⟩ : ∃ z, z = (T.setVm s.vm).setFrames (.invoking m args :: below) := ⟨_, rfl⟩
  rw [← hA] at Y
  have hvm : s'.vm = s.vm := by rw [hA]; rfl
  have hhp : s'.heap = H := by rw [hA]; exact hT
  have hW0 : s.WarmedH s'.vm := by rw [hvm]; exact State.WarmedH.refl s
  have hat' : ∀ w ∈ vx_atS own ic cls names, w.before args s' = true := fun w hw => vx_ot_at hW0 hvm.symm (hgood w (List.mem_cons_of_mem _ (List.mem_cons_of_mem _ hw))) (hat w hw)
  have hk' : (Cond.classLink own ik cls).before args s' = true := vx_ot_at hW0 hvm.symm (hgood _ List.mem_cons_self) hk
  have hini' : (Cond.initialized cls).before args s' = true := vx_ot_at hW0 hvm.symm (hgood _ (List.mem_cons_of_mem _ List.mem_cons_self)) hini
  have hU' : vx_Zq Bundle.tN "UNASSIGNED_STACK" Bundle.steD A s' s'.heap := by rw [hhp]; exact vx_Zq.moved hW0.alike (hU.kept hS.2.1)
  have hN' : vx_Zq Bundle.tN "SUPPRESSED_SENTINEL" Bundle.listD A s' s'.heap := by rw [hhp]; exact vx_Zq.moved hW0.alike (hN.kept hS.2.1)
  have h : ∀ w ∈ Bundle.ownAtoms own ic cls names, w.before args s' = true := vx_own hat' (vx_isRefq hU'.1) (vx_isRefq hN'.1) hU'.2.word hN'.2.word
  have hown' : s'.vm.findClass own = some m.cls := by rw [hvm]; exact hown
  have hins : (Cond.instantiable cls 6).before args s' = true := h _ (by simp [Bundle.ownAtoms])
  obtain ⟨vm₁, cX, kX, hfX, hkX, -, -, X₁, st1⟩ := Y.newCold hexec (own := own) (C := cls) (index := ik) (n := 6) hown' hk' hins hini'
    (g := F0 m pc ls rest) rfl (by rw [hb]; exact d0) (Nat.le_refl _) (Nat.le_refl _)
  generalize hT1 : (T.setVm vm₁).pushCell { cls := cX, slots := kX.instanceTypes.map defaultValue, vm := .none } = T1 at X₁ st1
  have hcat : (Value.ref T.heap.size).category = 1 := rfl
  have hcellA : T1.heap[T.heap.size]? = some (freshCell cX kX) := by rw [← hT1]; exact State.heap_pushCell_size _ _
  have d3' : decode c.code (pc + 3) = .ok (.dup, 1) := by rw [hb]; exact d3
  have d4' : decode c.code (pc + 4) = .ok (.ldc_w is, 3) := by rw [hb]; exact d4
  have hstr' : vk_R own is text sa s' := vk_R.warm hW0 hstr
  obtain ⟨U, hsteps, hrun, hend, hW, hsame, ce, hce, hO⟩ := X₁.ctorThrowS hexec htr (own := own) (cls := cls) (names := names) (ic := ic) hown' hcls hnames h (fun x hx => nomatch hx) hfX hkX hcellA (by rw [hhp, hT]; exact Nat.le_refl _) (msg := .ref sa) rfl
    (g := { method := m, pc := pc + 7, locals := ls, stack := .ref sa :: .ref T.heap.size :: .ref T.heap.size :: rest, locked := none }) rfl hsize rfl rfl (rest := rest) rfl
    (by rw [hb]; exact d7) (by rw [hb]; exact d10) hout hRframes (by simp only [List.map_cons, List.sum_cons, hcat]; omega) hlocks
  obtain ⟨f1, f2⟩ := vx_frame hsame
  rw [hhp] at f1 f2
  have hWs : s.WarmedH U.vm := State.WarmedH.trans hW0 hW
  have hcl : s.vm.findClass cls = some ce.cls := by
    have h9 := hO.cls
    rw [hvm] at h9
    exact h9
  have hall : s.sameButNew ({ U with vm := s.vm } : State) locs mc ms := by
    subst hA
    obtain ⟨e1, e2⟩ := hsame
    rw [State.setFrames_setFrames] at e1
    have h2 : (T.setVm s.vm).sameButNew ({ U with vm := s.vm } : State) [] (0 + 1) (0 + 6) := ⟨e1, e2⟩
    have h3 := X.same.trans h2
    rw [List.append_nil] at h3
    exact h3.mono hc hs
  refine ⟨U, ?_, .threw T.heap.size, hrun, hend, Or.inr ⟨T.heap.size, rfl, cls, ce, locs, hx U hWs.alike f1 (fun q hq => f2 q hq (fun z hz => nomatch hz)), hce, hO.vm, hcl, hWs, hall, hf⟩⟩
  refine st1 _ ?_
  show Steps p.tables e below (T1.setTop { method := m, pc := pc + 3, locals := ls, stack := .ref T.heap.size :: rest, locked := none }) _
  jvm_step X₁.here [X₁.here.top, hexec, d3', Value.category]
  exact X₁.ldcStringW hexec (own := own) (text := text) (index := is) (a := sa) hown' hstr'.1 hstr'.2
    (g := { method := m, pc := pc + 4, locals := ls, stack := .ref T.heap.size :: .ref T.heap.size :: rest, locked := none }) rfl d4' _ hsteps
end Ends
section Bodies
variable {l : Launch}
theorem vx_ofW {y : MethodName} {ws ws' : List Cond} {rm : Room} {Pc : Array Value → State → Prop} {Qc : Array Value → State → Outcome → State → Prop} {XC : String → State → State → Prop} {mc ms : Nat} {free : Addr → Prop} {cc : ByteArray} {maxL : Nat} {ret : Option FieldType}
    (hy : plainName y.cls = true) (hw : ws = Cond.code y cc maxL ret :: ws')
    (body : ∀ p e s m args below meth c s₁, BodyLoose p l y (headSpec ws rm) cc maxL ret e s m args below meth c s₁ → c.maxLocals = maxL → (∀ x ∈ c.exceptionTable.toList, False) → Pc args s →
      W p l e (headSpec ws rm).room s m args below meth c s.heap [] 0 0 (vx_MQ below Qc XC args s mc ms free) (entryFrame m args maxL)) : vx_Met l y ws rm Pc Qc XC mc ms free := by
  refine MetFree.of_bodyS (code := cc) (maxLocals := maxL) (ret := ret) hy ?_ ?_
  · intro args s m h hn
    obtain ⟨meth, c, h1, h2, h3, h4, h5, h6, -, -⟩ := Cond.code_spec hn (atoms_spec (ws := ws) h _ (by rw [hw]; exact List.mem_cons_self))
    exact ⟨meth, c, h1, h2, h3, h4, h5, h6⟩
  · intro p e s m args below meth c s₁ B hml hP _
    have hh0 : s₁.heap = s.heap := by rw [B.state]; rfl
    have ht : ∀ x ∈ c.exceptionTable.toList, False := by
      obtain ⟨meth9, c9, h1, h2, -, -, -, -, h7, -⟩ := Cond.code_spec B.named (atoms_spec (ws := ws) B.pre _ (by rw [hw]; exact List.mem_cons_self))
      cases Option.some.inj (h1.symm.trans B.method)
      cases Option.some.inj (h2.symm.trans (Stand.of_body B).code)
      intro x hx
      rw [Array.isEmpty_iff.mp h7] at hx
      cases hx
    obtain ⟨t, a1, o, b1, b2, b3⟩ := body p e s m args below meth c s₁ B hml ht hP s₁ hh0 (Stand.of_body B)
    exact ⟨t, o, a1, b1, b2, b3⟩
/-- the table of a body with handlers -/
theorem vx_table {p : Program} {x y : MethodName} {S : Spec} {cc bytes : ByteArray} {maxL maxL' : Nat} {ret ret' : Option FieldType} {e : Env} {s s₁ : State} {m : MethodId} {args : Array Value} {below : List Frame} {meth : Method} {c : Code} {hh : List (Nat × Nat × Nat × Nat)}
    (B : BodyLoose p l y S cc maxL ret e s m args below meth c s₁) (h : (Cond.codeWith y bytes maxL' ret' hh).before args s = true) : c.exceptionTable.toList = tableOf hh := by
  obtain ⟨m9, meth9, c9, hn9, h1, h2, -, -, h6, -⟩ := Cond.codeWith_spec h
  cases Option.some.inj (hn9.symm.trans B.named)
  cases Option.some.inj (h1.symm.trans B.method)
  cases Option.some.inj (h2.symm.trans (Stand.of_body B).code)
  rw [← h6, table_eq]
end Bodies
end VXA
/-! ===== END ===== -/
/-! ===== BEGIN a static call of a method with an exception table ===== -/
section VXS
variable {p : Program} {l : Launch} {e : Env} {R : Room} {s : State} {m : MethodId} {args : Array Value} {below : List Frame} {meth : Method} {c : Code} {T : State} {H : Heap} {locs : List Loc} {cells slots : Nat}
abbrev vx_CSW (R : Room) (s : State) (args : Array Value) (own : String) (index : Nat) (y : MethodName) (bytes : ByteArray) (maxL : Nat) (ret : Option FieldType) (hh : List (Nat × Nat × Nat × Nat)) (ws : List Cond) (rm : Room) (mc ms n : Nat) : Prop :=
  (rm.cells = mc ∧ rm.slots = ms ∧ rm.frames + 1 ≤ R.frames ∧ 8 + (maxL + 11) + rm.locals ≤ R.locals ∧ (∀ w ∈ ws, ∀ (a' : Array Value) (U : State), s.WarmedH U.vm → w.before a' U = true) ∧ Cond.codeWith y bytes maxL ret hh ∈ ws) ∧
  (Cond.codeWith y bytes maxL ret hh).before args s = true ∧ (Cond.initialized y.cls).before args s = true ∧ (y.cls ≠ "java/lang/invoke/MethodHandle" ∧ y.cls ≠ "java/lang/invoke/VarHandle") ∧
  (∀ sig, parseMethodDescriptor y.desc = some sig → n = sig.parameters.length) ∧ (Cond.methodLink own index y).before args s = true ∧ (Cond.static y).before args s = true
theorem vx_cwSW {own : String} {index maxL mc ms : Nat} {y : MethodName} {bytes : ByteArray} {ret : Option FieldType} {hh : List (Nat × Nat × Nat × Nat)} {Ts ws ws' : List Cond} {rm : Room} (n : Nat) (ht : ∀ w ∈ Ts, w.before args s = true) (hT : GoodIn Ts (va_wsS own index y ws)) (hw : ws = Cond.codeWith y bytes maxL ret hh :: ws') (hrc : rm.cells = mc) (hrs : rm.slots = ms)
    (hd : y.cls ≠ "java/lang/invoke/MethodHandle" ∧ y.cls ≠ "java/lang/invoke/VarHandle" ∧ (parseMethodDescriptor y.desc).map (fun d => d.parameters.length) = some n) (hR : rm.frames + 1 ≤ R.frames ∧ 8 + (maxL + 11) + rm.locals ≤ R.locals) :
    vx_CSW R s args own index y bytes maxL ret hh ws rm mc ms n := by
  have ok : ∀ w ∈ va_wsS own index y ws, w.before args s = true := fun w h => ht w (hT w h).1
  have hG : GoodIn Ts ws := fun w h => hT w (by unfold va_wsS; exact List.mem_append_right _ h)
  have hc : Cond.codeWith y bytes maxL ret hh ∈ ws := by rw [hw]; exact List.mem_cons_self
  refine ⟨⟨hrc, hrs, hR.1, hR.2, pay_in ht hG, hc⟩, ht _ (hG _ hc).1, ok _ (by simp [va_wsS]), ⟨hd.1, hd.2.1⟩, fun sig h => ?_, ok _ (by simp [va_wsS]), ok _ (by simp [va_wsS])⟩
  have h2 := hd.2.2
  rw [h] at h2
  exact (Option.some.inj h2).symm
theorem vx_callSW (X : Stand p l e R s m args below meth c T locs cells slots) (hexec : p.tables.exec = Jvm.exec) {own : String} {index : Nat} {y : MethodName} {bytes : ByteArray} {maxL : Nat} {ret : Option FieldType} {hh : List (Nat × Nat × Nat × Nat)}
    (hown : s.vm.findClass own = some m.cls) (hlink : (Cond.methodLink own index y).before args s = true) (hstat : (Cond.static y).before args s = true) (hinit : (Cond.initialized y.cls).before args s = true)
    (hcode : (Cond.codeWith y bytes maxL ret hh).before args s = true) (hy : y.cls ≠ "java/lang/invoke/MethodHandle" ∧ y.cls ≠ "java/lang/invoke/VarHandle")
    {W9 : Nat} {Pre : Pt → Array Value → Prop} {Post : Pt → Array Value → Option Value → Pt → Prop} (hK : Back l R p e below s args y 3 W9 Pre Post)
    {g : JFrame} (hg : g.method = m) (hsize : g.locals.size = c.maxLocals) {argsL rest : List Value} (hlen : ∀ sig, parseMethodDescriptor y.desc = some sig → argsL.length = sig.parameters.length)
    (hstack : g.stack = argsL.reverse ++ rest) (hW : 2 * g.monitorRoom + (rest.map fun v => v.category).sum ≤ W9) (hdg : decode c.code g.pc = .ok (.invokestatic index, 3))
    (hpre : ∀ vm₁, s.WarmedH vm₁ → Pre ⟨T.setVm vm₁, locs, cells, slots⟩ argsL.toArray) :
    ∃ (v : Option Value) (vm₁ : Vm) (B : Pt), s.WarmedH vm₁ ∧ Stand p l e R s m args below meth c B.U B.locs B.cells B.slots ∧ Post ⟨T.setVm vm₁, locs, cells, slots⟩ argsL.toArray v B ∧
      ∀ target, Steps p.tables e below (B.U.setTop { g with pc := g.pc + 3, stack := v.toList ++ rest }) target → Steps p.tables e below (T.setTop g) target := by
  obtain ⟨mk, methM, cM, hnamed, hmethM, -, -, -, -, -, -, hsigM⟩ := Cond.codeWith_spec hcode
  have hstatic : methM.isStatic = true := Cond.static_spec hnamed hmethM hstat
  obtain ⟨kP, hkP, -⟩ := className_of_methodNamed hnamed
  have hinitP : kP.init = .initialized := Cond.initialized_spec (findClass_of_methodNamed hnamed) hkP hinit
  obtain ⟨vm₁, X₁, hstep₁⟩ := X.invokestatic hexec hown hlink hnamed hmethM hstatic hkP hinitP hy (g := g) hg (argsL := argsL) (rest := rest) (hlen _ hsigM) hstack hdg
  obtain ⟨v, B, X', hpost, hsteps⟩ := hK m meth c ⟨T.setVm vm₁, locs, cells, slots⟩ { g with stack := rest } (.invokestatic index) mk argsL.toArray X₁ hg hsize hdg hW (X₁.named hnamed) (hpre vm₁ X₁.warmed)
  exact ⟨v, vm₁, B, X₁.warmed, X', hpost, fun target h => hstep₁ _ fun acts => by rw [doInvoke_state]; exact hsteps.trans h⟩
theorem vx_runSW {y : MethodName} {bytes cc : ByteArray} {maxL nL mc ms n index : Nat} {ret : Option FieldType} {hh : List (Nat × Nat × Nat × Nat)} {ws : List Cond} {rm : Room} {Pc : Array Value → State → Prop} {Qc : Array Value → State → Outcome → State → Prop} {free : Addr → Prop} {Ts : List Cond} {own : String} {As rest : List Value} {g : JFrame}
    (S : CallFix p m c cc nL s args Ts own) (hM : Met l y ws rm Pc Qc mc ms free) (cw : vx_CSW R s args own index y bytes maxL ret hh ws rm mc ms n) (hp : PreS s H Pc As)
    (hg : g.method = m) (hn : As.length = n) (hsize : g.locals.size = nL) (hstack : g.stack = As.reverse ++ rest) (hW : 2 * g.monitorRoom + (rest.map fun v => v.category).sum ≤ 8) (hdg : decode cc g.pc = .ok (.invokestatic index, 3)) (hf : cells + mc ≤ R.cells ∧ slots + ms ≤ R.slots) :
    va_Run p l e R s m args below meth c H locs cells slots mc ms g rest (Qc As.toArray) (free) := by
  obtain ⟨⟨hrc, hrs, hfr, hlo, hws, hcw⟩, hcode, hini, hy, hlen, hl, hstt⟩ := cw
  have hK : Back l R p e below s args y 3 8 (PreOf R mc ms Pc) (PostOf Qc mc ms free) := va_backW (hh := hh) (bytes := bytes) (maxL := maxL) (ret := ret) hM hp.1 hrc hrs hfr hlo hws hcw (fun a' U hW => word_at hW (Or.inl (by first | rfl | simp [Cond.onTables, Cond.keeps, Cond.steady])) hini)
  obtain ⟨hx, hb, hml, ho, -⟩ := S
  intro T hT X
  obtain ⟨v, vm₁, ⟨U', l2, c2, s2⟩, hW₁, X', ⟨g', mk, t, L, e1, e2, hq, h1, hL, h2, h3⟩, st⟩ := vx_callSW X hx (hh := hh) (bytes := bytes) (maxL := maxL) (ret := ret) ho hl hstt hini hcode hy hK hg (hsize.trans hml.symm) (argsL := As) (rest := rest) (fun sig h => hn.trans (hlen sig h)) hstack hW (by rw [hb]; exact hdg)
    (fun vm₁ hW₁ => ⟨hf.1, hf.2, hp.2 (T.setVm vm₁) hT hW₁⟩)
  dsimp only [Pt.U, Pt.locs, Pt.cells, Pt.slots] at X' e1 e2 h1 h2 h3 st
  subst h1; subst h2; subst h3
  exact ⟨v, (T.setVm vm₁).calling g' mk As.toArray, t, U', L, hT, X', hL, e1, e2, hq, st⟩
/-- not caught here, past rows that name other classes: it goes on to the caller -/
theorem vx_outP {p : Program} {l : Launch} {e : Env} {R : Room} {s : State} {m : MethodId} {args : Array Value} {below : List Frame} {meth : Method} {c : Code} {H : Heap} {locs : List Loc} {cells slots : Nat} {free : Addr → Prop} {ls : Array Slot} {rest : List Value} {Qc : Array Value → State → Outcome → State → Prop} {XC : String → State → State → Prop}
    {pc : Nat} {own E : String} {ce : Cell} {q : Addr} {mc ms : Nat} (hown : s.vm.findClass own = some m.cls) (hlocks : meth.locks = false)
    (hpass : ∀ z ∈ c.exceptionTable.toList, covers z pc = false ∨ (z.catchType ≠ 0 ∧ ∃ nm : String, (Cond.classLink own z.catchType nm).before args s = true ∧ va_Nc E nm s)) (hcell : H[q]? = some ce) (hv : ce.vm = .none) (hcl : s.vm.findClass E = some ce.cls)
    (hx : ∀ t : State, t.heap = H → s.vm.Alike t.vm → XC E s t) (hf : ∀ z ∈ locs, free z.base) (hc : cells ≤ mc) (hs : slots ≤ ms) :
    vx_W p l e R s m args below meth c H locs cells slots (vx_MQ below Qc XC args s mc ms free) (F0 m pc ls rest) q := by
  intro T hT X
  have hpl : e.platform.magicAccessors = ({} : Platform).magicAccessors := by rw [X.admits.platform]
  obtain ⟨vm', hW', X', st⟩ := X.outThrough hlocks q (g := F0 m pc ls rest) rfl rfl rfl (cell := ce) (by rw [hT]; exact hcell) (by rw [hv]; rfl)
    (by obtain ⟨k9, h9, -⟩ := Vm.findClass_spec hcl; exact ⟨k9, h9⟩) (fun z hz => by
      rcases hpass z hz with h | ⟨hz0, nm, hl1, hn1⟩
      · exact Or.inl h
      · obtain ⟨c6, hc6, hcl6⟩ := Cond.classLink_spec hown hl1 e.platform hpl
        obtain ⟨a8, b8, h1, h2, h3⟩ := hn1
        cases Option.some.inj (h1.symm.trans hcl)
        cases Option.some.inj (h2.symm.trans hc6)
        exact Or.inr ⟨hz0, _, hcl6, h3⟩)
  obtain ⟨g₀, hfr⟩ := X'.frames_eq
  have hcell9 : ((T.setVm vm').setFrames (.throwing q :: below)).heap[q]? = some ce := by
    show T.heap[q]? = some ce
    rw [hT]; exact hcell
  have hend : Ended ((T.setVm vm').setFrames (.throwing q :: below)) below (.threw q) := State.frames_setFrames _ (State.cur_lt_of_frames hfr)
  refine ⟨(T.setVm vm').setFrames (.throwing q :: below), ?_, .threw q, X'.here.running, hend, Or.inr ⟨q, rfl, E, ce, locs, hx _ hT (X'.ends _).1.alike, hcell9, hv, hcl, (X'.ends _).1, (X'.ends _).2.mono hc hs, hf⟩⟩
  rw [X.pushThrowing_eq]
  exact st
/-- a thing of a world lies in the heap -/
theorem vx_lt {D : va_G} {cl : List vw_C} {ws : va_W} {H1 : Heap} (h : va_P D cl ws H1) {k : Nat} {q : Nat × va_E} (hk : ws[k]? = some q) : q.1 < H1.size := (h k q hk).lt
end VXS
/-! ===== END ===== -/
/-! ===== BEGIN methods with a table of their own: called by a name, returning or throwing ===== -/
section VXH
/-! vx_backW, vx_callVX, vx_callSX, vx_callVW, vx_runVW, vx_runVX, vx_runSX, vx_ofWH follow the same proofs as their sisters above (Free/Laws.lean, Shelf42/LK1.lean); vx_outP calls Shelf42/NT130.lean (outThrough). -/
section
variable {l : Launch} {R : Room} {p : Program} {e : Env} {below : List Frame} {s : State} {sargs : Array Value} {y : MethodName} {len W9 : Nat}
theorem vx_backW {ws : List Cond} {rm : Room} {Pc : Array Value → State → Prop} {Qc : Array Value → State → Outcome → State → Prop} {XC : String → State → State → Prop} {mc ms : Nat} {free : Addr → Prop} {bytes : ByteArray} {maxL : Nat} {ret : Option FieldType} {hh : List (Nat × Nat × Nat × Nat)}
    (hM : vx_Met l y ws rm Pc Qc XC mc ms free) (hblind : FrameBlind Pc) (hrc : rm.cells = mc) (hrs : rm.slots = ms)
    (hframes : rm.frames + 1 ≤ R.frames) (hlocals : W9 + (maxL + 11) + rm.locals ≤ R.locals)
    (hws : ∀ w ∈ ws, ∀ a' U, s.WarmedH U.vm → w.before a' U = true) (hcode : Cond.codeWith y bytes maxL ret hh ∈ ws) (hinit : ∀ a' U, s.WarmedH U.vm → (Cond.initialized y.cls).before a' U = true) :
    vx_Back l R p e below s sargs y len W9 (PreOf R mc ms Pc) (PostOf Qc mc ms free) (vx_Post XC mc ms free) := by
  intro m meth c A g ig mk a X hg hsize hdg hW hn hp
  have h1 : (headSpec ws rm).pre.before a A.U = true := atoms_intro fun w hw => hws w hw _ _ X.warmed
  have h2 : (Cond.codeWith y bytes maxL ret hh).before a A.U = true := hws _ hcode _ _ X.warmed
  have h3 : (Cond.initialized y.cls).before a A.U = true := hinit _ _ X.warmed
  have h4 : A.cells + (headSpec ws rm).room.cells ≤ R.cells := by rw [show (headSpec ws rm).room.cells = mc from hrc]; exact hp.1
  have h5 : A.slots + (headSpec ws rm).room.slots ≤ R.slots := by rw [show (headSpec ws rm).room.slots = ms from hrs]; exact hp.2.1
  have hPc : Pc a (A.U.calling g mk a) := hblind _ _ _ _ hp.2.2
  obtain ⟨U, Ls, c0, s0⟩ := A
  dsimp only [Pt.U, Pt.locs, Pt.cells, Pt.slots] at h1 h2 h3 h4 h5 X hn hPc ⊢
  obtain ⟨m9, methY, cY, hn9, hmY, hcY, -, hlY, -⟩ := Cond.codeWith_spec h2
  cases Option.some.inj (hn9.symm.trans hn)
  obtain ⟨kY, hkY, -⟩ := className_of_methodNamed hn
  have hinitY : kY.init = .initialized := Cond.initialized_spec (findClass_of_methodNamed hn) hkY h3
  have h : At U g.method c below := by rw [hg]; exact X.here
  have hlocals9 : W9 + (maxL + 11) + (headSpec ws rm).room.locals ≤ R.locals := hlocals
  have happ : (headSpec ws rm).appliesLoose y e.platform (U.calling g mk a) = true :=
    Spec.appliesLoose_calling (g := g) h hdg hn hkY hinitY
      (X.room_calling (g := g) (R' := (headSpec ws rm).room) hsize hmY hcY hframes (by rw [hlY]; omega) h4 h5) h1
  obtain ⟨mid, hmid⟩ := h.above
  have hfr : (U.setTop g).frames = (.java g :: mid) ++ below := by rw [State.frames_setTop' g h.top, hmid]; rfl
  obtain ⟨o, s₂, hsteps, -, hend, hq⟩ := Steps.callFree hM p X.admits X.cas X.clock (acts := []) hfr happ hPc trivial
  have hq' : vx_Q Qc XC mc ms free a (U.calling g mk a) o s₂ := hq
  rw [State.frames_setTop' g h.top] at hend
  obtain ⟨g₀, hg0⟩ := Option.isSome_iff_exists.mp h.top
  obtain ⟨r, hr⟩ := State.topJava?_eq_some.mp hg0
  have hr' : (({ U with heap := s₂.heap, slotsUsed := s₂.slotsUsed } : State).setVm s₂.vm).frames = .java g₀ :: r := hr
  rcases hq' with ⟨hqc, L, hfe, hL⟩ | ⟨q, rfl, E, ce, L, hx, hce, hcv, hcl, hW₂, hsm, hL⟩
  · obtain ⟨⟨v, rfl⟩, hW₂, e2, q2, q3, q4, q5, q6⟩ := id hfe
    have e3 : s₂ = ({ (U.calling g mk a).setFrames s₂.frames with heap := s₂.heap, slotsUsed := s₂.slotsUsed } : State).setVm s₂.vm := by
      have : s₂ = ({ s₂ with vm := (U.calling g mk a).vm } : State).setVm s₂.vm := rfl
      rw [e2] at this
      exact this
    obtain ⟨c₂, i₂, len₂, hc₂, hd₂, hf₂⟩ := hend
    have hW' : U.WarmedH s₂.vm := hW₂
    have hcc : c₂ = c := by
      have h1 : s₂.code? g.method = U.code? g.method := by
        rw [State.code?_eq, State.code?_eq, hW'.alike.method?]
      exact Option.some.inj (hc₂.symm.trans (h1.trans h.code))
    subst hcc
    have hlen : len₂ = len := by rw [hdg] at hd₂; cases hd₂; rfl
    subst hlen
    have hs₂ : s₂ = (({ U with heap := s₂.heap, slotsUsed := s₂.slotsUsed } : State).setVm s₂.vm).setTop { g with pc := g.pc + len₂, stack := v.toList ++ g.stack } := by
      refine e3.trans ?_
      rw [hf₂, State.calling_eq h.top, State.setFrames_setFrames, State.setTop_of_frames _ hr', hr]
      rfl
    have hsame : U.sameButNew ({ U with heap := s₂.heap, slotsUsed := s₂.slotsUsed } : State) L mc ms := by
      refine ⟨?_, q2, q3, q4, q5, q6⟩
      obtain ⟨t, ht, -⟩ := State.frames_cons hr
      show ({ U with heap := s₂.heap, slotsUsed := s₂.slotsUsed } : State) = { U.setFrames U.frames with heap := s₂.heap, slotsUsed := s₂.slotsUsed }
      rw [State.setFrames_self ht]
    subst hg
    refine Or.inl ⟨v, ⟨(({ U with heap := s₂.heap, slotsUsed := s₂.slotsUsed } : State).setVm s₂.vm), Ls ++ L, c0 + mc, s0 + ms⟩,
      ⟨X.admits, X.cas, X.clock, X.frames, X.room, X.hears, X.method, X.code, (X.here.setHeapUsed s₂.heap s₂.slotsUsed).setVm hW'.alike, X.tail, State.WarmedH.trans X.warmed hW', X.limits, X.bytes, X.same.trans (hsame.setVm s.vm)⟩,
      ⟨g, mk, s₂, L, rfl, rfl, hqc, rfl, hL, rfl, rfl⟩, ?_⟩
    show Steps p.tables e below _ ((({ U with heap := s₂.heap, slotsUsed := s₂.slotsUsed } : State).setVm s₂.vm).setTop { g with pc := g.pc + len₂, stack := v.toList ++ g.stack })
    rw [← hs₂]
    exact hsteps
  · obtain ⟨e2, q2, q3, q4, q5, q6⟩ := id hsm
    have e3 : s₂ = ({ (U.calling g mk a).setFrames s₂.frames with heap := s₂.heap, slotsUsed := s₂.slotsUsed } : State).setVm s₂.vm := by
      have : s₂ = ({ s₂ with vm := (U.calling g mk a).vm } : State).setVm s₂.vm := rfl
      rw [e2] at this
      exact this
    have hf₂ : s₂.frames = .throwing q :: .java g :: U.frames.tail := hend
    have hW' : U.WarmedH s₂.vm := hW₂
    have hs₂ : s₂ = ((({ U with heap := s₂.heap, slotsUsed := s₂.slotsUsed } : State).setVm s₂.vm).setTop g).pushFrame (.throwing q) := by
      refine e3.trans ?_
      rw [hf₂, State.calling_eq h.top, State.setFrames_setFrames, State.pushFrame, State.frames_setTop _ hr', State.setTop_of_frames _ hr', State.setFrames_setFrames, hr]
      rfl
    have hsame : U.sameButNew ({ U with heap := s₂.heap, slotsUsed := s₂.slotsUsed } : State) L mc ms := by
      refine ⟨?_, q2, q3, q4, q5, q6⟩
      obtain ⟨t, ht, -⟩ := State.frames_cons hr
      show ({ U with heap := s₂.heap, slotsUsed := s₂.slotsUsed } : State) = { U.setFrames U.frames with heap := s₂.heap, slotsUsed := s₂.slotsUsed }
      rw [State.setFrames_self ht]
    subst hg
    refine Or.inr ⟨q, ⟨(({ U with heap := s₂.heap, slotsUsed := s₂.slotsUsed } : State).setVm s₂.vm), Ls ++ L, c0 + mc, s0 + ms⟩,
      ⟨X.admits, X.cas, X.clock, X.frames, X.room, X.hears, X.method, X.code, (X.here.setHeapUsed s₂.heap s₂.slotsUsed).setVm hW'.alike, X.tail, State.WarmedH.trans X.warmed hW', X.limits, X.bytes, X.same.trans (hsame.setVm s.vm)⟩,
      ⟨g, mk, s₂, L, E, ce, rfl, rfl, hx, hce, hcv, hcl, rfl, hL, rfl, rfl⟩, ?_⟩
    show Steps p.tables e below _ (((({ U with heap := s₂.heap, slotsUsed := s₂.slotsUsed } : State).setVm s₂.vm).setTop g).pushFrame (.throwing q))
    rw [← hs₂]
    exact hsteps
end
variable {p : Program} {l : Launch} {e : Env} {R : Room} {s : State} {m : MethodId} {args : Array Value} {below : List Frame} {meth : Method} {c : Code} {T : State} {H : Heap} {locs : List Loc} {cells slots : Nat}
theorem vx_callVX (X : Stand p l e R s m args below meth c T locs cells slots) (hexec : p.tables.exec = Jvm.exec) {own C : String} {index : Nat} {y : MethodName} {bytes : ByteArray} {maxL : Nat} {ret : Option FieldType} {hh : List (Nat × Nat × Nat × Nat)}
    (hown : s.vm.findClass own = some m.cls) (hlink : (Cond.methodLink own index y).before args s = true) (hinst : (Cond.instanceMethod y).before args s = true) (hsel : (Cond.selects C y y).before args s = true)
    (hcode : (Cond.codeWith y bytes maxL ret hh).before args s = true) (hy : y.cls ≠ "java/lang/invoke/MethodHandle" ∧ y.cls ≠ "java/lang/invoke/VarHandle")
    {W9 : Nat} {Pre : Pt → Array Value → Prop} {Post : Pt → Array Value → Option Value → Pt → Prop} {PostX : Pt → Array Value → Addr → Pt → Prop} (hK : vx_Back l R p e below s args y 3 W9 Pre Post PostX)
    {b : Addr} {cellB : Cell} (hcell : T.heap[b]? = some cellB) (hobj : cellB.vm.isStatics = false) (hcls : s.vm.findClass C = some cellB.cls)
    {g : JFrame} (hg : g.method = m) (hsize : g.locals.size = c.maxLocals) {argsL rest : List Value} (hlen : ∀ sig, parseMethodDescriptor y.desc = some sig → argsL.length = sig.parameters.length)
    (hstack : g.stack = argsL.reverse ++ .ref b :: rest) (hW : 2 * g.monitorRoom + (rest.map fun v => v.category).sum ≤ W9) (hdg : decode c.code g.pc = .ok (.invokevirtual index, 3))
    (hpre : ∀ vm₁, s.WarmedH vm₁ → Pre ⟨T.setVm vm₁, locs, cells, slots⟩ (Value.ref b :: argsL).toArray) :
    (∃ (v : Option Value) (vm₁ : Vm) (B : Pt), s.WarmedH vm₁ ∧ Stand p l e R s m args below meth c B.U B.locs B.cells B.slots ∧ Post ⟨T.setVm vm₁, locs, cells, slots⟩ (Value.ref b :: argsL).toArray v B ∧
      ∀ target, Steps p.tables e below (B.U.setTop { g with pc := g.pc + 3, stack := v.toList ++ rest }) target → Steps p.tables e below (T.setTop g) target) ∨
    (∃ (q : Addr) (vm₁ : Vm) (B : Pt), s.WarmedH vm₁ ∧ Stand p l e R s m args below meth c B.U B.locs B.cells B.slots ∧ PostX ⟨T.setVm vm₁, locs, cells, slots⟩ (Value.ref b :: argsL).toArray q B ∧
      Steps p.tables e below (T.setTop g) ((B.U.setTop { g with stack := rest }).pushFrame (.throwing q))) := by
  obtain ⟨mk, methM, hnamed, hmethM, hstM, habM⟩ := Cond.instanceMethod_spec hinst
  obtain ⟨m8, methM', cM, hn8, hmethM', -, -, -, -, -, -, hsigM⟩ := Cond.codeWith_spec hcode
  cases Option.some.inj (hn8.symm.trans hnamed)
  cases hmethM.symm.trans hmethM'
  obtain ⟨c2, r2, m2, q1, q2, q3, q4, kP, hkP, hkPi⟩ := Cond.selects_spec hsel
  cases hcls.symm.trans q1
  cases (State.methodFound?_of_named hnamed hy).symm.trans q2
  cases hnamed.symm.trans q3
  have hselP : selectMethod e.platform s.vm cellB.cls mk = .method mk := by rw [Launch.admits_selectMethod X.admits]; exact q4
  obtain ⟨vm₁, X₁, hstep₁⟩ := X.invokevirtual hexec hown hlink hnamed hmethM hstM hkP hkPi hy (a := b) (cell := cellB) hcell
    (fun z h => by rw [h] at hobj; cases hobj) hselP hmethM habM hkP hkPi (g := g) hg (argsL := argsL) (rest := rest) (hlen _ hsigM) hstack hdg
  rcases hK m meth c ⟨T.setVm vm₁, locs, cells, slots⟩ { g with stack := rest } (.invokevirtual index) mk (Value.ref b :: argsL).toArray X₁ hg hsize hdg hW (X₁.named hnamed) (hpre vm₁ X₁.warmed) with ⟨v, B, X', hpost, hsteps⟩ | ⟨q, B, X', hpost, hsteps⟩
  · exact Or.inl ⟨v, vm₁, B, X₁.warmed, X', hpost, fun target h => hstep₁ _ fun acts => by rw [doInvoke_state]; exact hsteps.trans h⟩
  · exact Or.inr ⟨q, vm₁, B, X₁.warmed, X', hpost, hstep₁ _ fun acts => by rw [doInvoke_state]; exact hsteps⟩
theorem vx_callSX (X : Stand p l e R s m args below meth c T locs cells slots) (hexec : p.tables.exec = Jvm.exec) {own : String} {index : Nat} {y : MethodName} {bytes : ByteArray} {maxL : Nat} {ret : Option FieldType} {hh : List (Nat × Nat × Nat × Nat)}
    (hown : s.vm.findClass own = some m.cls) (hlink : (Cond.methodLink own index y).before args s = true) (hstat : (Cond.static y).before args s = true) (hinit : (Cond.initialized y.cls).before args s = true)
    (hcode : (Cond.codeWith y bytes maxL ret hh).before args s = true) (hy : y.cls ≠ "java/lang/invoke/MethodHandle" ∧ y.cls ≠ "java/lang/invoke/VarHandle")
    {W9 : Nat} {Pre : Pt → Array Value → Prop} {Post : Pt → Array Value → Option Value → Pt → Prop} {PostX : Pt → Array Value → Addr → Pt → Prop} (hK : vx_Back l R p e below s args y 3 W9 Pre Post PostX)
    {g : JFrame} (hg : g.method = m) (hsize : g.locals.size = c.maxLocals) {argsL rest : List Value} (hlen : ∀ sig, parseMethodDescriptor y.desc = some sig → argsL.length = sig.parameters.length)
    (hstack : g.stack = argsL.reverse ++ rest) (hW : 2 * g.monitorRoom + (rest.map fun v => v.category).sum ≤ W9) (hdg : decode c.code g.pc = .ok (.invokestatic index, 3))
    (hpre : ∀ vm₁, s.WarmedH vm₁ → Pre ⟨T.setVm vm₁, locs, cells, slots⟩ argsL.toArray) :
    (∃ (v : Option Value) (vm₁ : Vm) (B : Pt), s.WarmedH vm₁ ∧ Stand p l e R s m args below meth c B.U B.locs B.cells B.slots ∧ Post ⟨T.setVm vm₁, locs, cells, slots⟩ argsL.toArray v B ∧
      ∀ target, Steps p.tables e below (B.U.setTop { g with pc := g.pc + 3, stack := v.toList ++ rest }) target → Steps p.tables e below (T.setTop g) target) ∨
    (∃ (q : Addr) (vm₁ : Vm) (B : Pt), s.WarmedH vm₁ ∧ Stand p l e R s m args below meth c B.U B.locs B.cells B.slots ∧ PostX ⟨T.setVm vm₁, locs, cells, slots⟩ argsL.toArray q B ∧
      Steps p.tables e below (T.setTop g) ((B.U.setTop { g with stack := rest }).pushFrame (.throwing q))) := by
  obtain ⟨mk, methM, cM, hnamed, hmethM, -, -, -, -, -, -, hsigM⟩ := Cond.codeWith_spec hcode
  have hstatic : methM.isStatic = true := Cond.static_spec hnamed hmethM hstat
  obtain ⟨kP, hkP, -⟩ := className_of_methodNamed hnamed
  have hinitP : kP.init = .initialized := Cond.initialized_spec (findClass_of_methodNamed hnamed) hkP hinit
  obtain ⟨vm₁, X₁, hstep₁⟩ := X.invokestatic hexec hown hlink hnamed hmethM hstatic hkP hinitP hy (g := g) hg (argsL := argsL) (rest := rest) (hlen _ hsigM) hstack hdg
  rcases hK m meth c ⟨T.setVm vm₁, locs, cells, slots⟩ { g with stack := rest } (.invokestatic index) mk argsL.toArray X₁ hg hsize hdg hW (X₁.named hnamed) (hpre vm₁ X₁.warmed) with ⟨v, B, X', hpost, hsteps⟩ | ⟨q, B, X', hpost, hsteps⟩
  · exact Or.inl ⟨v, vm₁, B, X₁.warmed, X', hpost, fun target h => hstep₁ _ fun acts => by rw [doInvoke_state]; exact hsteps.trans h⟩
  · exact Or.inr ⟨q, vm₁, B, X₁.warmed, X', hpost, hstep₁ _ fun acts => by rw [doInvoke_state]; exact hsteps⟩
theorem vx_callVW (X : Stand p l e R s m args below meth c T locs cells slots) (hexec : p.tables.exec = Jvm.exec) {own C : String} {index : Nat} {y : MethodName} {bytes : ByteArray} {maxL : Nat} {ret : Option FieldType} {hh : List (Nat × Nat × Nat × Nat)}
    (hown : s.vm.findClass own = some m.cls) (hlink : (Cond.methodLink own index y).before args s = true) (hinst : (Cond.instanceMethod y).before args s = true) (hsel : (Cond.selects C y y).before args s = true)
    (hcode : (Cond.codeWith y bytes maxL ret hh).before args s = true) (hy : y.cls ≠ "java/lang/invoke/MethodHandle" ∧ y.cls ≠ "java/lang/invoke/VarHandle")
    {W9 : Nat} {Pre : Pt → Array Value → Prop} {Post : Pt → Array Value → Option Value → Pt → Prop} (hK : Back l R p e below s args y 3 W9 Pre Post)
    {b : Addr} {cellB : Cell} (hcell : T.heap[b]? = some cellB) (hobj : cellB.vm.isStatics = false) (hcls : s.vm.findClass C = some cellB.cls)
    {g : JFrame} (hg : g.method = m) (hsize : g.locals.size = c.maxLocals) {argsL rest : List Value} (hlen : ∀ sig, parseMethodDescriptor y.desc = some sig → argsL.length = sig.parameters.length)
    (hstack : g.stack = argsL.reverse ++ .ref b :: rest) (hW : 2 * g.monitorRoom + (rest.map fun v => v.category).sum ≤ W9) (hdg : decode c.code g.pc = .ok (.invokevirtual index, 3))
    (hpre : ∀ vm₁, s.WarmedH vm₁ → Pre ⟨T.setVm vm₁, locs, cells, slots⟩ (Value.ref b :: argsL).toArray) :
    ∃ (v : Option Value) (vm₁ : Vm) (B : Pt), s.WarmedH vm₁ ∧ Stand p l e R s m args below meth c B.U B.locs B.cells B.slots ∧ Post ⟨T.setVm vm₁, locs, cells, slots⟩ (Value.ref b :: argsL).toArray v B ∧
      ∀ target, Steps p.tables e below (B.U.setTop { g with pc := g.pc + 3, stack := v.toList ++ rest }) target → Steps p.tables e below (T.setTop g) target := by
  obtain ⟨mk, methM, hnamed, hmethM, hstM, habM⟩ := Cond.instanceMethod_spec hinst
  obtain ⟨m8, methM', cM, hn8, hmethM', -, -, -, -, -, -, hsigM⟩ := Cond.codeWith_spec hcode
  cases Option.some.inj (hn8.symm.trans hnamed)
  cases hmethM.symm.trans hmethM'
  obtain ⟨c2, r2, m2, q1, q2, q3, q4, kP, hkP, hkPi⟩ := Cond.selects_spec hsel
  cases hcls.symm.trans q1
  cases (State.methodFound?_of_named hnamed hy).symm.trans q2
  cases hnamed.symm.trans q3
  have hselP : selectMethod e.platform s.vm cellB.cls mk = .method mk := by rw [Launch.admits_selectMethod X.admits]; exact q4
  obtain ⟨vm₁, X₁, hstep₁⟩ := X.invokevirtual hexec hown hlink hnamed hmethM hstM hkP hkPi hy (a := b) (cell := cellB) hcell
    (fun z h => by rw [h] at hobj; cases hobj) hselP hmethM habM hkP hkPi (g := g) hg (argsL := argsL) (rest := rest) (hlen _ hsigM) hstack hdg
  obtain ⟨v, B, X', hpost, hsteps⟩ := hK m meth c ⟨T.setVm vm₁, locs, cells, slots⟩ { g with stack := rest } (.invokevirtual index) mk (Value.ref b :: argsL).toArray X₁ hg hsize hdg hW (X₁.named hnamed) (hpre vm₁ X₁.warmed)
  exact ⟨v, vm₁, B, X₁.warmed, X', hpost, fun target h => hstep₁ _ fun acts => by rw [doInvoke_state]; exact hsteps.trans h⟩
abbrev vx_CVW (R : Room) (s : State) (args : Array Value) (own C : String) (index : Nat) (y : MethodName) (bytes : ByteArray) (maxL : Nat) (ret : Option FieldType) (hh : List (Nat × Nat × Nat × Nat)) (ws : List Cond) (rm : Room) (mc ms n : Nat) : Prop :=
  (rm.cells = mc ∧ rm.slots = ms ∧ rm.frames + 1 ≤ R.frames ∧ 8 + (maxL + 11) + rm.locals ≤ R.locals ∧ (∀ w ∈ ws, ∀ (a' : Array Value) (U : State), s.WarmedH U.vm → w.before a' U = true) ∧ Cond.codeWith y bytes maxL ret hh ∈ ws) ∧
  (Cond.codeWith y bytes maxL ret hh).before args s = true ∧ (Cond.initialized y.cls).before args s = true ∧ (y.cls ≠ "java/lang/invoke/MethodHandle" ∧ y.cls ≠ "java/lang/invoke/VarHandle") ∧
  (∀ sig, parseMethodDescriptor y.desc = some sig → n = sig.parameters.length) ∧ (Cond.methodLink own index y).before args s = true ∧ (Cond.instanceMethod y).before args s = true ∧ (Cond.selects C y y).before args s = true
theorem vx_cwVW {own C : String} {index maxL mc ms : Nat} {y : MethodName} {bytes : ByteArray} {ret : Option FieldType} {hh : List (Nat × Nat × Nat × Nat)} {Ts ws ws' : List Cond} {rm : Room} (n : Nat) (ht : ∀ w ∈ Ts, w.before args s = true) (hT : GoodIn Ts (wsV own index C y ws)) (hw : ws = Cond.codeWith y bytes maxL ret hh :: ws') (hrc : rm.cells = mc) (hrs : rm.slots = ms)
    (hd : y.cls = C ∧ y.cls ≠ "java/lang/invoke/MethodHandle" ∧ y.cls ≠ "java/lang/invoke/VarHandle" ∧ (parseMethodDescriptor y.desc).map (fun d => d.parameters.length) = some n) (hR : rm.frames + 1 ≤ R.frames ∧ 8 + (maxL + 11) + rm.locals ≤ R.locals) :
    vx_CVW R s args own C index y bytes maxL ret hh ws rm mc ms n := by
  obtain ⟨hC, hd⟩ := hd
  subst hC
  have ok : ∀ w ∈ wsV own index y.cls y ws, w.before args s = true := fun w h => ht w (hT w h).1
  have hG : GoodIn Ts ws := fun w h => hT w (by unfold wsV; exact List.mem_append_right _ h)
  have hc : Cond.codeWith y bytes maxL ret hh ∈ ws := by rw [hw]; exact List.mem_cons_self
  refine ⟨⟨hrc, hrs, hR.1, hR.2, pay_in ht hG, hc⟩, ht _ (hG _ hc).1, ok _ (by simp [wsV]), ⟨hd.1, hd.2.1⟩, fun sig h => ?_, ok _ (by simp [wsV]), ok _ (by simp [wsV]), ok _ (by simp [wsV])⟩
  have h2 := hd.2.2
  rw [h] at h2
  exact (Option.some.inj h2).symm
theorem vx_runVW {y : MethodName} {bytes cc : ByteArray} {maxL nL mc ms n index : Nat} {ret : Option FieldType} {hh : List (Nat × Nat × Nat × Nat)} {ws : List Cond} {rm : Room} {Pc : Array Value → State → Prop} {Qc : Array Value → State → Outcome → State → Prop} {free : Addr → Prop} {Ts : List Cond} {own C : String} {b : Addr} {As rest : List Value} {g : JFrame}
    (S : CallFix p m c cc nL s args Ts own) (hM : Met l y ws rm Pc Qc mc ms free) (cw : vx_CVW R s args own C index y bytes maxL ret hh ws rm mc ms n) (hp : PreV s H C b Pc As)
    (hg : g.method = m) (hn : As.length = n) (hsize : g.locals.size = nL) (hstack : g.stack = As.reverse ++ .ref b :: rest) (hW : 2 * g.monitorRoom + (rest.map fun v => v.category).sum ≤ 8) (hdg : decode cc g.pc = .ok (.invokevirtual index, 3)) (hf : cells + mc ≤ R.cells ∧ slots + ms ≤ R.slots) :
    va_Run p l e R s m args below meth c H locs cells slots mc ms g rest (Qc (Value.ref b :: As).toArray) free := by
  obtain ⟨⟨hrc, hrs, hfr, hlo, hws, hcw⟩, hcode, hini, hy, hlen, hl, hin, hse⟩ := cw
  have hK : Back l R p e below s args y 3 8 (PreOf R mc ms Pc) (PostOf Qc mc ms free) := va_backW (hh := hh) (bytes := bytes) (maxL := maxL) (ret := ret) hM hp.1 hrc hrs hfr hlo hws hcw (fun a' U hW => word_at hW (Or.inl (by first | rfl | simp [Cond.onTables, Cond.keeps, Cond.steady])) hini)
  obtain ⟨hx, hb, hml, ho, -⟩ := S
  obtain ⟨-, ⟨cellB, hcB, hoB, hclB⟩, hPc⟩ := hp
  intro T hT X
  obtain ⟨v, vm₁, ⟨U', l2, c2, s2⟩, hW₁, X', ⟨g', mk, t, L, e1, e2, hq, h1, hL, h2, h3⟩, st⟩ := vx_callVW X hx (C := C) (hh := hh) (bytes := bytes) (maxL := maxL) (ret := ret) ho hl hin hse hcode hy hK (by rw [hT]; exact hcB) hoB hclB hg (hsize.trans hml.symm) (argsL := As) (rest := rest) (fun sig h => hn.trans (hlen sig h)) hstack hW (by rw [hb]; exact hdg)
    (fun vm₁ hW₁ => ⟨hf.1, hf.2, hPc (T.setVm vm₁) hT hW₁⟩)
  dsimp only [Pt.U, Pt.locs, Pt.cells, Pt.slots] at X' e1 e2 h1 h2 h3 st
  subst h1; subst h2; subst h3
  exact ⟨v, (T.setVm vm₁).calling g' mk (Value.ref b :: As).toArray, t, U', L, hT, X', hL, e1, e2, hq, st⟩
section
variable {y : MethodName} {bytes cc : ByteArray} {maxL nL mc ms n index : Nat} {ret : Option FieldType} {ws : List Cond} {rm : Room} {Pc : Array Value → State → Prop} {Qc : Array Value → State → Outcome → State → Prop} {XC : String → State → State → Prop} {free : Addr → Prop} {Ts : List Cond} {own C : String} {b : Addr} {As rest : List Value} {g : JFrame}
theorem vx_runVX {hh : List (Nat × Nat × Nat × Nat)} (S : CallFix p m c cc nL s args Ts own) (hM : vx_Met l y ws rm Pc Qc XC mc ms free) (cw : vx_CVW R s args own C index y bytes maxL ret hh ws rm mc ms n) (hp : PreV s H C b Pc As)
    (hg : g.method = m) (hn : As.length = n) (hsize : g.locals.size = nL) (hstack : g.stack = As.reverse ++ .ref b :: rest) (hW : 2 * g.monitorRoom + (rest.map fun v => v.category).sum ≤ 8) (hdg : decode cc g.pc = .ok (.invokevirtual index, 3)) (hf : cells + mc ≤ R.cells ∧ slots + ms ≤ R.slots) :
    vx_Run p l e R s m args below meth c H locs cells slots mc ms g rest (Qc (Value.ref b :: As).toArray) XC free := by
  obtain ⟨⟨hrc, hrs, hfr, hlo, hws, hcw⟩, hcode, hini, hy, hlen, hl, hin, hse⟩ := cw
  have hK : vx_Back l R p e below s args y 3 8 (PreOf R mc ms Pc) (PostOf Qc mc ms free) (vx_Post XC mc ms free) := vx_backW (hh := hh) (bytes := bytes) (maxL := maxL) (ret := ret) hM hp.1 hrc hrs hfr hlo hws hcw (fun a' U hW => word_at hW (Or.inl (by first | rfl | simp [Cond.onTables, Cond.keeps, Cond.steady])) hini)
  obtain ⟨hx, hb, hml, ho, -⟩ := S
  obtain ⟨-, ⟨cellB, hcB, hoB, hclB⟩, hPc⟩ := hp
  intro T hT X
  rcases vx_callVX X hx (C := C) (hh := hh) (bytes := bytes) (maxL := maxL) (ret := ret) ho hl hin hse hcode hy hK (by rw [hT]; exact hcB) hoB hclB hg (hsize.trans hml.symm) (argsL := As) (rest := rest) (fun sig h => hn.trans (hlen sig h)) hstack hW (by rw [hb]; exact hdg)
    (fun vm₁ hW₁ => ⟨hf.1, hf.2, hPc (T.setVm vm₁) hT hW₁⟩) with ⟨v, vm₁, ⟨U', l2, c2, s2⟩, hW₁, X', ⟨g', mk, t, L, e1, e2, hq, h1, hL, h2, h3⟩, st⟩ | ⟨q, vm₁, ⟨U', l2, c2, s2⟩, hW₁, X', ⟨g', mk, t, L, E, ce, e1, e2, hq, hce, hcv, hcl, h1, hL, h2, h3⟩, st⟩
  · dsimp only [Pt.U, Pt.locs, Pt.cells, Pt.slots] at X' e1 e2 h1 h2 h3 st
    subst h1; subst h2; subst h3
    exact Or.inl ⟨v, (T.setVm vm₁).calling g' mk (Value.ref b :: As).toArray, t, U', L, hT, X', hL, e1, e2, hq, st⟩
  · dsimp only [Pt.U, Pt.locs, Pt.cells, Pt.slots] at X' e1 e2 h1 h2 h3 st hcl
    subst h1; subst h2; subst h3
    exact Or.inr ⟨q, (T.setVm vm₁).calling g' mk (Value.ref b :: As).toArray, t, U', L, E, ce, hT, X', hL, e1, e2, hq, hce, hcv, vx_cls hW₁ hcl, st⟩
theorem vx_runSX {hh : List (Nat × Nat × Nat × Nat)} (S : CallFix p m c cc nL s args Ts own) (hM : vx_Met l y ws rm Pc Qc XC mc ms free) (cw : vx_CSW R s args own index y bytes maxL ret hh ws rm mc ms n) (hp : PreS s H Pc As)
    (hg : g.method = m) (hn : As.length = n) (hsize : g.locals.size = nL) (hstack : g.stack = As.reverse ++ rest) (hW : 2 * g.monitorRoom + (rest.map fun v => v.category).sum ≤ 8) (hdg : decode cc g.pc = .ok (.invokestatic index, 3)) (hf : cells + mc ≤ R.cells ∧ slots + ms ≤ R.slots) :
    vx_Run p l e R s m args below meth c H locs cells slots mc ms g rest (Qc As.toArray) XC free := by
  obtain ⟨⟨hrc, hrs, hfr, hlo, hws, hcw⟩, hcode, hini, hy, hlen, hl, hstt⟩ := cw
  have hK : vx_Back l R p e below s args y 3 8 (PreOf R mc ms Pc) (PostOf Qc mc ms free) (vx_Post XC mc ms free) := vx_backW (hh := hh) (bytes := bytes) (maxL := maxL) (ret := ret) hM hp.1 hrc hrs hfr hlo hws hcw (fun a' U hW => word_at hW (Or.inl (by first | rfl | simp [Cond.onTables, Cond.keeps, Cond.steady])) hini)
  obtain ⟨hx, hb, hml, ho, -⟩ := S
  intro T hT X
  rcases vx_callSX X hx (hh := hh) (bytes := bytes) (maxL := maxL) (ret := ret) ho hl hstt hini hcode hy hK hg (hsize.trans hml.symm) (argsL := As) (rest := rest) (fun sig h => hn.trans (hlen sig h)) hstack hW (by rw [hb]; exact hdg)
    (fun vm₁ hW₁ => ⟨hf.1, hf.2, hp.2 (T.setVm vm₁) hT hW₁⟩) with ⟨v, vm₁, ⟨U', l2, c2, s2⟩, hW₁, X', ⟨g', mk, t, L, e1, e2, hq, h1, hL, h2, h3⟩, st⟩ | ⟨q, vm₁, ⟨U', l2, c2, s2⟩, hW₁, X', ⟨g', mk, t, L, E, ce, e1, e2, hq, hce, hcv, hcl, h1, hL, h2, h3⟩, st⟩
  · dsimp only [Pt.U, Pt.locs, Pt.cells, Pt.slots] at X' e1 e2 h1 h2 h3 st
    subst h1; subst h2; subst h3
    exact Or.inl ⟨v, (T.setVm vm₁).calling g' mk As.toArray, t, U', L, hT, X', hL, e1, e2, hq, st⟩
  · dsimp only [Pt.U, Pt.locs, Pt.cells, Pt.slots] at X' e1 e2 h1 h2 h3 st hcl
    subst h1; subst h2; subst h3
    exact Or.inr ⟨q, (T.setVm vm₁).calling g' mk As.toArray, t, U', L, E, ce, hT, X', hL, e1, e2, hq, hce, hcv, vx_cls hW₁ hcl, st⟩
end
end VXH
theorem vx_ofWH {l : Launch} {y : MethodName} {ws ws' : List Cond} {rm : Room} {Pc : Array Value → State → Prop} {Qc : Array Value → State → Outcome → State → Prop} {XC : String → State → State → Prop} {mc ms : Nat} {free : Addr → Prop} {cc : ByteArray} {maxL : Nat} {ret : Option FieldType} {hh : List (Nat × Nat × Nat × Nat)}
    (hy : plainName y.cls = true) (hw : ws = Cond.codeWith y cc maxL ret hh :: ws')
    (body : ∀ p e s m args below meth c s₁, BodyLoose p l y (headSpec ws rm) cc maxL ret e s m args below meth c s₁ → c.maxLocals = maxL → Pc args s →
      W p l e (headSpec ws rm).room s m args below meth c s.heap [] 0 0 (vx_MQ below Qc XC args s mc ms free) (entryFrame m args maxL)) : vx_Met l y ws rm Pc Qc XC mc ms free := by
  refine MetFree.of_bodyS (code := cc) (maxLocals := maxL) (ret := ret) hy ?_ ?_
  · intro args s m h hn
    obtain ⟨m9, meth, c, hn9, h1, h2, h3, h4, -, h5, h6, -⟩ := Cond.codeWith_spec (atoms_spec (ws := ws) h _ (by rw [hw]; exact List.mem_cons_self))
    cases hn.symm.trans hn9
    exact ⟨meth, c, h1, h2, h3, h4, h5, h6⟩
  · intro p e s m args below meth c s₁ B hml hP _
    have hh0 : s₁.heap = s.heap := by rw [B.state]; rfl
    obtain ⟨t, a1, o, b1, b2, b3⟩ := body p e s m args below meth c s₁ B hml hP s₁ hh0 (Stand.of_body B)
    exact ⟨t, o, a1, b1, b2, b3⟩
/-! ===== END ===== -/
end
section
-- ===== PART A: goes FIRST, ahead of the names: the tables' words, and 'selects' of the private methods out of them =====
/-- a private method of a class that the tables say can be made, by its rows of tables_1 -/
def lw_okq (q : MethodName × Nat) : Prop := (q.1.cls ≠ "java/lang/invoke/MethodHandle" ∧ q.1.cls ≠ "java/lang/invoke/VarHandle") ∧ Cond.instantiable q.1.cls q.2 ∈ tables_1 ∧ Cond.privateMethod q.1 ∈ tables_1 ∧ Cond.instanceMethod q.1 ∈ tables_1
theorem lw_p0 : lw_okq (⟨"ExplainDifference$Ledger", "differs", "(I)I"⟩, 7) := ⟨⟨by decide +kernel, by decide +kernel⟩, List.mem_of_getElem? (i := 25) (by decide +kernel), List.mem_of_getElem? (i := 148) (by decide +kernel), List.mem_of_getElem? (i := 149) (by decide +kernel)⟩
theorem lw_p1 : lw_okq (⟨"ExplainDifference$Ledger", "isAtCountedCell", "([I)Z"⟩, 7) := ⟨⟨by decide +kernel, by decide +kernel⟩, List.mem_of_getElem? (i := 25) (by decide +kernel), List.mem_of_getElem? (i := 170) (by decide +kernel), List.mem_of_getElem? (i := 171) (by decide +kernel)⟩
theorem lw_p2 : lw_okq (⟨"ExplainDifference$Ledger", "isCounted", "(I)Z"⟩, 7) := ⟨⟨by decide +kernel, by decide +kernel⟩, List.mem_of_getElem? (i := 25) (by decide +kernel), List.mem_of_getElem? (i := 177) (by decide +kernel), List.mem_of_getElem? (i := 178) (by decide +kernel)⟩
theorem lw_p3 : lw_okq (⟨"ExplainDifference", "needAct", "(IIII)V"⟩, 2) := ⟨⟨by decide +kernel, by decide +kernel⟩, List.mem_of_getElem? (i := 17) (by decide +kernel), List.mem_of_getElem? (i := 198) (by decide +kernel), List.mem_of_getElem? (i := 199) (by decide +kernel)⟩
theorem lw_p4 : lw_okq (⟨"java/lang/Throwable", "fillInStackTrace", "(I)Ljava/lang/Throwable;"⟩, 6) := ⟨⟨by decide +kernel, by decide +kernel⟩, List.mem_of_getElem? (i := 249) (by decide +kernel), List.mem_of_getElem? (i := 247) (by decide +kernel), List.mem_of_getElem? (i := 248) (by decide +kernel)⟩
theorem lw_p5 : lw_okq (⟨"ExplainDifference", "needRoom", "()V"⟩, 2) := ⟨⟨by decide +kernel, by decide +kernel⟩, List.mem_of_getElem? (i := 17) (by decide +kernel), List.mem_of_getElem? (i := 283) (by decide +kernel), List.mem_of_getElem? (i := 284) (by decide +kernel)⟩
theorem lw_p6 : lw_okq (⟨"ExplainDifference$Ledger", "shift", "(II)V"⟩, 7) := ⟨⟨by decide +kernel, by decide +kernel⟩, List.mem_of_getElem? (i := 25) (by decide +kernel), List.mem_of_getElem? (i := 311) (by decide +kernel), List.mem_of_getElem? (i := 312) (by decide +kernel)⟩
theorem lw_p7 : lw_okq (⟨"ExplainDifference$Seeker", "begin", "(I)V"⟩, 13) := ⟨⟨by decide +kernel, by decide +kernel⟩, List.mem_of_getElem? (i := 68) (by decide +kernel), List.mem_of_getElem? (i := 406) (by decide +kernel), List.mem_of_getElem? (i := 407) (by decide +kernel)⟩
theorem lw_p8 : lw_okq (⟨"ExplainDifference$Seeker", "gatherChoices", "(LExplainDifference$Ledger;)V"⟩, 13) := ⟨⟨by decide +kernel, by decide +kernel⟩, List.mem_of_getElem? (i := 68) (by decide +kernel), List.mem_of_getElem? (i := 411) (by decide +kernel), List.mem_of_getElem? (i := 412) (by decide +kernel)⟩
theorem lw_p9 : lw_okq (⟨"ExplainDifference$Seeker", "extend", "(LExplainDifference$Ledger;II)Z"⟩, 13) := ⟨⟨by decide +kernel, by decide +kernel⟩, List.mem_of_getElem? (i := 68) (by decide +kernel), List.mem_of_getElem? (i := 416) (by decide +kernel), List.mem_of_getElem? (i := 417) (by decide +kernel)⟩
theorem lw_p10 : lw_okq (⟨"ExplainDifference$Seeker", "note", "()V"⟩, 13) := ⟨⟨by decide +kernel, by decide +kernel⟩, List.mem_of_getElem? (i := 68) (by decide +kernel), List.mem_of_getElem? (i := 420) (by decide +kernel), List.mem_of_getElem? (i := 421) (by decide +kernel)⟩
theorem lw_p11 : lw_okq (⟨"ExplainDifference$Seeker", "attempt", "(LExplainDifference$Ledger;III)Z"⟩, 13) := ⟨⟨by decide +kernel, by decide +kernel⟩, List.mem_of_getElem? (i := 68) (by decide +kernel), List.mem_of_getElem? (i := 427) (by decide +kernel), List.mem_of_getElem? (i := 428) (by decide +kernel)⟩
theorem lw_p12 : lw_okq (⟨"ExplainDifferenceModel", "newAct", "(IIIIII)I"⟩, 25) := ⟨⟨by decide +kernel, by decide +kernel⟩, List.mem_of_getElem? (i := 541) (by decide +kernel), List.mem_of_getElem? (i := 632) (by decide +kernel), List.mem_of_getElem? (i := 633) (by decide +kernel)⟩
theorem lw_p13 : lw_okq (⟨"ExplainDifferenceModel", "noAct", "(I)Z"⟩, 25) := ⟨⟨by decide +kernel, by decide +kernel⟩, List.mem_of_getElem? (i := 541) (by decide +kernel), List.mem_of_getElem? (i := 651) (by decide +kernel), List.mem_of_getElem? (i := 652) (by decide +kernel)⟩
theorem lw_p14 : lw_okq (⟨"ExplainDifferenceModel", "howMany", "()I"⟩, 25) := ⟨⟨by decide +kernel, by decide +kernel⟩, List.mem_of_getElem? (i := 541) (by decide +kernel), List.mem_of_getElem? (i := 659) (by decide +kernel), List.mem_of_getElem? (i := 660) (by decide +kernel)⟩
theorem lw_p15 : lw_okq (⟨"ExplainDifferenceModel", "isCandidate", "(I)Z"⟩, 25) := ⟨⟨by decide +kernel, by decide +kernel⟩, List.mem_of_getElem? (i := 541) (by decide +kernel), List.mem_of_getElem? (i := 663) (by decide +kernel), List.mem_of_getElem? (i := 664) (by decide +kernel)⟩
def lw_privs_1 : List (MethodName × Nat) := [(⟨"ExplainDifference$Ledger", "differs", "(I)I"⟩, 7), (⟨"ExplainDifference$Ledger", "isAtCountedCell", "([I)Z"⟩, 7), (⟨"ExplainDifference$Ledger", "isCounted", "(I)Z"⟩, 7), (⟨"ExplainDifference", "needAct", "(IIII)V"⟩, 2), (⟨"java/lang/Throwable", "fillInStackTrace", "(I)Ljava/lang/Throwable;"⟩, 6), (⟨"ExplainDifference", "needRoom", "()V"⟩, 2), (⟨"ExplainDifference$Ledger", "shift", "(II)V"⟩, 7), (⟨"ExplainDifference$Seeker", "begin", "(I)V"⟩, 13), (⟨"ExplainDifference$Seeker", "gatherChoices", "(LExplainDifference$Ledger;)V"⟩, 13), (⟨"ExplainDifference$Seeker", "extend", "(LExplainDifference$Ledger;II)Z"⟩, 13), (⟨"ExplainDifference$Seeker", "note", "()V"⟩, 13), (⟨"ExplainDifference$Seeker", "attempt", "(LExplainDifference$Ledger;III)Z"⟩, 13), (⟨"ExplainDifferenceModel", "newAct", "(IIIIII)I"⟩, 25), (⟨"ExplainDifferenceModel", "noAct", "(I)Z"⟩, 25), (⟨"ExplainDifferenceModel", "howMany", "()I"⟩, 25), (⟨"ExplainDifferenceModel", "isCandidate", "(I)Z"⟩, 25)]
theorem lw_r1 : ∀ q ∈ lw_privs_1, lw_okq q := List.forall_mem_cons.mpr ⟨lw_p0, List.forall_mem_cons.mpr ⟨lw_p1, List.forall_mem_cons.mpr ⟨lw_p2, List.forall_mem_cons.mpr ⟨lw_p3, List.forall_mem_cons.mpr ⟨lw_p4, List.forall_mem_cons.mpr ⟨lw_p5, List.forall_mem_cons.mpr ⟨lw_p6, List.forall_mem_cons.mpr ⟨lw_p7, List.forall_mem_cons.mpr ⟨lw_p8, List.forall_mem_cons.mpr ⟨lw_p9, List.forall_mem_cons.mpr ⟨lw_p10, List.forall_mem_cons.mpr ⟨lw_p11, List.forall_mem_cons.mpr ⟨lw_p12, List.forall_mem_cons.mpr ⟨lw_p13, List.forall_mem_cons.mpr ⟨lw_p14, List.forall_mem_cons.mpr ⟨lw_p15, fun _ h => absurd h List.not_mem_nil⟩⟩⟩⟩⟩⟩⟩⟩⟩⟩⟩⟩⟩⟩⟩⟩
theorem lw_p16 : lw_okq (⟨"ExplainDifferenceModel", "differences", "()I"⟩, 25) := ⟨⟨by decide +kernel, by decide +kernel⟩, List.mem_of_getElem? (i := 541) (by decide +kernel), List.mem_of_getElem? (i := 672) (by decide +kernel), List.mem_of_getElem? (i := 673) (by decide +kernel)⟩
theorem lw_p17 : lw_okq (⟨"ExplainDifferenceModel", "differenceOf", "(I)I"⟩, 25) := ⟨⟨by decide +kernel, by decide +kernel⟩, List.mem_of_getElem? (i := 541) (by decide +kernel), List.mem_of_getElem? (i := 676) (by decide +kernel), List.mem_of_getElem? (i := 677) (by decide +kernel)⟩
theorem lw_p18 : lw_okq (⟨"ExplainDifferenceModel", "expectedOf", "(I)I"⟩, 25) := ⟨⟨by decide +kernel, by decide +kernel⟩, List.mem_of_getElem? (i := 541) (by decide +kernel), List.mem_of_getElem? (i := 680) (by decide +kernel), List.mem_of_getElem? (i := 681) (by decide +kernel)⟩
theorem lw_p19 : lw_okq (⟨"ExplainDifferenceModel", "times", "(I)I"⟩, 25) := ⟨⟨by decide +kernel, by decide +kernel⟩, List.mem_of_getElem? (i := 541) (by decide +kernel), List.mem_of_getElem? (i := 684) (by decide +kernel), List.mem_of_getElem? (i := 685) (by decide +kernel)⟩
theorem lw_p20 : lw_okq (⟨"ExplainDifferenceModel", "adds", "(II)I"⟩, 25) := ⟨⟨by decide +kernel, by decide +kernel⟩, List.mem_of_getElem? (i := 541) (by decide +kernel), List.mem_of_getElem? (i := 688) (by decide +kernel), List.mem_of_getElem? (i := 689) (by decide +kernel)⟩
theorem lw_p21 : lw_okq (⟨"ExplainDifferenceModel", "goThrough", "(II)Z"⟩, 25) := ⟨⟨by decide +kernel, by decide +kernel⟩, List.mem_of_getElem? (i := 541) (by decide +kernel), List.mem_of_getElem? (i := 704) (by decide +kernel), List.mem_of_getElem? (i := 705) (by decide +kernel)⟩
theorem lw_p22 : lw_okq (⟨"ExplainDifferenceModel", "apply", "(II)V"⟩, 25) := ⟨⟨by decide +kernel, by decide +kernel⟩, List.mem_of_getElem? (i := 541) (by decide +kernel), List.mem_of_getElem? (i := 708) (by decide +kernel), List.mem_of_getElem? (i := 709) (by decide +kernel)⟩
theorem lw_p23 : lw_okq (⟨"ExplainDifferenceModel", "add", "(II)V"⟩, 25) := ⟨⟨by decide +kernel, by decide +kernel⟩, List.mem_of_getElem? (i := 541) (by decide +kernel), List.mem_of_getElem? (i := 712) (by decide +kernel), List.mem_of_getElem? (i := 713) (by decide +kernel)⟩
theorem lw_p24 : lw_okq (⟨"ExplainDifferenceModel", "foundOne", "(I)V"⟩, 25) := ⟨⟨by decide +kernel, by decide +kernel⟩, List.mem_of_getElem? (i := 541) (by decide +kernel), List.mem_of_getElem? (i := 716) (by decide +kernel), List.mem_of_getElem? (i := 717) (by decide +kernel)⟩
theorem lw_p25 : lw_okq (⟨"ExplainDifferenceModel", "touches", "(II)Z"⟩, 25) := ⟨⟨by decide +kernel, by decide +kernel⟩, List.mem_of_getElem? (i := 541) (by decide +kernel), List.mem_of_getElem? (i := 761) (by decide +kernel), List.mem_of_getElem? (i := 762) (by decide +kernel)⟩
def lw_privs_2 : List (MethodName × Nat) := [(⟨"ExplainDifferenceModel", "differences", "()I"⟩, 25), (⟨"ExplainDifferenceModel", "differenceOf", "(I)I"⟩, 25), (⟨"ExplainDifferenceModel", "expectedOf", "(I)I"⟩, 25), (⟨"ExplainDifferenceModel", "times", "(I)I"⟩, 25), (⟨"ExplainDifferenceModel", "adds", "(II)I"⟩, 25), (⟨"ExplainDifferenceModel", "goThrough", "(II)Z"⟩, 25), (⟨"ExplainDifferenceModel", "apply", "(II)V"⟩, 25), (⟨"ExplainDifferenceModel", "add", "(II)V"⟩, 25), (⟨"ExplainDifferenceModel", "foundOne", "(I)V"⟩, 25), (⟨"ExplainDifferenceModel", "touches", "(II)Z"⟩, 25)]
theorem lw_r2 : ∀ q ∈ lw_privs_2, lw_okq q := List.forall_mem_cons.mpr ⟨lw_p16, List.forall_mem_cons.mpr ⟨lw_p17, List.forall_mem_cons.mpr ⟨lw_p18, List.forall_mem_cons.mpr ⟨lw_p19, List.forall_mem_cons.mpr ⟨lw_p20, List.forall_mem_cons.mpr ⟨lw_p21, List.forall_mem_cons.mpr ⟨lw_p22, List.forall_mem_cons.mpr ⟨lw_p23, List.forall_mem_cons.mpr ⟨lw_p24, List.forall_mem_cons.mpr ⟨lw_p25, fun _ h => absurd h List.not_mem_nil⟩⟩⟩⟩⟩⟩⟩⟩⟩⟩
def lw_privs : List (MethodName × Nat) := lw_privs_1 ++ (lw_privs_2)
def lw_tbl : List Cond := k2_sels lw_privs ++ tables_1
theorem lw_privs_ok : ∀ q ∈ lw_privs, lw_okq q := by
  show ∀ q ∈ lw_privs_1 ++ (lw_privs_2), lw_okq q
  exact List.forall_mem_append.mpr ⟨lw_r1, lw_r2⟩
-- the classes whose objects the world holds; the tables' good words; exceptions; texts; nest mates
def mj_F0 : u_T := fun k => match k with
  | 0 => ("ExplainDifference$Ledger", "rows", "[[I", true)
  | 1 => ("ExplainDifference$Ledger", "awaited", "[I", true)
  | 2 => ("ExplainDifference$Ledger", "tally", "[I", true)
  | 3 => ("ExplainDifference$Ledger", "acts", "I", false)
  | 4 => ("ExplainDifference$Ledger", "differences", "I", false)
  | 5 => ("ExplainDifference$Ledger", "windowFrom", "I", false)
  | _ => ("ExplainDifference$Ledger", "windowTo", "I", false)
def mj_F1 : u_T := fun k => match k with
  | 0 => ("ExplainDifference$Seeker", "choices", "[I", true)
  | 1 => ("ExplainDifference$Seeker", "workActs", "[I", true)
  | 2 => ("ExplainDifference$Seeker", "workChanges", "[I", true)
  | 3 => ("ExplainDifference$Seeker", "firstActs", "[I", true)
  | 4 => ("ExplainDifference$Seeker", "firstChanges", "[I", true)
  | 5 => ("ExplainDifference$Seeker", "uses", "[I", true)
  | 6 => ("ExplainDifference$Seeker", "choiceNumber", "I", false)
  | 7 => ("ExplainDifference$Seeker", "size", "I", false)
  | 8 => ("ExplainDifference$Seeker", "stepLimit", "I", false)
  | 9 => ("ExplainDifference$Seeker", "stepsDone", "I", false)
  | 10 => ("ExplainDifference$Seeker", "explanations", "I", false)
  | 11 => ("ExplainDifference$Seeker", "changes", "I", false)
  | _ => ("ExplainDifference$Seeker", "complete", "Z", false)
def mj_F2 : u_T := fun k => match k with
  | 0 => ("ExplainDifference", "ledger", "LExplainDifference$Ledger;", true)
  | _ => ("ExplainDifference", "seeker", "LExplainDifference$Seeker;", true)
def mj_F3 : u_T := fun k => match k with
  | 0 => ("ExplainDifferenceModel", "thrownCode", "I", false)
  | 1 => ("ExplainDifferenceModel", "acts", "I", false)
  | 2 => ("ExplainDifferenceModel", "kind", "[I", true)
  | 3 => ("ExplainDifferenceModel", "place", "[I", true)
  | 4 => ("ExplainDifferenceModel", "to", "[I", true)
  | 5 => ("ExplainDifferenceModel", "good", "[I", true)
  | 6 => ("ExplainDifferenceModel", "pieces", "[I", true)
  | 7 => ("ExplainDifferenceModel", "time", "[I", true)
  | 8 => ("ExplainDifferenceModel", "state", "[I", true)
  | 9 => ("ExplainDifferenceModel", "shut", "[Z", true)
  | 10 => ("ExplainDifferenceModel", "from", "I", false)
  | 11 => ("ExplainDifferenceModel", "until", "I", false)
  | 12 => ("ExplainDifferenceModel", "counts", "[I", true)
  | 13 => ("ExplainDifferenceModel", "wasExact", "Z", false)
  | 14 => ("ExplainDifferenceModel", "stepsNow", "I", false)
  | 15 => ("ExplainDifferenceModel", "tiesNow", "I", false)
  | 16 => ("ExplainDifferenceModel", "oftenNow", "[I", true)
  | 17 => ("ExplainDifferenceModel", "changes", "I", false)
  | 18 => ("ExplainDifferenceModel", "change", "[I", true)
  | 19 => ("ExplainDifferenceModel", "left", "[I", true)
  | 20 => ("ExplainDifferenceModel", "wrong", "I", false)
  | 21 => ("ExplainDifferenceModel", "candidates", "I", false)
  | 22 => ("ExplainDifferenceModel", "candidate", "[I", true)
  | 23 => ("ExplainDifferenceModel", "set", "[I", true)
  | _ => ("ExplainDifferenceModel", "placed", "[Z", true)
def vwCl : List vw_C := [("ExplainDifference$Ledger", mj_F0, 7), ("ExplainDifference$Seeker", mj_F1, 13), ("ExplainDifference", mj_F2, 2), ("ExplainDifferenceModel", mj_F3, 25)]
def mj_wF : List Cond := [(Jvm.Cond.fieldLink "ExplainDifference$Ledger" (11 : Nat) "ExplainDifference$Ledger" "rows" "[[I"),
  (Jvm.Cond.fieldLink "ExplainDifference" (50 : Nat) "ExplainDifference$Ledger" "rows" "[[I"),
  (Jvm.Cond.fieldLink "ExplainDifference$Seeker" (100 : Nat) "ExplainDifference$Ledger" "rows" "[[I"),
  (Jvm.Cond.fieldLink "ExplainDifference$Ledger" (16 : Nat) "ExplainDifference$Ledger" "awaited" "[I"),
  (Jvm.Cond.fieldLink "ExplainDifference" (81 : Nat) "ExplainDifference$Ledger" "awaited" "[I"),
  (Jvm.Cond.fieldLink "ExplainDifference$Ledger" (20 : Nat) "ExplainDifference$Ledger" "tally" "[I"),
  (Jvm.Cond.fieldLink "ExplainDifference$Ledger" (33 : Nat) "ExplainDifference$Ledger" "acts" "I"),
  (Jvm.Cond.fieldLink "ExplainDifference$Seeker" (76 : Nat) "ExplainDifference$Ledger" "acts" "I"),
  (Jvm.Cond.fieldLink "ExplainDifference" (42 : Nat) "ExplainDifference$Ledger" "acts" "I"),
  (Jvm.Cond.fieldLink "ExplainDifference$Seeker" (34 : Nat) "ExplainDifference$Ledger" "differences" "I"),
  (Jvm.Cond.fieldLink "ExplainDifference$Ledger" (54 : Nat) "ExplainDifference$Ledger" "differences" "I"),
  (Jvm.Cond.fieldLink "ExplainDifference" (78 : Nat) "ExplainDifference$Ledger" "differences" "I"),
  (Jvm.Cond.fieldLink "ExplainDifference" (58 : Nat) "ExplainDifference$Ledger" "windowFrom" "I"),
  (Jvm.Cond.fieldLink "ExplainDifference$Ledger" (69 : Nat) "ExplainDifference$Ledger" "windowFrom" "I"),
  (Jvm.Cond.fieldLink "ExplainDifference$Ledger" (29 : Nat) "ExplainDifference$Ledger" "windowTo" "I"),
  (Jvm.Cond.fieldLink "ExplainDifference" (61 : Nat) "ExplainDifference$Ledger" "windowTo" "I"),
  (Jvm.Cond.fieldLink "ExplainDifference$Seeker" (9 : Nat) "ExplainDifference$Seeker" "choices" "[I"),
  (Jvm.Cond.fieldLink "ExplainDifference$Seeker" (15 : Nat) "ExplainDifference$Seeker" "workActs" "[I"),
  (Jvm.Cond.fieldLink "ExplainDifference$Seeker" (18 : Nat) "ExplainDifference$Seeker" "workChanges" "[I"),
  (Jvm.Cond.fieldLink "ExplainDifference$Seeker" (21 : Nat) "ExplainDifference$Seeker" "firstActs" "[I"),
  (Jvm.Cond.fieldLink "ExplainDifference" (112 : Nat) "ExplainDifference$Seeker" "firstActs" "[I"),
  (Jvm.Cond.fieldLink "ExplainDifference$Seeker" (24 : Nat) "ExplainDifference$Seeker" "firstChanges" "[I"),
  (Jvm.Cond.fieldLink "ExplainDifference" (115 : Nat) "ExplainDifference$Seeker" "firstChanges" "[I"),
  (Jvm.Cond.fieldLink "ExplainDifference$Seeker" (27 : Nat) "ExplainDifference$Seeker" "uses" "[I"),
  (Jvm.Cond.fieldLink "ExplainDifference" (106 : Nat) "ExplainDifference$Seeker" "uses" "[I"),
  (Jvm.Cond.fieldLink "ExplainDifference$Seeker" (73 : Nat) "ExplainDifference$Seeker" "choiceNumber" "I"),
  (Jvm.Cond.fieldLink "ExplainDifference$Seeker" (51 : Nat) "ExplainDifference$Seeker" "size" "I"),
  (Jvm.Cond.fieldLink "ExplainDifference$Seeker" (61 : Nat) "ExplainDifference$Seeker" "stepLimit" "I"),
  (Jvm.Cond.fieldLink "ExplainDifference$Seeker" (64 : Nat) "ExplainDifference$Seeker" "stepsDone" "I"),
  (Jvm.Cond.fieldLink "ExplainDifference" (100 : Nat) "ExplainDifference$Seeker" "stepsDone" "I"),
  (Jvm.Cond.fieldLink "ExplainDifference$Seeker" (48 : Nat) "ExplainDifference$Seeker" "explanations" "I"),
  (Jvm.Cond.fieldLink "ExplainDifference" (103 : Nat) "ExplainDifference$Seeker" "explanations" "I"),
  (Jvm.Cond.fieldLink "ExplainDifference$Seeker" (58 : Nat) "ExplainDifference$Seeker" "changes" "I"),
  (Jvm.Cond.fieldLink "ExplainDifference" (109 : Nat) "ExplainDifference$Seeker" "changes" "I"),
  (Jvm.Cond.fieldLink "ExplainDifference$Seeker" (44 : Nat) "ExplainDifference$Seeker" "complete" "Z"),
  (Jvm.Cond.fieldLink "ExplainDifference" (96 : Nat) "ExplainDifference$Seeker" "complete" "Z"),
  (Jvm.Cond.fieldLink "ExplainDifference" (10 : Nat) "ExplainDifference" "ledger" "LExplainDifference$Ledger;"),
  (Jvm.Cond.fieldLink "ExplainDifference" (19 : Nat) "ExplainDifference" "seeker" "LExplainDifference$Seeker;"),
  (Jvm.Cond.fieldLink "java/lang/Throwable" (198 : Nat) "java/lang/Throwable" "backtrace" "Ljava/lang/Object;"),
  (Jvm.Cond.fieldLink "java/lang/Throwable" (13 : Nat) "java/lang/Throwable" "UNASSIGNED_STACK" "[Ljava/lang/StackTraceElement;"),
  (Jvm.Cond.fieldLink "java/lang/Throwable" (20 : Nat) "java/lang/Throwable" "SUPPRESSED_SENTINEL" "Ljava/util/List;"),
  (Jvm.Cond.fieldLink "java/lang/Throwable" (31 : Nat) "java/lang/Throwable" "detailMessage" "Ljava/lang/String;"),
  (Jvm.Cond.fieldLink "java/lang/Throwable" (7 : Nat) "java/lang/Throwable" "cause" "Ljava/lang/Throwable;"),
  (Jvm.Cond.fieldLink "java/lang/Throwable" (17 : Nat) "java/lang/Throwable" "stackTrace" "[Ljava/lang/StackTraceElement;"),
  (Jvm.Cond.fieldLink "java/lang/Throwable" (24 : Nat) "java/lang/Throwable" "suppressedExceptions" "Ljava/util/List;"),
  (Jvm.Cond.fieldLink "ExplainDifferenceModel" (7 : Nat) "ExplainDifferenceModel" "thrownCode" "I"),
  (Jvm.Cond.fieldLink "ExplainDifferenceModel" (13 : Nat) "ExplainDifferenceModel" "acts" "I"),
  (Jvm.Cond.fieldLink "ExplainDifferenceModel" (16 : Nat) "ExplainDifferenceModel" "kind" "[I"),
  (Jvm.Cond.fieldLink "ExplainDifferenceModel" (20 : Nat) "ExplainDifferenceModel" "place" "[I"),
  (Jvm.Cond.fieldLink "ExplainDifferenceModel" (23 : Nat) "ExplainDifferenceModel" "to" "[I"),
  (Jvm.Cond.fieldLink "ExplainDifferenceModel" (26 : Nat) "ExplainDifferenceModel" "good" "[I"),
  (Jvm.Cond.fieldLink "ExplainDifferenceModel" (29 : Nat) "ExplainDifferenceModel" "pieces" "[I"),
  (Jvm.Cond.fieldLink "ExplainDifferenceModel" (32 : Nat) "ExplainDifferenceModel" "time" "[I"),
  (Jvm.Cond.fieldLink "ExplainDifferenceModel" (35 : Nat) "ExplainDifferenceModel" "state" "[I"),
  (Jvm.Cond.fieldLink "ExplainDifferenceModel" (38 : Nat) "ExplainDifferenceModel" "shut" "[Z"),
  (Jvm.Cond.fieldLink "ExplainDifferenceModel" (42 : Nat) "ExplainDifferenceModel" "from" "I"),
  (Jvm.Cond.fieldLink "ExplainDifferenceModel" (45 : Nat) "ExplainDifferenceModel" "until" "I"),
  (Jvm.Cond.fieldLink "ExplainDifferenceModel" (48 : Nat) "ExplainDifferenceModel" "counts" "[I"),
  (Jvm.Cond.fieldLink "ExplainDifferenceModel" (51 : Nat) "ExplainDifferenceModel" "wasExact" "Z"),
  (Jvm.Cond.fieldLink "ExplainDifferenceModel" (55 : Nat) "ExplainDifferenceModel" "stepsNow" "I"),
  (Jvm.Cond.fieldLink "ExplainDifferenceModel" (58 : Nat) "ExplainDifferenceModel" "tiesNow" "I"),
  (Jvm.Cond.fieldLink "ExplainDifferenceModel" (61 : Nat) "ExplainDifferenceModel" "oftenNow" "[I"),
  (Jvm.Cond.fieldLink "ExplainDifferenceModel" (64 : Nat) "ExplainDifferenceModel" "changes" "I"),
  (Jvm.Cond.fieldLink "ExplainDifferenceModel" (67 : Nat) "ExplainDifferenceModel" "change" "[I"),
  (Jvm.Cond.fieldLink "ExplainDifferenceModel" (70 : Nat) "ExplainDifferenceModel" "left" "[I"),
  (Jvm.Cond.fieldLink "ExplainDifferenceModel" (73 : Nat) "ExplainDifferenceModel" "wrong" "I"),
  (Jvm.Cond.fieldLink "ExplainDifferenceModel" (76 : Nat) "ExplainDifferenceModel" "candidates" "I"),
  (Jvm.Cond.fieldLink "ExplainDifferenceModel" (79 : Nat) "ExplainDifferenceModel" "candidate" "[I"),
  (Jvm.Cond.fieldLink "ExplainDifferenceModel" (82 : Nat) "ExplainDifferenceModel" "set" "[I"),
  (Jvm.Cond.fieldLink "ExplainDifferenceModel" (85 : Nat) "ExplainDifferenceModel" "placed" "[Z")]
theorem mj_wF_p : mj_wF = ([61, 62, 63, 64, 65, 66, 67, 68, 69, 70, 71, 72, 73, 74, 75, 76, 99, 100, 101, 102, 103, 104, 105, 106, 107, 108, 109, 110, 111, 112, 113, 114, 115, 116, 117, 118, 146, 147, 255, 260, 262, 291, 292, 293, 294, 572, 573, 574, 575, 576, 577, 578, 579, 580, 581, 582, 583, 584, 585, 586, 587, 588, 589, 590, 591, 592, 593, 594, 595, 596] : List Nat).filterMap (fun i => lw_tbl[i]?) := by decide +kernel
theorem mj_wF_g : mj_wF.all goodWord = true := by decide +kernel
def mj_wM : List Cond := [(Jvm.Cond.methodLink "ExplainDifferenceLaw" (74 : Nat) ⟨"ExplainDifference", "<init>", "()V"⟩),
  (Jvm.Cond.methodLink "ExplainDifference" (1 : Nat) ⟨"java/lang/Object", "<init>", "()V"⟩),
  (Jvm.Cond.methodLink "ExplainDifference" (9 : Nat) ⟨"ExplainDifference$Ledger", "<init>", "()V"⟩),
  (Jvm.Cond.methodLink "ExplainDifference$Ledger" (3 : Nat) ⟨"java/lang/Object", "<init>", "()V"⟩),
  (Jvm.Cond.methodLink "ExplainDifference$Ledger" (23 : Nat) ⟨"java/util/Arrays", "fill", "([II)V"⟩),
  (Jvm.Cond.methodLink "ExplainDifference" (18 : Nat) ⟨"ExplainDifference$Seeker", "<init>", "()V"⟩),
  (Jvm.Cond.methodLink "ExplainDifference$Seeker" (3 : Nat) ⟨"java/lang/Object", "<init>", "()V"⟩),
  (Jvm.Cond.methodLink "ExplainDifferenceLaw" (115 : Nat) ⟨"ExplainDifference", "exact", "()Z"⟩),
  (Jvm.Cond.methodLink "ExplainDifferenceLaw" (120 : Nat) ⟨"ExplainDifference", "steps", "()I"⟩),
  (Jvm.Cond.methodLink "ExplainDifferenceLaw" (124 : Nat) ⟨"ExplainDifference", "ties", "()I"⟩),
  (Jvm.Cond.methodLink "ExplainDifferenceLaw" (151 : Nat) ⟨"ExplainDifference", "count", "(I)I"⟩),
  (Jvm.Cond.methodLink "ExplainDifference" (151 : Nat) ⟨"ExplainDifference$Ledger", "piecesOfDifferences", "()I"⟩),
  (Jvm.Cond.methodLink "ExplainDifference$Ledger" (51 : Nat) ⟨"ExplainDifference$Ledger", "differs", "(I)I"⟩),
  (Jvm.Cond.methodLink "ExplainDifference$Ledger" (57 : Nat) ⟨"ExplainDifference$Ledger", "gap", "(I)I"⟩),
  (Jvm.Cond.methodLink "ExplainDifference$Ledger" (60 : Nat) ⟨"java/lang/Math", "abs", "(I)I"⟩),
  (Jvm.Cond.methodLink "ExplainDifference" (64 : Nat) ⟨"ExplainDifference$Ledger", "candidates", "()I"⟩),
  (Jvm.Cond.methodLink "ExplainDifference$Ledger" (80 : Nat) ⟨"ExplainDifference$Ledger", "isCandidate", "(I)Z"⟩),
  (Jvm.Cond.methodLink "ExplainDifference$Ledger" (76 : Nat) ⟨"ExplainDifference$Ledger", "isAtCountedCell", "([I)Z"⟩),
  (Jvm.Cond.methodLink "ExplainDifference$Ledger" (65 : Nat) ⟨"ExplainDifference$Ledger", "isCounted", "(I)Z"⟩),
  (Jvm.Cond.methodLink "ExplainDifference" (54 : Nat) ⟨"ExplainDifference$Ledger", "actsWith", "(II)I"⟩),
  (Jvm.Cond.methodLink "ExplainDifference" (154 : Nat) ⟨"ExplainDifference$Ledger", "countedCells", "()I"⟩),
  (Jvm.Cond.methodLink "ExplainDifferenceLaw" (78 : Nat) ⟨"ExplainDifferenceLaw", "put", "(LExplainDifference;IIII[J)I"⟩),
  (Jvm.Cond.methodLink "ExplainDifferenceLaw" (7 : Nat) ⟨"ExplainDifference", "put", "(IIII)I"⟩),
  (Jvm.Cond.methodLink "ExplainDifference" (23 : Nat) ⟨"ExplainDifference", "needAct", "(IIII)V"⟩),
  (Jvm.Cond.methodLink "ExplainDifference" (68 : Nat) ⟨"ExplainDifference", "needCell", "(II)V"⟩),
  (Jvm.Cond.methodLink "ExplainDifference" (34 : Nat) ⟨"ExplainDifference", "isWithin", "(III)Z"⟩),
  (Jvm.Cond.methodLink "ExplainDifference" (38 : Nat) ⟨"ExplainDifference", "need", "(Z)V"⟩),
  (Jvm.Cond.methodLink "java/lang/Throwable" (1 : Nat) ⟨"java/lang/Object", "<init>", "()V"⟩),
  (Jvm.Cond.methodLink "java/lang/Throwable" (27 : Nat) ⟨"java/lang/Throwable", "fillInStackTrace", "()Ljava/lang/Throwable;"⟩),
  (Jvm.Cond.methodLink "java/lang/Throwable" (202 : Nat) ⟨"java/lang/Throwable", "fillInStackTrace", "(I)Ljava/lang/Throwable;"⟩),
  (Jvm.Cond.methodLink "ExplainDifference" (174 : Nat) ⟨"java/lang/IllegalArgumentException", "<init>", "(Ljava/lang/String;)V"⟩),
  (Jvm.Cond.methodLink "java/lang/IllegalArgumentException" (7 : Nat) ⟨"java/lang/RuntimeException", "<init>", "(Ljava/lang/String;)V"⟩),
  (Jvm.Cond.methodLink "java/lang/RuntimeException" (7 : Nat) ⟨"java/lang/Exception", "<init>", "(Ljava/lang/String;)V"⟩),
  (Jvm.Cond.methodLink "java/lang/Exception" (7 : Nat) ⟨"java/lang/Throwable", "<init>", "(Ljava/lang/String;)V"⟩),
  (Jvm.Cond.methodLink "ExplainDifference" (157 : Nat) ⟨"ExplainDifference$Ledger", "lastTime", "()I"⟩),
  (Jvm.Cond.methodLink "ExplainDifference" (27 : Nat) ⟨"ExplainDifference", "needRoom", "()V"⟩),
  (Jvm.Cond.methodLink "ExplainDifference" (164 : Nat) ⟨"java/lang/UnsupportedOperationException", "<init>", "(Ljava/lang/String;)V"⟩),
  (Jvm.Cond.methodLink "java/lang/UnsupportedOperationException" (7 : Nat) ⟨"java/lang/RuntimeException", "<init>", "(Ljava/lang/String;)V"⟩),
  (Jvm.Cond.methodLink "ExplainDifference" (30 : Nat) ⟨"ExplainDifference$Ledger", "add", "(IIIIII)I"⟩),
  (Jvm.Cond.methodLink "ExplainDifference$Ledger" (36 : Nat) ⟨"ExplainDifference$Ledger", "carry", "(II)V"⟩),
  (Jvm.Cond.methodLink "ExplainDifference$Ledger" (48 : Nat) ⟨"ExplainDifference$Ledger", "shift", "(II)V"⟩),
  (Jvm.Cond.methodLink "ExplainDifferenceLaw" (87 : Nat) ⟨"ExplainDifferenceLaw", "take", "(LExplainDifference;IIII[J)I"⟩),
  (Jvm.Cond.methodLink "ExplainDifferenceLaw" (17 : Nat) ⟨"ExplainDifference", "take", "(IIII)I"⟩),
  (Jvm.Cond.methodLink "ExplainDifferenceLaw" (90 : Nat) ⟨"ExplainDifferenceLaw", "move", "(LExplainDifference;IIIII[J)I"⟩),
  (Jvm.Cond.methodLink "ExplainDifferenceLaw" (20 : Nat) ⟨"ExplainDifference", "move", "(IIIII)I"⟩),
  (Jvm.Cond.methodLink "ExplainDifferenceLaw" (94 : Nat) ⟨"ExplainDifferenceLaw", "closed", "(LExplainDifference;IZ[J)I"⟩),
  (Jvm.Cond.methodLink "ExplainDifferenceLaw" (24 : Nat) ⟨"ExplainDifference", "closed", "(IZ)I"⟩),
  (Jvm.Cond.methodLink "ExplainDifference" (46 : Nat) ⟨"ExplainDifference", "needThere", "(II)V"⟩),
  (Jvm.Cond.methodLink "ExplainDifference" (169 : Nat) ⟨"java/util/NoSuchElementException", "<init>", "(Ljava/lang/String;)V"⟩),
  (Jvm.Cond.methodLink "java/util/NoSuchElementException" (13 : Nat) ⟨"java/lang/RuntimeException", "<init>", "(Ljava/lang/String;)V"⟩),
  (Jvm.Cond.methodLink "ExplainDifferenceLaw" (98 : Nat) ⟨"ExplainDifferenceLaw", "window", "(LExplainDifference;II[J)I"⟩),
  (Jvm.Cond.methodLink "ExplainDifferenceLaw" (30 : Nat) ⟨"ExplainDifference", "window", "(II)I"⟩),
  (Jvm.Cond.methodLink "ExplainDifferenceLaw" (102 : Nat) ⟨"ExplainDifferenceLaw", "counted", "(LExplainDifference;III[J)I"⟩),
  (Jvm.Cond.methodLink "ExplainDifferenceLaw" (34 : Nat) ⟨"ExplainDifference", "counted", "(III)I"⟩),
  (Jvm.Cond.methodLink "ExplainDifference" (72 : Nat) ⟨"ExplainDifference", "cellOf", "(II)I"⟩),
  (Jvm.Cond.methodLink "ExplainDifference" (75 : Nat) ⟨"ExplainDifference$Ledger", "tell", "(II)V"⟩),
  (Jvm.Cond.methodLink "ExplainDifferenceLaw" (106 : Nat) ⟨"ExplainDifferenceLaw", "expected", "(LExplainDifference;II[J)I"⟩),
  (Jvm.Cond.methodLink "ExplainDifferenceLaw" (38 : Nat) ⟨"ExplainDifference", "expected", "(II)I"⟩),
  (Jvm.Cond.methodLink "ExplainDifferenceLaw" (109 : Nat) ⟨"ExplainDifferenceLaw", "differ", "(LExplainDifference;II[J)I"⟩),
  (Jvm.Cond.methodLink "ExplainDifferenceLaw" (41 : Nat) ⟨"ExplainDifference", "differ", "(II)I"⟩),
  (Jvm.Cond.methodLink "ExplainDifference" (85 : Nat) ⟨"ExplainDifference$Ledger", "differingCell", "(I)I"⟩),
  (Jvm.Cond.methodLink "ExplainDifference" (89 : Nat) ⟨"ExplainDifference$Ledger", "gap", "(I)I"⟩),
  (Jvm.Cond.methodLink "ExplainDifferenceLaw" (112 : Nat) ⟨"ExplainDifferenceLaw", "search", "(LExplainDifference;II[J)I"⟩),
  (Jvm.Cond.methodLink "ExplainDifferenceLaw" (44 : Nat) ⟨"ExplainDifference", "search", "(II)I"⟩),
  (Jvm.Cond.methodLink "ExplainDifference" (92 : Nat) ⟨"ExplainDifference$Seeker", "seek", "(LExplainDifference$Ledger;II)I"⟩),
  (Jvm.Cond.methodLink "ExplainDifference$Seeker" (30 : Nat) ⟨"ExplainDifference$Seeker", "begin", "(I)V"⟩),
  (Jvm.Cond.methodLink "ExplainDifference$Seeker" (67 : Nat) ⟨"java/util/Arrays", "fill", "([II)V"⟩),
  (Jvm.Cond.methodLink "ExplainDifference$Seeker" (40 : Nat) ⟨"ExplainDifference$Seeker", "gatherChoices", "(LExplainDifference$Ledger;)V"⟩),
  (Jvm.Cond.methodLink "ExplainDifference$Seeker" (79 : Nat) ⟨"ExplainDifference$Ledger", "isCandidate", "(I)Z"⟩),
  (Jvm.Cond.methodLink "ExplainDifference$Seeker" (54 : Nat) ⟨"ExplainDifference$Seeker", "extend", "(LExplainDifference$Ledger;II)Z"⟩),
  (Jvm.Cond.methodLink "ExplainDifference$Seeker" (83 : Nat) ⟨"ExplainDifference$Seeker", "note", "()V"⟩),
  (Jvm.Cond.methodLink "ExplainDifference$Seeker" (94 : Nat) ⟨"java/lang/System", "arraycopy", "(Ljava/lang/Object;ILjava/lang/Object;II)V"⟩),
  (Jvm.Cond.methodLink "ExplainDifference$Seeker" (86 : Nat) ⟨"ExplainDifference$Seeker", "attempt", "(LExplainDifference$Ledger;III)Z"⟩),
  (Jvm.Cond.methodLink "ExplainDifference$Seeker" (90 : Nat) ⟨"ExplainDifference$Ledger", "carry", "(II)V"⟩),
  (Jvm.Cond.methodLink "ExplainDifferenceLaw" (128 : Nat) ⟨"ExplainDifferenceLaw", "often", "(LExplainDifference;I[J)I"⟩),
  (Jvm.Cond.methodLink "ExplainDifferenceLaw" (47 : Nat) ⟨"ExplainDifference", "often", "(I)I"⟩),
  (Jvm.Cond.methodLink "ExplainDifferenceLaw" (132 : Nat) ⟨"ExplainDifferenceLaw", "found", "(LExplainDifference;II[J)I"⟩),
  (Jvm.Cond.methodLink "ExplainDifferenceLaw" (51 : Nat) ⟨"ExplainDifference", "found", "(II)I"⟩),
  (Jvm.Cond.methodLink "ExplainDifferenceLaw" (135 : Nat) ⟨"ExplainDifferenceLaw", "accept", "(LExplainDifference;[J)I"⟩),
  (Jvm.Cond.methodLink "ExplainDifferenceLaw" (54 : Nat) ⟨"ExplainDifference", "accept", "()I"⟩),
  (Jvm.Cond.methodLink "ExplainDifference" (118 : Nat) ⟨"ExplainDifference$Seeker", "isOfPlainActs", "(LExplainDifference$Ledger;)Z"⟩),
  (Jvm.Cond.methodLink "ExplainDifference" (126 : Nat) ⟨"java/lang/IllegalStateException", "<init>", "(Ljava/lang/String;)V"⟩),
  (Jvm.Cond.methodLink "java/lang/IllegalStateException" (7 : Nat) ⟨"java/lang/RuntimeException", "<init>", "(Ljava/lang/String;)V"⟩),
  (Jvm.Cond.methodLink "ExplainDifference" (129 : Nat) ⟨"ExplainDifference$Seeker", "settle", "(LExplainDifference$Ledger;)V"⟩),
  (Jvm.Cond.methodLink "ExplainDifference$Seeker" (104 : Nat) ⟨"ExplainDifference$Ledger", "turn", "(II)V"⟩),
  (Jvm.Cond.methodLink "ExplainDifferenceLaw" (139 : Nat) ⟨"ExplainDifferenceLaw", "back", "(LExplainDifference;I[J)I"⟩),
  (Jvm.Cond.methodLink "ExplainDifferenceLaw" (60 : Nat) ⟨"ExplainDifference", "back", "(I)I"⟩),
  (Jvm.Cond.methodLink "ExplainDifference" (135 : Nat) ⟨"ExplainDifference$Ledger", "turn", "(II)V"⟩),
  (Jvm.Cond.methodLink "ExplainDifferenceLaw" (142 : Nat) ⟨"ExplainDifferenceLaw", "share", "(LExplainDifference;II[J)I"⟩),
  (Jvm.Cond.methodLink "ExplainDifferenceLaw" (63 : Nat) ⟨"ExplainDifference", "share", "(II)I"⟩),
  (Jvm.Cond.methodLink "ExplainDifference" (143 : Nat) ⟨"java/lang/ArithmeticException", "<init>", "(Ljava/lang/String;)V"⟩),
  (Jvm.Cond.methodLink "java/lang/ArithmeticException" (7 : Nat) ⟨"java/lang/RuntimeException", "<init>", "(Ljava/lang/String;)V"⟩),
  (Jvm.Cond.methodLink "ExplainDifferenceLaw" (145 : Nat) ⟨"ExplainDifferenceLaw", "told", "(LExplainDifference;II[J)I"⟩),
  (Jvm.Cond.methodLink "ExplainDifferenceLaw" (68 : Nat) ⟨"ExplainDifference", "told", "(II)I"⟩),
  (Jvm.Cond.methodLink "ExplainDifference" (144 : Nat) ⟨"ExplainDifference$Ledger", "isCandidate", "(I)Z"⟩),
  (Jvm.Cond.methodLink "ExplainDifferenceLaw" (148 : Nat) ⟨"ExplainDifferenceLaw", "of", "(LExplainDifference;III[J)I"⟩),
  (Jvm.Cond.methodLink "ExplainDifferenceLaw" (71 : Nat) ⟨"ExplainDifference", "of", "(III)I"⟩),
  (Jvm.Cond.methodLink "ExplainDifference" (148 : Nat) ⟨"ExplainDifference$Ledger", "actAt", "(II)I"⟩),
  (Jvm.Cond.methodLink "ExplainDifference$Ledger" (83 : Nat) ⟨"ExplainDifference$Ledger", "isAt", "([II)Z"⟩),
  (Jvm.Cond.methodLink "ExplainDifferenceLaw" (77 : Nat) ⟨"ExplainDifferenceModel", "<init>", "()V"⟩),
  (Jvm.Cond.methodLink "ExplainDifferenceModel" (1 : Nat) ⟨"java/lang/Object", "<init>", "()V"⟩),
  (Jvm.Cond.methodLink "ExplainDifferenceLaw" (84 : Nat) ⟨"ExplainDifferenceModel", "thrown", "()I"⟩),
  (Jvm.Cond.methodLink "ExplainDifferenceLaw" (83 : Nat) ⟨"ExplainDifferenceModel", "put", "(IIII)I"⟩),
  (Jvm.Cond.methodLink "ExplainDifferenceModel" (121 : Nat) ⟨"ExplainDifferenceModel", "newAct", "(IIIIII)I"⟩),
  (Jvm.Cond.methodLink "ExplainDifferenceModel" (117 : Nat) ⟨"ExplainDifferenceModel", "not", "(III)Z"⟩),
  (Jvm.Cond.methodLink "ExplainDifferenceLaw" (89 : Nat) ⟨"ExplainDifferenceModel", "take", "(IIII)I"⟩),
  (Jvm.Cond.methodLink "ExplainDifferenceLaw" (93 : Nat) ⟨"ExplainDifferenceModel", "move", "(IIIII)I"⟩),
  (Jvm.Cond.methodLink "ExplainDifferenceLaw" (97 : Nat) ⟨"ExplainDifferenceModel", "closed", "(IZ)I"⟩),
  (Jvm.Cond.methodLink "ExplainDifferenceModel" (125 : Nat) ⟨"ExplainDifferenceModel", "noAct", "(I)Z"⟩),
  (Jvm.Cond.methodLink "ExplainDifferenceLaw" (101 : Nat) ⟨"ExplainDifferenceModel", "window", "(II)I"⟩),
  (Jvm.Cond.methodLink "ExplainDifferenceModel" (128 : Nat) ⟨"ExplainDifferenceModel", "howMany", "()I"⟩),
  (Jvm.Cond.methodLink "ExplainDifferenceModel" (102 : Nat) ⟨"ExplainDifferenceModel", "isCandidate", "(I)Z"⟩),
  (Jvm.Cond.methodLink "ExplainDifferenceLaw" (105 : Nat) ⟨"ExplainDifferenceModel", "counted", "(III)I"⟩),
  (Jvm.Cond.methodLink "ExplainDifferenceModel" (133 : Nat) ⟨"ExplainDifferenceModel", "differences", "()I"⟩),
  (Jvm.Cond.methodLink "ExplainDifferenceModel" (99 : Nat) ⟨"ExplainDifferenceModel", "differenceOf", "(I)I"⟩),
  (Jvm.Cond.methodLink "ExplainDifferenceModel" (96 : Nat) ⟨"ExplainDifferenceModel", "expectedOf", "(I)I"⟩),
  (Jvm.Cond.methodLink "ExplainDifferenceModel" (88 : Nat) ⟨"ExplainDifferenceModel", "times", "(I)I"⟩),
  (Jvm.Cond.methodLink "ExplainDifferenceModel" (92 : Nat) ⟨"ExplainDifferenceModel", "adds", "(II)I"⟩),
  (Jvm.Cond.methodLink "ExplainDifferenceLaw" (108 : Nat) ⟨"ExplainDifferenceModel", "expected", "(II)I"⟩),
  (Jvm.Cond.methodLink "ExplainDifferenceLaw" (111 : Nat) ⟨"ExplainDifferenceModel", "differ", "(II)I"⟩),
  (Jvm.Cond.methodLink "ExplainDifferenceLaw" (114 : Nat) ⟨"ExplainDifferenceModel", "search", "(II)I"⟩),
  (Jvm.Cond.methodLink "ExplainDifferenceModel" (136 : Nat) ⟨"ExplainDifferenceModel", "goThrough", "(II)Z"⟩),
  (Jvm.Cond.methodLink "ExplainDifferenceModel" (110 : Nat) ⟨"ExplainDifferenceModel", "apply", "(II)V"⟩),
  (Jvm.Cond.methodLink "ExplainDifferenceModel" (106 : Nat) ⟨"ExplainDifferenceModel", "add", "(II)V"⟩),
  (Jvm.Cond.methodLink "ExplainDifferenceModel" (113 : Nat) ⟨"ExplainDifferenceModel", "foundOne", "(I)V"⟩),
  (Jvm.Cond.methodLink "ExplainDifferenceLaw" (119 : Nat) ⟨"ExplainDifferenceModel", "exact", "()Z"⟩),
  (Jvm.Cond.methodLink "ExplainDifferenceLaw" (123 : Nat) ⟨"ExplainDifferenceModel", "steps", "()I"⟩),
  (Jvm.Cond.methodLink "ExplainDifferenceLaw" (127 : Nat) ⟨"ExplainDifferenceModel", "ties", "()I"⟩),
  (Jvm.Cond.methodLink "ExplainDifferenceLaw" (131 : Nat) ⟨"ExplainDifferenceModel", "often", "(I)I"⟩),
  (Jvm.Cond.methodLink "ExplainDifferenceLaw" (134 : Nat) ⟨"ExplainDifferenceModel", "found", "(II)I"⟩),
  (Jvm.Cond.methodLink "ExplainDifferenceLaw" (138 : Nat) ⟨"ExplainDifferenceModel", "accept", "()I"⟩),
  (Jvm.Cond.methodLink "ExplainDifferenceLaw" (141 : Nat) ⟨"ExplainDifferenceModel", "back", "(I)I"⟩),
  (Jvm.Cond.methodLink "ExplainDifferenceLaw" (144 : Nat) ⟨"ExplainDifferenceModel", "share", "(II)I"⟩),
  (Jvm.Cond.methodLink "ExplainDifferenceLaw" (147 : Nat) ⟨"ExplainDifferenceModel", "told", "(II)I"⟩),
  (Jvm.Cond.methodLink "ExplainDifferenceLaw" (150 : Nat) ⟨"ExplainDifferenceModel", "of", "(III)I"⟩),
  (Jvm.Cond.methodLink "ExplainDifferenceModel" (141 : Nat) ⟨"ExplainDifferenceModel", "touches", "(II)Z"⟩),
  (Jvm.Cond.methodLink "ExplainDifferenceLaw" (154 : Nat) ⟨"ExplainDifferenceModel", "count", "(I)I"⟩)]
theorem mj_wM_p : mj_wM = ([44, 47, 52, 55, 58, 95, 98, 153, 157, 161, 165, 169, 173, 177, 181, 184, 188, 195, 202, 206, 210, 214, 219, 223, 227, 230, 231, 259, 264, 272, 278, 281, 284, 287, 304, 308, 322, 325, 328, 332, 336, 340, 343, 347, 350, 354, 358, 362, 375, 378, 381, 384, 388, 391, 396, 397, 401, 404, 408, 411, 415, 419, 420, 423, 427, 431, 435, 436, 440, 441, 445, 449, 452, 456, 457, 460, 464, 467, 471, 475, 479, 493, 496, 499, 503, 510, 513, 518, 519, 523, 538, 541, 544, 547, 551, 552, 555, 559, 563, 568, 571, 649, 653, 657, 661, 664, 668, 672, 676, 680, 684, 688, 692, 697, 701, 705, 709, 713, 717, 721, 725, 729, 733, 737, 741, 745, 749, 753, 757, 761, 765, 769, 773, 778, 782, 786, 790] : List Nat).filterMap (fun i => lw_tbl[i]?) := by decide +kernel
theorem mj_wM_g : mj_wM.all goodWord = true := by decide +kernel
def mj_wI : List Cond := [(Jvm.Cond.instanceMethod ⟨"ExplainDifference", "<init>", "()V"⟩),
  (Jvm.Cond.instanceMethod ⟨"java/lang/Object", "<init>", "()V"⟩),
  (Jvm.Cond.instanceMethod ⟨"ExplainDifference$Ledger", "<init>", "()V"⟩),
  (Jvm.Cond.instanceMethod ⟨"ExplainDifference$Seeker", "<init>", "()V"⟩),
  (Jvm.Cond.instanceMethod ⟨"ExplainDifference", "exact", "()Z"⟩),
  (Jvm.Cond.instanceMethod ⟨"ExplainDifference", "steps", "()I"⟩),
  (Jvm.Cond.instanceMethod ⟨"ExplainDifference", "ties", "()I"⟩),
  (Jvm.Cond.instanceMethod ⟨"ExplainDifference", "count", "(I)I"⟩),
  (Jvm.Cond.instanceMethod ⟨"ExplainDifference$Ledger", "piecesOfDifferences", "()I"⟩),
  (Jvm.Cond.instanceMethod ⟨"ExplainDifference$Ledger", "differs", "(I)I"⟩),
  (Jvm.Cond.instanceMethod ⟨"ExplainDifference$Ledger", "gap", "(I)I"⟩),
  (Jvm.Cond.instanceMethod ⟨"ExplainDifference$Ledger", "candidates", "()I"⟩),
  (Jvm.Cond.instanceMethod ⟨"ExplainDifference$Ledger", "isCandidate", "(I)Z"⟩),
  (Jvm.Cond.instanceMethod ⟨"ExplainDifference$Ledger", "isAtCountedCell", "([I)Z"⟩),
  (Jvm.Cond.instanceMethod ⟨"ExplainDifference$Ledger", "isCounted", "(I)Z"⟩),
  (Jvm.Cond.instanceMethod ⟨"ExplainDifference$Ledger", "actsWith", "(II)I"⟩),
  (Jvm.Cond.instanceMethod ⟨"ExplainDifference$Ledger", "countedCells", "()I"⟩),
  (Jvm.Cond.instanceMethod ⟨"ExplainDifference", "put", "(IIII)I"⟩),
  (Jvm.Cond.instanceMethod ⟨"ExplainDifference", "needAct", "(IIII)V"⟩),
  (Jvm.Cond.instanceMethod ⟨"java/lang/Throwable", "<init>", "()V"⟩),
  (Jvm.Cond.instanceMethod ⟨"java/lang/Throwable", "fillInStackTrace", "()Ljava/lang/Throwable;"⟩),
  (Jvm.Cond.instanceMethod ⟨"java/lang/Throwable", "fillInStackTrace", "(I)Ljava/lang/Throwable;"⟩),
  (Jvm.Cond.instanceMethod ⟨"java/lang/IllegalArgumentException", "<init>", "(Ljava/lang/String;)V"⟩),
  (Jvm.Cond.instanceMethod ⟨"java/lang/RuntimeException", "<init>", "(Ljava/lang/String;)V"⟩),
  (Jvm.Cond.instanceMethod ⟨"java/lang/Exception", "<init>", "(Ljava/lang/String;)V"⟩),
  (Jvm.Cond.instanceMethod ⟨"java/lang/Throwable", "<init>", "(Ljava/lang/String;)V"⟩),
  (Jvm.Cond.instanceMethod ⟨"ExplainDifference$Ledger", "lastTime", "()I"⟩),
  (Jvm.Cond.instanceMethod ⟨"ExplainDifference", "needRoom", "()V"⟩),
  (Jvm.Cond.instanceMethod ⟨"java/lang/UnsupportedOperationException", "<init>", "(Ljava/lang/String;)V"⟩),
  (Jvm.Cond.instanceMethod ⟨"ExplainDifference$Ledger", "add", "(IIIIII)I"⟩),
  (Jvm.Cond.instanceMethod ⟨"ExplainDifference$Ledger", "carry", "(II)V"⟩),
  (Jvm.Cond.instanceMethod ⟨"ExplainDifference$Ledger", "shift", "(II)V"⟩),
  (Jvm.Cond.instanceMethod ⟨"ExplainDifference", "take", "(IIII)I"⟩),
  (Jvm.Cond.instanceMethod ⟨"ExplainDifference", "move", "(IIIII)I"⟩),
  (Jvm.Cond.instanceMethod ⟨"ExplainDifference", "closed", "(IZ)I"⟩),
  (Jvm.Cond.instanceMethod ⟨"java/util/NoSuchElementException", "<init>", "(Ljava/lang/String;)V"⟩),
  (Jvm.Cond.instanceMethod ⟨"ExplainDifference", "window", "(II)I"⟩),
  (Jvm.Cond.instanceMethod ⟨"ExplainDifference", "counted", "(III)I"⟩),
  (Jvm.Cond.instanceMethod ⟨"ExplainDifference$Ledger", "tell", "(II)V"⟩),
  (Jvm.Cond.instanceMethod ⟨"ExplainDifference", "expected", "(II)I"⟩),
  (Jvm.Cond.instanceMethod ⟨"ExplainDifference", "differ", "(II)I"⟩),
  (Jvm.Cond.instanceMethod ⟨"ExplainDifference$Ledger", "differingCell", "(I)I"⟩),
  (Jvm.Cond.instanceMethod ⟨"ExplainDifference", "search", "(II)I"⟩),
  (Jvm.Cond.instanceMethod ⟨"ExplainDifference$Seeker", "seek", "(LExplainDifference$Ledger;II)I"⟩),
  (Jvm.Cond.instanceMethod ⟨"ExplainDifference$Seeker", "begin", "(I)V"⟩),
  (Jvm.Cond.instanceMethod ⟨"ExplainDifference$Seeker", "gatherChoices", "(LExplainDifference$Ledger;)V"⟩),
  (Jvm.Cond.instanceMethod ⟨"ExplainDifference$Seeker", "extend", "(LExplainDifference$Ledger;II)Z"⟩),
  (Jvm.Cond.instanceMethod ⟨"ExplainDifference$Seeker", "note", "()V"⟩),
  (Jvm.Cond.instanceMethod ⟨"ExplainDifference$Seeker", "attempt", "(LExplainDifference$Ledger;III)Z"⟩),
  (Jvm.Cond.instanceMethod ⟨"ExplainDifference", "often", "(I)I"⟩),
  (Jvm.Cond.instanceMethod ⟨"ExplainDifference", "found", "(II)I"⟩),
  (Jvm.Cond.instanceMethod ⟨"ExplainDifference", "accept", "()I"⟩),
  (Jvm.Cond.instanceMethod ⟨"ExplainDifference$Seeker", "isOfPlainActs", "(LExplainDifference$Ledger;)Z"⟩),
  (Jvm.Cond.instanceMethod ⟨"java/lang/IllegalStateException", "<init>", "(Ljava/lang/String;)V"⟩),
  (Jvm.Cond.instanceMethod ⟨"ExplainDifference$Seeker", "settle", "(LExplainDifference$Ledger;)V"⟩),
  (Jvm.Cond.instanceMethod ⟨"ExplainDifference$Ledger", "turn", "(II)V"⟩),
  (Jvm.Cond.instanceMethod ⟨"ExplainDifference", "back", "(I)I"⟩),
  (Jvm.Cond.instanceMethod ⟨"ExplainDifference", "share", "(II)I"⟩),
  (Jvm.Cond.instanceMethod ⟨"java/lang/ArithmeticException", "<init>", "(Ljava/lang/String;)V"⟩),
  (Jvm.Cond.instanceMethod ⟨"ExplainDifference", "told", "(II)I"⟩),
  (Jvm.Cond.instanceMethod ⟨"ExplainDifference", "of", "(III)I"⟩),
  (Jvm.Cond.instanceMethod ⟨"ExplainDifference$Ledger", "actAt", "(II)I"⟩),
  (Jvm.Cond.instanceMethod ⟨"ExplainDifferenceModel", "<init>", "()V"⟩),
  (Jvm.Cond.instanceMethod ⟨"ExplainDifferenceModel", "thrown", "()I"⟩),
  (Jvm.Cond.instanceMethod ⟨"ExplainDifferenceModel", "put", "(IIII)I"⟩),
  (Jvm.Cond.instanceMethod ⟨"ExplainDifferenceModel", "newAct", "(IIIIII)I"⟩),
  (Jvm.Cond.instanceMethod ⟨"ExplainDifferenceModel", "take", "(IIII)I"⟩),
  (Jvm.Cond.instanceMethod ⟨"ExplainDifferenceModel", "move", "(IIIII)I"⟩),
  (Jvm.Cond.instanceMethod ⟨"ExplainDifferenceModel", "closed", "(IZ)I"⟩),
  (Jvm.Cond.instanceMethod ⟨"ExplainDifferenceModel", "noAct", "(I)Z"⟩),
  (Jvm.Cond.instanceMethod ⟨"ExplainDifferenceModel", "window", "(II)I"⟩),
  (Jvm.Cond.instanceMethod ⟨"ExplainDifferenceModel", "howMany", "()I"⟩),
  (Jvm.Cond.instanceMethod ⟨"ExplainDifferenceModel", "isCandidate", "(I)Z"⟩),
  (Jvm.Cond.instanceMethod ⟨"ExplainDifferenceModel", "counted", "(III)I"⟩),
  (Jvm.Cond.instanceMethod ⟨"ExplainDifferenceModel", "differences", "()I"⟩),
  (Jvm.Cond.instanceMethod ⟨"ExplainDifferenceModel", "differenceOf", "(I)I"⟩),
  (Jvm.Cond.instanceMethod ⟨"ExplainDifferenceModel", "expectedOf", "(I)I"⟩),
  (Jvm.Cond.instanceMethod ⟨"ExplainDifferenceModel", "times", "(I)I"⟩),
  (Jvm.Cond.instanceMethod ⟨"ExplainDifferenceModel", "adds", "(II)I"⟩),
  (Jvm.Cond.instanceMethod ⟨"ExplainDifferenceModel", "expected", "(II)I"⟩),
  (Jvm.Cond.instanceMethod ⟨"ExplainDifferenceModel", "differ", "(II)I"⟩),
  (Jvm.Cond.instanceMethod ⟨"ExplainDifferenceModel", "search", "(II)I"⟩),
  (Jvm.Cond.instanceMethod ⟨"ExplainDifferenceModel", "goThrough", "(II)Z"⟩),
  (Jvm.Cond.instanceMethod ⟨"ExplainDifferenceModel", "apply", "(II)V"⟩),
  (Jvm.Cond.instanceMethod ⟨"ExplainDifferenceModel", "add", "(II)V"⟩),
  (Jvm.Cond.instanceMethod ⟨"ExplainDifferenceModel", "foundOne", "(I)V"⟩),
  (Jvm.Cond.instanceMethod ⟨"ExplainDifferenceModel", "exact", "()Z"⟩),
  (Jvm.Cond.instanceMethod ⟨"ExplainDifferenceModel", "steps", "()I"⟩),
  (Jvm.Cond.instanceMethod ⟨"ExplainDifferenceModel", "ties", "()I"⟩),
  (Jvm.Cond.instanceMethod ⟨"ExplainDifferenceModel", "often", "(I)I"⟩),
  (Jvm.Cond.instanceMethod ⟨"ExplainDifferenceModel", "found", "(II)I"⟩),
  (Jvm.Cond.instanceMethod ⟨"ExplainDifferenceModel", "accept", "()I"⟩),
  (Jvm.Cond.instanceMethod ⟨"ExplainDifferenceModel", "back", "(I)I"⟩),
  (Jvm.Cond.instanceMethod ⟨"ExplainDifferenceModel", "share", "(II)I"⟩),
  (Jvm.Cond.instanceMethod ⟨"ExplainDifferenceModel", "told", "(II)I"⟩),
  (Jvm.Cond.instanceMethod ⟨"ExplainDifferenceModel", "of", "(III)I"⟩),
  (Jvm.Cond.instanceMethod ⟨"ExplainDifferenceModel", "touches", "(II)Z"⟩),
  (Jvm.Cond.instanceMethod ⟨"ExplainDifferenceModel", "count", "(I)I"⟩)]
theorem mj_wI_p : mj_wI = ([45, 48, 53, 96, 154, 158, 162, 166, 170, 175, 178, 185, 189, 197, 204, 207, 211, 220, 225, 257, 265, 274, 279, 282, 285, 288, 305, 310, 323, 329, 333, 338, 344, 351, 359, 376, 385, 392, 398, 405, 412, 416, 424, 428, 433, 438, 443, 447, 454, 461, 468, 476, 480, 494, 500, 504, 514, 524, 539, 548, 556, 560, 569, 650, 654, 659, 665, 669, 673, 678, 681, 686, 690, 693, 699, 703, 707, 711, 715, 718, 722, 726, 731, 735, 739, 743, 746, 750, 754, 758, 762, 766, 770, 774, 779, 783, 788, 791] : List Nat).filterMap (fun i => lw_tbl[i]?) := by decide +kernel
theorem mj_wI_g : mj_wI.all goodWord = true := by decide +kernel
def mj_wS : List Cond := [(Jvm.Cond.selects "ExplainDifference$Ledger" ⟨"ExplainDifference$Ledger", "differs", "(I)I"⟩ ⟨"ExplainDifference$Ledger", "differs", "(I)I"⟩),
  (Jvm.Cond.selects "ExplainDifference$Ledger" ⟨"ExplainDifference$Ledger", "isAtCountedCell", "([I)Z"⟩ ⟨"ExplainDifference$Ledger", "isAtCountedCell", "([I)Z"⟩),
  (Jvm.Cond.selects "ExplainDifference$Ledger" ⟨"ExplainDifference$Ledger", "isCounted", "(I)Z"⟩ ⟨"ExplainDifference$Ledger", "isCounted", "(I)Z"⟩),
  (Jvm.Cond.selects "ExplainDifference" ⟨"ExplainDifference", "needAct", "(IIII)V"⟩ ⟨"ExplainDifference", "needAct", "(IIII)V"⟩),
  (Jvm.Cond.selects "java/lang/Throwable" ⟨"java/lang/Throwable", "fillInStackTrace", "(I)Ljava/lang/Throwable;"⟩ ⟨"java/lang/Throwable", "fillInStackTrace", "(I)Ljava/lang/Throwable;"⟩),
  (Jvm.Cond.selects "ExplainDifference" ⟨"ExplainDifference", "needRoom", "()V"⟩ ⟨"ExplainDifference", "needRoom", "()V"⟩),
  (Jvm.Cond.selects "ExplainDifference$Ledger" ⟨"ExplainDifference$Ledger", "shift", "(II)V"⟩ ⟨"ExplainDifference$Ledger", "shift", "(II)V"⟩),
  (Jvm.Cond.selects "ExplainDifference$Seeker" ⟨"ExplainDifference$Seeker", "begin", "(I)V"⟩ ⟨"ExplainDifference$Seeker", "begin", "(I)V"⟩),
  (Jvm.Cond.selects "ExplainDifference$Seeker" ⟨"ExplainDifference$Seeker", "gatherChoices", "(LExplainDifference$Ledger;)V"⟩ ⟨"ExplainDifference$Seeker", "gatherChoices", "(LExplainDifference$Ledger;)V"⟩),
  (Jvm.Cond.selects "ExplainDifference$Seeker" ⟨"ExplainDifference$Seeker", "extend", "(LExplainDifference$Ledger;II)Z"⟩ ⟨"ExplainDifference$Seeker", "extend", "(LExplainDifference$Ledger;II)Z"⟩),
  (Jvm.Cond.selects "ExplainDifference$Seeker" ⟨"ExplainDifference$Seeker", "note", "()V"⟩ ⟨"ExplainDifference$Seeker", "note", "()V"⟩),
  (Jvm.Cond.selects "ExplainDifference$Seeker" ⟨"ExplainDifference$Seeker", "attempt", "(LExplainDifference$Ledger;III)Z"⟩ ⟨"ExplainDifference$Seeker", "attempt", "(LExplainDifference$Ledger;III)Z"⟩),
  (Jvm.Cond.selects "ExplainDifferenceModel" ⟨"ExplainDifferenceModel", "newAct", "(IIIIII)I"⟩ ⟨"ExplainDifferenceModel", "newAct", "(IIIIII)I"⟩),
  (Jvm.Cond.selects "ExplainDifferenceModel" ⟨"ExplainDifferenceModel", "noAct", "(I)Z"⟩ ⟨"ExplainDifferenceModel", "noAct", "(I)Z"⟩),
  (Jvm.Cond.selects "ExplainDifferenceModel" ⟨"ExplainDifferenceModel", "howMany", "()I"⟩ ⟨"ExplainDifferenceModel", "howMany", "()I"⟩),
  (Jvm.Cond.selects "ExplainDifferenceModel" ⟨"ExplainDifferenceModel", "isCandidate", "(I)Z"⟩ ⟨"ExplainDifferenceModel", "isCandidate", "(I)Z"⟩),
  (Jvm.Cond.selects "ExplainDifferenceModel" ⟨"ExplainDifferenceModel", "differences", "()I"⟩ ⟨"ExplainDifferenceModel", "differences", "()I"⟩),
  (Jvm.Cond.selects "ExplainDifferenceModel" ⟨"ExplainDifferenceModel", "differenceOf", "(I)I"⟩ ⟨"ExplainDifferenceModel", "differenceOf", "(I)I"⟩),
  (Jvm.Cond.selects "ExplainDifferenceModel" ⟨"ExplainDifferenceModel", "expectedOf", "(I)I"⟩ ⟨"ExplainDifferenceModel", "expectedOf", "(I)I"⟩),
  (Jvm.Cond.selects "ExplainDifferenceModel" ⟨"ExplainDifferenceModel", "times", "(I)I"⟩ ⟨"ExplainDifferenceModel", "times", "(I)I"⟩),
  (Jvm.Cond.selects "ExplainDifferenceModel" ⟨"ExplainDifferenceModel", "adds", "(II)I"⟩ ⟨"ExplainDifferenceModel", "adds", "(II)I"⟩),
  (Jvm.Cond.selects "ExplainDifferenceModel" ⟨"ExplainDifferenceModel", "goThrough", "(II)Z"⟩ ⟨"ExplainDifferenceModel", "goThrough", "(II)Z"⟩),
  (Jvm.Cond.selects "ExplainDifferenceModel" ⟨"ExplainDifferenceModel", "apply", "(II)V"⟩ ⟨"ExplainDifferenceModel", "apply", "(II)V"⟩),
  (Jvm.Cond.selects "ExplainDifferenceModel" ⟨"ExplainDifferenceModel", "add", "(II)V"⟩ ⟨"ExplainDifferenceModel", "add", "(II)V"⟩),
  (Jvm.Cond.selects "ExplainDifferenceModel" ⟨"ExplainDifferenceModel", "foundOne", "(I)V"⟩ ⟨"ExplainDifferenceModel", "foundOne", "(I)V"⟩),
  (Jvm.Cond.selects "ExplainDifferenceModel" ⟨"ExplainDifferenceModel", "touches", "(II)Z"⟩ ⟨"ExplainDifferenceModel", "touches", "(II)Z"⟩),
  (Jvm.Cond.selects "ExplainDifference" ⟨"ExplainDifference", "exact", "()Z"⟩ ⟨"ExplainDifference", "exact", "()Z"⟩),
  (Jvm.Cond.selects "ExplainDifference" ⟨"ExplainDifference", "steps", "()I"⟩ ⟨"ExplainDifference", "steps", "()I"⟩),
  (Jvm.Cond.selects "ExplainDifference" ⟨"ExplainDifference", "ties", "()I"⟩ ⟨"ExplainDifference", "ties", "()I"⟩),
  (Jvm.Cond.selects "ExplainDifference" ⟨"ExplainDifference", "count", "(I)I"⟩ ⟨"ExplainDifference", "count", "(I)I"⟩),
  (Jvm.Cond.selects "ExplainDifference$Ledger" ⟨"ExplainDifference$Ledger", "piecesOfDifferences", "()I"⟩ ⟨"ExplainDifference$Ledger", "piecesOfDifferences", "()I"⟩),
  (Jvm.Cond.selects "ExplainDifference$Ledger" ⟨"ExplainDifference$Ledger", "gap", "(I)I"⟩ ⟨"ExplainDifference$Ledger", "gap", "(I)I"⟩),
  (Jvm.Cond.selects "ExplainDifference$Ledger" ⟨"ExplainDifference$Ledger", "candidates", "()I"⟩ ⟨"ExplainDifference$Ledger", "candidates", "()I"⟩),
  (Jvm.Cond.selects "ExplainDifference$Ledger" ⟨"ExplainDifference$Ledger", "isCandidate", "(I)Z"⟩ ⟨"ExplainDifference$Ledger", "isCandidate", "(I)Z"⟩),
  (Jvm.Cond.selects "ExplainDifference$Ledger" ⟨"ExplainDifference$Ledger", "actsWith", "(II)I"⟩ ⟨"ExplainDifference$Ledger", "actsWith", "(II)I"⟩),
  (Jvm.Cond.selects "ExplainDifference$Ledger" ⟨"ExplainDifference$Ledger", "countedCells", "()I"⟩ ⟨"ExplainDifference$Ledger", "countedCells", "()I"⟩),
  (Jvm.Cond.selects "ExplainDifference" ⟨"ExplainDifference", "put", "(IIII)I"⟩ ⟨"ExplainDifference", "put", "(IIII)I"⟩),
  (Jvm.Cond.selects "java/lang/IllegalArgumentException" ⟨"java/lang/Throwable", "fillInStackTrace", "(I)Ljava/lang/Throwable;"⟩ ⟨"java/lang/Throwable", "fillInStackTrace", "(I)Ljava/lang/Throwable;"⟩),
  (Jvm.Cond.selects "java/lang/IllegalArgumentException" ⟨"java/lang/Throwable", "fillInStackTrace", "()Ljava/lang/Throwable;"⟩ ⟨"java/lang/Throwable", "fillInStackTrace", "()Ljava/lang/Throwable;"⟩),
  (Jvm.Cond.selects "java/lang/ArithmeticException" ⟨"java/lang/Throwable", "fillInStackTrace", "()Ljava/lang/Throwable;"⟩ ⟨"java/lang/Throwable", "fillInStackTrace", "()Ljava/lang/Throwable;"⟩),
  (Jvm.Cond.selects "java/lang/IllegalStateException" ⟨"java/lang/Throwable", "fillInStackTrace", "()Ljava/lang/Throwable;"⟩ ⟨"java/lang/Throwable", "fillInStackTrace", "()Ljava/lang/Throwable;"⟩),
  (Jvm.Cond.selects "java/lang/UnsupportedOperationException" ⟨"java/lang/Throwable", "fillInStackTrace", "()Ljava/lang/Throwable;"⟩ ⟨"java/lang/Throwable", "fillInStackTrace", "()Ljava/lang/Throwable;"⟩),
  (Jvm.Cond.selects "java/util/NoSuchElementException" ⟨"java/lang/Throwable", "fillInStackTrace", "()Ljava/lang/Throwable;"⟩ ⟨"java/lang/Throwable", "fillInStackTrace", "()Ljava/lang/Throwable;"⟩),
  (Jvm.Cond.selects "ExplainDifference$Ledger" ⟨"ExplainDifference$Ledger", "lastTime", "()I"⟩ ⟨"ExplainDifference$Ledger", "lastTime", "()I"⟩),
  (Jvm.Cond.selects "java/lang/UnsupportedOperationException" ⟨"java/lang/Throwable", "fillInStackTrace", "(I)Ljava/lang/Throwable;"⟩ ⟨"java/lang/Throwable", "fillInStackTrace", "(I)Ljava/lang/Throwable;"⟩),
  (Jvm.Cond.selects "ExplainDifference$Ledger" ⟨"ExplainDifference$Ledger", "add", "(IIIIII)I"⟩ ⟨"ExplainDifference$Ledger", "add", "(IIIIII)I"⟩),
  (Jvm.Cond.selects "ExplainDifference$Ledger" ⟨"ExplainDifference$Ledger", "carry", "(II)V"⟩ ⟨"ExplainDifference$Ledger", "carry", "(II)V"⟩),
  (Jvm.Cond.selects "ExplainDifference" ⟨"ExplainDifference", "take", "(IIII)I"⟩ ⟨"ExplainDifference", "take", "(IIII)I"⟩),
  (Jvm.Cond.selects "ExplainDifference" ⟨"ExplainDifference", "move", "(IIIII)I"⟩ ⟨"ExplainDifference", "move", "(IIIII)I"⟩),
  (Jvm.Cond.selects "ExplainDifference" ⟨"ExplainDifference", "closed", "(IZ)I"⟩ ⟨"ExplainDifference", "closed", "(IZ)I"⟩),
  (Jvm.Cond.selects "java/util/NoSuchElementException" ⟨"java/lang/Throwable", "fillInStackTrace", "(I)Ljava/lang/Throwable;"⟩ ⟨"java/lang/Throwable", "fillInStackTrace", "(I)Ljava/lang/Throwable;"⟩),
  (Jvm.Cond.selects "ExplainDifference" ⟨"ExplainDifference", "window", "(II)I"⟩ ⟨"ExplainDifference", "window", "(II)I"⟩),
  (Jvm.Cond.selects "ExplainDifference" ⟨"ExplainDifference", "counted", "(III)I"⟩ ⟨"ExplainDifference", "counted", "(III)I"⟩),
  (Jvm.Cond.selects "ExplainDifference$Ledger" ⟨"ExplainDifference$Ledger", "tell", "(II)V"⟩ ⟨"ExplainDifference$Ledger", "tell", "(II)V"⟩),
  (Jvm.Cond.selects "ExplainDifference" ⟨"ExplainDifference", "expected", "(II)I"⟩ ⟨"ExplainDifference", "expected", "(II)I"⟩),
  (Jvm.Cond.selects "ExplainDifference" ⟨"ExplainDifference", "differ", "(II)I"⟩ ⟨"ExplainDifference", "differ", "(II)I"⟩),
  (Jvm.Cond.selects "ExplainDifference$Ledger" ⟨"ExplainDifference$Ledger", "differingCell", "(I)I"⟩ ⟨"ExplainDifference$Ledger", "differingCell", "(I)I"⟩),
  (Jvm.Cond.selects "ExplainDifference" ⟨"ExplainDifference", "search", "(II)I"⟩ ⟨"ExplainDifference", "search", "(II)I"⟩),
  (Jvm.Cond.selects "ExplainDifference$Seeker" ⟨"ExplainDifference$Seeker", "seek", "(LExplainDifference$Ledger;II)I"⟩ ⟨"ExplainDifference$Seeker", "seek", "(LExplainDifference$Ledger;II)I"⟩),
  (Jvm.Cond.selects "ExplainDifference" ⟨"ExplainDifference", "often", "(I)I"⟩ ⟨"ExplainDifference", "often", "(I)I"⟩),
  (Jvm.Cond.selects "ExplainDifference" ⟨"ExplainDifference", "found", "(II)I"⟩ ⟨"ExplainDifference", "found", "(II)I"⟩),
  (Jvm.Cond.selects "ExplainDifference" ⟨"ExplainDifference", "accept", "()I"⟩ ⟨"ExplainDifference", "accept", "()I"⟩),
  (Jvm.Cond.selects "ExplainDifference$Seeker" ⟨"ExplainDifference$Seeker", "isOfPlainActs", "(LExplainDifference$Ledger;)Z"⟩ ⟨"ExplainDifference$Seeker", "isOfPlainActs", "(LExplainDifference$Ledger;)Z"⟩),
  (Jvm.Cond.selects "java/lang/IllegalStateException" ⟨"java/lang/Throwable", "fillInStackTrace", "(I)Ljava/lang/Throwable;"⟩ ⟨"java/lang/Throwable", "fillInStackTrace", "(I)Ljava/lang/Throwable;"⟩),
  (Jvm.Cond.selects "ExplainDifference$Seeker" ⟨"ExplainDifference$Seeker", "settle", "(LExplainDifference$Ledger;)V"⟩ ⟨"ExplainDifference$Seeker", "settle", "(LExplainDifference$Ledger;)V"⟩),
  (Jvm.Cond.selects "ExplainDifference$Ledger" ⟨"ExplainDifference$Ledger", "turn", "(II)V"⟩ ⟨"ExplainDifference$Ledger", "turn", "(II)V"⟩),
  (Jvm.Cond.selects "ExplainDifference" ⟨"ExplainDifference", "back", "(I)I"⟩ ⟨"ExplainDifference", "back", "(I)I"⟩),
  (Jvm.Cond.selects "ExplainDifference" ⟨"ExplainDifference", "share", "(II)I"⟩ ⟨"ExplainDifference", "share", "(II)I"⟩),
  (Jvm.Cond.selects "java/lang/ArithmeticException" ⟨"java/lang/Throwable", "fillInStackTrace", "(I)Ljava/lang/Throwable;"⟩ ⟨"java/lang/Throwable", "fillInStackTrace", "(I)Ljava/lang/Throwable;"⟩),
  (Jvm.Cond.selects "ExplainDifference" ⟨"ExplainDifference", "told", "(II)I"⟩ ⟨"ExplainDifference", "told", "(II)I"⟩),
  (Jvm.Cond.selects "ExplainDifference" ⟨"ExplainDifference", "of", "(III)I"⟩ ⟨"ExplainDifference", "of", "(III)I"⟩),
  (Jvm.Cond.selects "ExplainDifference$Ledger" ⟨"ExplainDifference$Ledger", "actAt", "(II)I"⟩ ⟨"ExplainDifference$Ledger", "actAt", "(II)I"⟩),
  (Jvm.Cond.selects "ExplainDifferenceModel" ⟨"ExplainDifferenceModel", "thrown", "()I"⟩ ⟨"ExplainDifferenceModel", "thrown", "()I"⟩),
  (Jvm.Cond.selects "ExplainDifferenceModel" ⟨"ExplainDifferenceModel", "put", "(IIII)I"⟩ ⟨"ExplainDifferenceModel", "put", "(IIII)I"⟩),
  (Jvm.Cond.selects "ExplainDifferenceModel" ⟨"ExplainDifferenceModel", "take", "(IIII)I"⟩ ⟨"ExplainDifferenceModel", "take", "(IIII)I"⟩),
  (Jvm.Cond.selects "ExplainDifferenceModel" ⟨"ExplainDifferenceModel", "move", "(IIIII)I"⟩ ⟨"ExplainDifferenceModel", "move", "(IIIII)I"⟩),
  (Jvm.Cond.selects "ExplainDifferenceModel" ⟨"ExplainDifferenceModel", "closed", "(IZ)I"⟩ ⟨"ExplainDifferenceModel", "closed", "(IZ)I"⟩),
  (Jvm.Cond.selects "ExplainDifferenceModel" ⟨"ExplainDifferenceModel", "window", "(II)I"⟩ ⟨"ExplainDifferenceModel", "window", "(II)I"⟩),
  (Jvm.Cond.selects "ExplainDifferenceModel" ⟨"ExplainDifferenceModel", "counted", "(III)I"⟩ ⟨"ExplainDifferenceModel", "counted", "(III)I"⟩),
  (Jvm.Cond.selects "ExplainDifferenceModel" ⟨"ExplainDifferenceModel", "expected", "(II)I"⟩ ⟨"ExplainDifferenceModel", "expected", "(II)I"⟩),
  (Jvm.Cond.selects "ExplainDifferenceModel" ⟨"ExplainDifferenceModel", "differ", "(II)I"⟩ ⟨"ExplainDifferenceModel", "differ", "(II)I"⟩),
  (Jvm.Cond.selects "ExplainDifferenceModel" ⟨"ExplainDifferenceModel", "search", "(II)I"⟩ ⟨"ExplainDifferenceModel", "search", "(II)I"⟩),
  (Jvm.Cond.selects "ExplainDifferenceModel" ⟨"ExplainDifferenceModel", "exact", "()Z"⟩ ⟨"ExplainDifferenceModel", "exact", "()Z"⟩),
  (Jvm.Cond.selects "ExplainDifferenceModel" ⟨"ExplainDifferenceModel", "steps", "()I"⟩ ⟨"ExplainDifferenceModel", "steps", "()I"⟩),
  (Jvm.Cond.selects "ExplainDifferenceModel" ⟨"ExplainDifferenceModel", "ties", "()I"⟩ ⟨"ExplainDifferenceModel", "ties", "()I"⟩),
  (Jvm.Cond.selects "ExplainDifferenceModel" ⟨"ExplainDifferenceModel", "often", "(I)I"⟩ ⟨"ExplainDifferenceModel", "often", "(I)I"⟩),
  (Jvm.Cond.selects "ExplainDifferenceModel" ⟨"ExplainDifferenceModel", "found", "(II)I"⟩ ⟨"ExplainDifferenceModel", "found", "(II)I"⟩),
  (Jvm.Cond.selects "ExplainDifferenceModel" ⟨"ExplainDifferenceModel", "accept", "()I"⟩ ⟨"ExplainDifferenceModel", "accept", "()I"⟩),
  (Jvm.Cond.selects "ExplainDifferenceModel" ⟨"ExplainDifferenceModel", "back", "(I)I"⟩ ⟨"ExplainDifferenceModel", "back", "(I)I"⟩),
  (Jvm.Cond.selects "ExplainDifferenceModel" ⟨"ExplainDifferenceModel", "share", "(II)I"⟩ ⟨"ExplainDifferenceModel", "share", "(II)I"⟩),
  (Jvm.Cond.selects "ExplainDifferenceModel" ⟨"ExplainDifferenceModel", "told", "(II)I"⟩ ⟨"ExplainDifferenceModel", "told", "(II)I"⟩),
  (Jvm.Cond.selects "ExplainDifferenceModel" ⟨"ExplainDifferenceModel", "of", "(III)I"⟩ ⟨"ExplainDifferenceModel", "of", "(III)I"⟩),
  (Jvm.Cond.selects "ExplainDifferenceModel" ⟨"ExplainDifferenceModel", "count", "(I)I"⟩ ⟨"ExplainDifferenceModel", "count", "(I)I"⟩)]
theorem mj_wS_p : mj_wS = ([0, 1, 2, 3, 4, 5, 6, 7, 8, 9, 10, 11, 12, 13, 14, 15, 16, 17, 18, 19, 20, 21, 22, 23, 24, 25, 155, 159, 163, 167, 171, 179, 186, 190, 208, 212, 221, 243, 244, 267, 268, 269, 270, 306, 315, 330, 334, 345, 352, 360, 368, 386, 393, 399, 406, 413, 417, 425, 429, 462, 469, 477, 481, 486, 501, 505, 515, 525, 531, 549, 557, 561, 651, 655, 666, 670, 674, 682, 694, 719, 723, 727, 747, 751, 755, 759, 763, 767, 771, 775, 780, 784, 792] : List Nat).filterMap (fun i => lw_tbl[i]?) := by decide +kernel
theorem mj_wS_g : mj_wS.all goodWord = true := by decide +kernel
def mj_wT : List Cond := [(Jvm.Cond.static ⟨"java/util/Arrays", "fill", "([II)V"⟩),
  (Jvm.Cond.static ⟨"java/lang/Math", "abs", "(I)I"⟩),
  (Jvm.Cond.static ⟨"ExplainDifference", "isWithin", "(III)Z"⟩),
  (Jvm.Cond.static ⟨"ExplainDifference", "cellOf", "(II)I"⟩),
  (Jvm.Cond.static ⟨"ExplainDifferenceLaw", "put", "(LExplainDifference;IIII[J)I"⟩),
  (Jvm.Cond.static ⟨"ExplainDifference", "needCell", "(II)V"⟩),
  (Jvm.Cond.static ⟨"ExplainDifference", "need", "(Z)V"⟩),
  (Jvm.Cond.static ⟨"ExplainDifferenceLaw", "take", "(LExplainDifference;IIII[J)I"⟩),
  (Jvm.Cond.static ⟨"ExplainDifferenceLaw", "move", "(LExplainDifference;IIIII[J)I"⟩),
  (Jvm.Cond.static ⟨"ExplainDifferenceLaw", "closed", "(LExplainDifference;IZ[J)I"⟩),
  (Jvm.Cond.static ⟨"ExplainDifference", "needThere", "(II)V"⟩),
  (Jvm.Cond.static ⟨"ExplainDifferenceLaw", "window", "(LExplainDifference;II[J)I"⟩),
  (Jvm.Cond.static ⟨"ExplainDifferenceLaw", "counted", "(LExplainDifference;III[J)I"⟩),
  (Jvm.Cond.static ⟨"ExplainDifferenceLaw", "expected", "(LExplainDifference;II[J)I"⟩),
  (Jvm.Cond.static ⟨"ExplainDifferenceLaw", "differ", "(LExplainDifference;II[J)I"⟩),
  (Jvm.Cond.static ⟨"ExplainDifferenceLaw", "search", "(LExplainDifference;II[J)I"⟩),
  (Jvm.Cond.static ⟨"java/lang/System", "arraycopy", "(Ljava/lang/Object;ILjava/lang/Object;II)V"⟩),
  (Jvm.Cond.static ⟨"ExplainDifferenceLaw", "often", "(LExplainDifference;I[J)I"⟩),
  (Jvm.Cond.static ⟨"ExplainDifferenceLaw", "found", "(LExplainDifference;II[J)I"⟩),
  (Jvm.Cond.static ⟨"ExplainDifferenceLaw", "accept", "(LExplainDifference;[J)I"⟩),
  (Jvm.Cond.static ⟨"ExplainDifference", "timesDone", "(I)I"⟩),
  (Jvm.Cond.static ⟨"ExplainDifferenceLaw", "back", "(LExplainDifference;I[J)I"⟩),
  (Jvm.Cond.static ⟨"ExplainDifferenceLaw", "share", "(LExplainDifference;II[J)I"⟩),
  (Jvm.Cond.static ⟨"ExplainDifferenceLaw", "told", "(LExplainDifference;II[J)I"⟩),
  (Jvm.Cond.static ⟨"ExplainDifferenceLaw", "of", "(LExplainDifference;III[J)I"⟩),
  (Jvm.Cond.static ⟨"ExplainDifference$Ledger", "isAt", "([II)Z"⟩),
  (Jvm.Cond.static ⟨"ExplainDifferenceModel", "not", "(III)Z"⟩)]
theorem mj_wT_p : mj_wT = ([59, 182, 193, 200, 215, 228, 232, 341, 348, 355, 363, 382, 389, 402, 409, 421, 450, 458, 465, 472, 508, 511, 520, 545, 553, 564, 662] : List Nat).filterMap (fun i => lw_tbl[i]?) := by decide +kernel
theorem mj_wT_g : mj_wT.all goodWord = true := by decide +kernel
def mj_wC : List Cond := [(Jvm.Cond.code ⟨"ExplainDifference", "<init>", "()V"⟩ prog_1_method_1_code (1 : Nat) (Option.none : Option Jvm.ClassFile.FieldType)),
  (Jvm.Cond.code ⟨"java/lang/Object", "<init>", "()V"⟩ object_method_1_code (1 : Nat) (Option.none : Option Jvm.ClassFile.FieldType)),
  (Jvm.Cond.code ⟨"ExplainDifference$Ledger", "<init>", "()V"⟩ prog_2_method_1_code (1 : Nat) (Option.none : Option Jvm.ClassFile.FieldType)),
  (Jvm.Cond.code ⟨"java/util/Arrays", "fill", "([II)V"⟩ prog_16_method_103_code (4 : Nat) (Option.none : Option Jvm.ClassFile.FieldType)),
  (Jvm.Cond.code ⟨"ExplainDifference$Seeker", "<init>", "()V"⟩ prog_3_method_1_code (1 : Nat) (Option.none : Option Jvm.ClassFile.FieldType)),
  (Jvm.Cond.code ⟨"ExplainDifference", "exact", "()Z"⟩ prog_1_method_11_code (1 : Nat) (Option.some Jvm.ClassFile.FieldType.boolean)),
  (Jvm.Cond.code ⟨"ExplainDifference", "steps", "()I"⟩ prog_1_method_12_code (1 : Nat) (Option.some Jvm.ClassFile.FieldType.int)),
  (Jvm.Cond.code ⟨"ExplainDifference", "ties", "()I"⟩ prog_1_method_13_code (1 : Nat) (Option.some Jvm.ClassFile.FieldType.int)),
  (Jvm.Cond.code ⟨"ExplainDifference", "count", "(I)I"⟩ prog_1_method_21_code (2 : Nat) (Option.some Jvm.ClassFile.FieldType.int)),
  (Jvm.Cond.code ⟨"ExplainDifference$Ledger", "piecesOfDifferences", "()I"⟩ prog_2_method_12_code (3 : Nat) (Option.some Jvm.ClassFile.FieldType.int)),
  (Jvm.Cond.code ⟨"ExplainDifference$Ledger", "differs", "(I)I"⟩ prog_2_method_9_code (2 : Nat) (Option.some Jvm.ClassFile.FieldType.int)),
  (Jvm.Cond.code ⟨"ExplainDifference$Ledger", "gap", "(I)I"⟩ prog_2_method_10_code (2 : Nat) (Option.some Jvm.ClassFile.FieldType.int)),
  (Jvm.Cond.code ⟨"java/lang/Math", "abs", "(I)I"⟩ prog_10_method_59_code (1 : Nat) (Option.some Jvm.ClassFile.FieldType.int)),
  (Jvm.Cond.code ⟨"ExplainDifference$Ledger", "candidates", "()I"⟩ prog_2_method_16_code (3 : Nat) (Option.some Jvm.ClassFile.FieldType.int)),
  (Jvm.Cond.code ⟨"ExplainDifference$Ledger", "isCandidate", "(I)Z"⟩ prog_2_method_14_code (3 : Nat) (Option.some Jvm.ClassFile.FieldType.boolean)),
  (Jvm.Cond.code ⟨"ExplainDifference", "isWithin", "(III)Z"⟩ prog_1_method_27_code (3 : Nat) (Option.some Jvm.ClassFile.FieldType.boolean)),
  (Jvm.Cond.code ⟨"ExplainDifference$Ledger", "isAtCountedCell", "([I)Z"⟩ prog_2_method_15_code (2 : Nat) (Option.some Jvm.ClassFile.FieldType.boolean)),
  (Jvm.Cond.code ⟨"ExplainDifference", "cellOf", "(II)I"⟩ prog_1_method_28_code (2 : Nat) (Option.some Jvm.ClassFile.FieldType.int)),
  (Jvm.Cond.code ⟨"ExplainDifference$Ledger", "isCounted", "(I)Z"⟩ prog_2_method_8_code (2 : Nat) (Option.some Jvm.ClassFile.FieldType.boolean)),
  (Jvm.Cond.code ⟨"ExplainDifference$Ledger", "actsWith", "(II)I"⟩ prog_2_method_17_code (5 : Nat) (Option.some Jvm.ClassFile.FieldType.int)),
  (Jvm.Cond.code ⟨"ExplainDifference$Ledger", "countedCells", "()I"⟩ prog_2_method_13_code (3 : Nat) (Option.some Jvm.ClassFile.FieldType.int)),
  (Jvm.Cond.codeWith ⟨"ExplainDifferenceLaw", "put", "(LExplainDifference;IIII[J)I"⟩ method_3_code (7 : Nat) (Option.some Jvm.ClassFile.FieldType.int) [((0 : Nat), (14 : Nat), (17 : Nat), (13 : Nat)), ((0 : Nat), (14 : Nat), (21 : Nat), (15 : Nat))]),
  (Jvm.Cond.code ⟨"ExplainDifference", "put", "(IIII)I"⟩ prog_1_method_2_code (5 : Nat) (Option.some Jvm.ClassFile.FieldType.int)),
  (Jvm.Cond.code ⟨"ExplainDifference", "needAct", "(IIII)V"⟩ prog_1_method_22_code (5 : Nat) (Option.none : Option Jvm.ClassFile.FieldType)),
  (Jvm.Cond.code ⟨"ExplainDifference", "needCell", "(II)V"⟩ prog_1_method_24_code (2 : Nat) (Option.none : Option Jvm.ClassFile.FieldType)),
  (Jvm.Cond.code ⟨"ExplainDifference", "need", "(Z)V"⟩ prog_1_method_26_code (1 : Nat) (Option.none : Option Jvm.ClassFile.FieldType)),
  (Jvm.Cond.code ⟨"java/lang/Throwable", "<init>", "()V"⟩ prog_14_method_1_code (1 : Nat) (Option.none : Option Jvm.ClassFile.FieldType)),
  (Jvm.Cond.code ⟨"java/lang/IllegalArgumentException", "<init>", "(Ljava/lang/String;)V"⟩ prog_8_method_2_code (2 : Nat) (Option.none : Option Jvm.ClassFile.FieldType)),
  (Jvm.Cond.code ⟨"java/lang/RuntimeException", "<init>", "(Ljava/lang/String;)V"⟩ prog_11_method_2_code (2 : Nat) (Option.none : Option Jvm.ClassFile.FieldType)),
  (Jvm.Cond.code ⟨"java/lang/Exception", "<init>", "(Ljava/lang/String;)V"⟩ prog_7_method_2_code (2 : Nat) (Option.none : Option Jvm.ClassFile.FieldType)),
  (Jvm.Cond.code ⟨"java/lang/Throwable", "<init>", "(Ljava/lang/String;)V"⟩ prog_14_method_2_code (2 : Nat) (Option.none : Option Jvm.ClassFile.FieldType)),
  (Jvm.Cond.code ⟨"ExplainDifference$Ledger", "lastTime", "()I"⟩ prog_2_method_3_code (1 : Nat) (Option.some Jvm.ClassFile.FieldType.int)),
  (Jvm.Cond.code ⟨"ExplainDifference", "needRoom", "()V"⟩ prog_1_method_23_code (1 : Nat) (Option.none : Option Jvm.ClassFile.FieldType)),
  (Jvm.Cond.code ⟨"java/lang/UnsupportedOperationException", "<init>", "(Ljava/lang/String;)V"⟩ prog_15_method_2_code (2 : Nat) (Option.none : Option Jvm.ClassFile.FieldType)),
  (Jvm.Cond.code ⟨"ExplainDifference$Ledger", "add", "(IIIIII)I"⟩ prog_2_method_2_code (9 : Nat) (Option.some Jvm.ClassFile.FieldType.int)),
  (Jvm.Cond.code ⟨"ExplainDifference$Ledger", "carry", "(II)V"⟩ prog_2_method_5_code (5 : Nat) (Option.none : Option Jvm.ClassFile.FieldType)),
  (Jvm.Cond.code ⟨"ExplainDifference$Ledger", "shift", "(II)V"⟩ prog_2_method_6_code (4 : Nat) (Option.none : Option Jvm.ClassFile.FieldType)),
  (Jvm.Cond.codeWith ⟨"ExplainDifferenceLaw", "take", "(LExplainDifference;IIII[J)I"⟩ method_4_code (7 : Nat) (Option.some Jvm.ClassFile.FieldType.int) [((0 : Nat), (14 : Nat), (17 : Nat), (13 : Nat)), ((0 : Nat), (14 : Nat), (21 : Nat), (15 : Nat))]),
  (Jvm.Cond.code ⟨"ExplainDifference", "take", "(IIII)I"⟩ prog_1_method_3_code (5 : Nat) (Option.some Jvm.ClassFile.FieldType.int)),
  (Jvm.Cond.codeWith ⟨"ExplainDifferenceLaw", "move", "(LExplainDifference;IIIII[J)I"⟩ method_5_code (8 : Nat) (Option.some Jvm.ClassFile.FieldType.int) [((0 : Nat), (16 : Nat), (19 : Nat), (13 : Nat)), ((0 : Nat), (16 : Nat), (23 : Nat), (15 : Nat))]),
  (Jvm.Cond.code ⟨"ExplainDifference", "move", "(IIIII)I"⟩ prog_1_method_4_code (6 : Nat) (Option.some Jvm.ClassFile.FieldType.int)),
  (Jvm.Cond.codeWith ⟨"ExplainDifferenceLaw", "closed", "(LExplainDifference;IZ[J)I"⟩ method_6_code (5 : Nat) (Option.some Jvm.ClassFile.FieldType.int) [((0 : Nat), (10 : Nat), (13 : Nat), (28 : Nat))]),
  (Jvm.Cond.code ⟨"ExplainDifference", "closed", "(IZ)I"⟩ prog_1_method_5_code (3 : Nat) (Option.some Jvm.ClassFile.FieldType.int)),
  (Jvm.Cond.code ⟨"ExplainDifference", "needThere", "(II)V"⟩ prog_1_method_25_code (2 : Nat) (Option.none : Option Jvm.ClassFile.FieldType)),
  (Jvm.Cond.code ⟨"java/util/NoSuchElementException", "<init>", "(Ljava/lang/String;)V"⟩ prog_17_method_4_code (2 : Nat) (Option.none : Option Jvm.ClassFile.FieldType)),
  (Jvm.Cond.codeWith ⟨"ExplainDifferenceLaw", "window", "(LExplainDifference;II[J)I"⟩ method_7_code (5 : Nat) (Option.some Jvm.ClassFile.FieldType.int) [((0 : Nat), (10 : Nat), (13 : Nat), (13 : Nat))]),
  (Jvm.Cond.code ⟨"ExplainDifference", "window", "(II)I"⟩ prog_1_method_6_code (3 : Nat) (Option.some Jvm.ClassFile.FieldType.int)),
  (Jvm.Cond.codeWith ⟨"ExplainDifferenceLaw", "counted", "(LExplainDifference;III[J)I"⟩ method_8_code (6 : Nat) (Option.some Jvm.ClassFile.FieldType.int) [((0 : Nat), (12 : Nat), (15 : Nat), (13 : Nat))]),
  (Jvm.Cond.code ⟨"ExplainDifference", "counted", "(III)I"⟩ prog_1_method_7_code (4 : Nat) (Option.some Jvm.ClassFile.FieldType.int)),
  (Jvm.Cond.code ⟨"ExplainDifference$Ledger", "tell", "(II)V"⟩ prog_2_method_7_code (4 : Nat) (Option.none : Option Jvm.ClassFile.FieldType)),
  (Jvm.Cond.codeWith ⟨"ExplainDifferenceLaw", "expected", "(LExplainDifference;II[J)I"⟩ method_9_code (5 : Nat) (Option.some Jvm.ClassFile.FieldType.int) [((0 : Nat), (10 : Nat), (13 : Nat), (13 : Nat))]),
  (Jvm.Cond.code ⟨"ExplainDifference", "expected", "(II)I"⟩ prog_1_method_8_code (3 : Nat) (Option.some Jvm.ClassFile.FieldType.int)),
  (Jvm.Cond.codeWith ⟨"ExplainDifferenceLaw", "differ", "(LExplainDifference;II[J)I"⟩ method_10_code (5 : Nat) (Option.some Jvm.ClassFile.FieldType.int) [((0 : Nat), (10 : Nat), (13 : Nat), (28 : Nat)), ((0 : Nat), (10 : Nat), (17 : Nat), (13 : Nat))]),
  (Jvm.Cond.code ⟨"ExplainDifference", "differ", "(II)I"⟩ prog_1_method_9_code (4 : Nat) (Option.some Jvm.ClassFile.FieldType.int)),
  (Jvm.Cond.code ⟨"ExplainDifference$Ledger", "differingCell", "(I)I"⟩ prog_2_method_11_code (4 : Nat) (Option.some Jvm.ClassFile.FieldType.int)),
  (Jvm.Cond.codeWith ⟨"ExplainDifferenceLaw", "search", "(LExplainDifference;II[J)I"⟩ method_11_code (5 : Nat) (Option.some Jvm.ClassFile.FieldType.int) [((0 : Nat), (10 : Nat), (13 : Nat), (13 : Nat))]),
  (Jvm.Cond.code ⟨"ExplainDifference", "search", "(II)I"⟩ prog_1_method_10_code (3 : Nat) (Option.some Jvm.ClassFile.FieldType.int)),
  (Jvm.Cond.code ⟨"ExplainDifference$Seeker", "seek", "(LExplainDifference$Ledger;II)I"⟩ prog_3_method_2_code (5 : Nat) (Option.some Jvm.ClassFile.FieldType.int)),
  (Jvm.Cond.code ⟨"ExplainDifference$Seeker", "begin", "(I)V"⟩ prog_3_method_3_code (2 : Nat) (Option.none : Option Jvm.ClassFile.FieldType)),
  (Jvm.Cond.code ⟨"ExplainDifference$Seeker", "gatherChoices", "(LExplainDifference$Ledger;)V"⟩ prog_3_method_4_code (3 : Nat) (Option.none : Option Jvm.ClassFile.FieldType)),
  (Jvm.Cond.code ⟨"ExplainDifference$Seeker", "extend", "(LExplainDifference$Ledger;II)Z"⟩ prog_3_method_5_code (5 : Nat) (Option.some Jvm.ClassFile.FieldType.boolean)),
  (Jvm.Cond.code ⟨"ExplainDifference$Seeker", "note", "()V"⟩ prog_3_method_7_code (2 : Nat) (Option.none : Option Jvm.ClassFile.FieldType)),
  (Jvm.Cond.code ⟨"ExplainDifference$Seeker", "attempt", "(LExplainDifference$Ledger;III)Z"⟩ prog_3_method_6_code (8 : Nat) (Option.some Jvm.ClassFile.FieldType.boolean)),
  (Jvm.Cond.codeWith ⟨"ExplainDifferenceLaw", "often", "(LExplainDifference;I[J)I"⟩ method_12_code (4 : Nat) (Option.some Jvm.ClassFile.FieldType.int) [((0 : Nat), (9 : Nat), (12 : Nat), (28 : Nat))]),
  (Jvm.Cond.code ⟨"ExplainDifference", "often", "(I)I"⟩ prog_1_method_14_code (2 : Nat) (Option.some Jvm.ClassFile.FieldType.int)),
  (Jvm.Cond.codeWith ⟨"ExplainDifferenceLaw", "found", "(LExplainDifference;II[J)I"⟩ method_13_code (5 : Nat) (Option.some Jvm.ClassFile.FieldType.int) [((0 : Nat), (10 : Nat), (13 : Nat), (28 : Nat)), ((0 : Nat), (10 : Nat), (17 : Nat), (13 : Nat))]),
  (Jvm.Cond.code ⟨"ExplainDifference", "found", "(II)I"⟩ prog_1_method_15_code (3 : Nat) (Option.some Jvm.ClassFile.FieldType.int)),
  (Jvm.Cond.codeWith ⟨"ExplainDifferenceLaw", "accept", "(LExplainDifference;[J)I"⟩ method_14_code (3 : Nat) (Option.some Jvm.ClassFile.FieldType.int) [((0 : Nat), (8 : Nat), (11 : Nat), (58 : Nat))]),
  (Jvm.Cond.code ⟨"ExplainDifference", "accept", "()I"⟩ prog_1_method_16_code (1 : Nat) (Option.some Jvm.ClassFile.FieldType.int)),
  (Jvm.Cond.code ⟨"ExplainDifference$Seeker", "isOfPlainActs", "(LExplainDifference$Ledger;)Z"⟩ prog_3_method_8_code (3 : Nat) (Option.some Jvm.ClassFile.FieldType.boolean)),
  (Jvm.Cond.code ⟨"java/lang/IllegalStateException", "<init>", "(Ljava/lang/String;)V"⟩ prog_9_method_2_code (2 : Nat) (Option.none : Option Jvm.ClassFile.FieldType)),
  (Jvm.Cond.code ⟨"ExplainDifference$Seeker", "settle", "(LExplainDifference$Ledger;)V"⟩ prog_3_method_9_code (3 : Nat) (Option.none : Option Jvm.ClassFile.FieldType)),
  (Jvm.Cond.code ⟨"ExplainDifference$Ledger", "turn", "(II)V"⟩ prog_2_method_4_code (4 : Nat) (Option.none : Option Jvm.ClassFile.FieldType)),
  (Jvm.Cond.code ⟨"ExplainDifference", "timesDone", "(I)I"⟩ prog_1_method_29_code (1 : Nat) (Option.some Jvm.ClassFile.FieldType.int)),
  (Jvm.Cond.codeWith ⟨"ExplainDifferenceLaw", "back", "(LExplainDifference;I[J)I"⟩ method_15_code (4 : Nat) (Option.some Jvm.ClassFile.FieldType.int) [((0 : Nat), (9 : Nat), (12 : Nat), (28 : Nat)), ((0 : Nat), (9 : Nat), (15 : Nat), (58 : Nat))]),
  (Jvm.Cond.code ⟨"ExplainDifference", "back", "(I)I"⟩ prog_1_method_17_code (2 : Nat) (Option.some Jvm.ClassFile.FieldType.int)),
  (Jvm.Cond.codeWith ⟨"ExplainDifferenceLaw", "share", "(LExplainDifference;II[J)I"⟩ method_16_code (5 : Nat) (Option.some Jvm.ClassFile.FieldType.int) [((0 : Nat), (10 : Nat), (13 : Nat), (13 : Nat)), ((0 : Nat), (10 : Nat), (17 : Nat), (66 : Nat))]),
  (Jvm.Cond.code ⟨"ExplainDifference", "share", "(II)I"⟩ prog_1_method_18_code (3 : Nat) (Option.some Jvm.ClassFile.FieldType.int)),
  (Jvm.Cond.code ⟨"java/lang/ArithmeticException", "<init>", "(Ljava/lang/String;)V"⟩ prog_6_method_2_code (2 : Nat) (Option.none : Option Jvm.ClassFile.FieldType)),
  (Jvm.Cond.codeWith ⟨"ExplainDifferenceLaw", "told", "(LExplainDifference;II[J)I"⟩ method_17_code (5 : Nat) (Option.some Jvm.ClassFile.FieldType.int) [((0 : Nat), (10 : Nat), (13 : Nat), (28 : Nat)), ((0 : Nat), (10 : Nat), (17 : Nat), (13 : Nat))]),
  (Jvm.Cond.code ⟨"ExplainDifference", "told", "(II)I"⟩ prog_1_method_19_code (3 : Nat) (Option.some Jvm.ClassFile.FieldType.int)),
  (Jvm.Cond.codeWith ⟨"ExplainDifferenceLaw", "of", "(LExplainDifference;III[J)I"⟩ method_18_code (6 : Nat) (Option.some Jvm.ClassFile.FieldType.int) [((0 : Nat), (12 : Nat), (15 : Nat), (13 : Nat))]),
  (Jvm.Cond.code ⟨"ExplainDifference", "of", "(III)I"⟩ prog_1_method_20_code (4 : Nat) (Option.some Jvm.ClassFile.FieldType.int)),
  (Jvm.Cond.code ⟨"ExplainDifference$Ledger", "actAt", "(II)I"⟩ prog_2_method_18_code (5 : Nat) (Option.some Jvm.ClassFile.FieldType.int)),
  (Jvm.Cond.code ⟨"ExplainDifference$Ledger", "isAt", "([II)Z"⟩ prog_2_method_19_code (2 : Nat) (Option.some Jvm.ClassFile.FieldType.boolean)),
  (Jvm.Cond.code ⟨"ExplainDifferenceModel", "<init>", "()V"⟩ prog_5_method_1_code (2 : Nat) (Option.none : Option Jvm.ClassFile.FieldType)),
  (Jvm.Cond.code ⟨"ExplainDifferenceModel", "thrown", "()I"⟩ prog_5_method_15_code (1 : Nat) (Option.some Jvm.ClassFile.FieldType.int)),
  (Jvm.Cond.code ⟨"ExplainDifferenceModel", "put", "(IIII)I"⟩ prog_5_method_17_code (5 : Nat) (Option.some Jvm.ClassFile.FieldType.int)),
  (Jvm.Cond.code ⟨"ExplainDifferenceModel", "newAct", "(IIIIII)I"⟩ prog_5_method_16_code (8 : Nat) (Option.some Jvm.ClassFile.FieldType.int)),
  (Jvm.Cond.code ⟨"ExplainDifferenceModel", "not", "(III)Z"⟩ prog_5_method_2_code (3 : Nat) (Option.some Jvm.ClassFile.FieldType.boolean)),
  (Jvm.Cond.code ⟨"ExplainDifferenceModel", "take", "(IIII)I"⟩ prog_5_method_18_code (5 : Nat) (Option.some Jvm.ClassFile.FieldType.int)),
  (Jvm.Cond.code ⟨"ExplainDifferenceModel", "move", "(IIIII)I"⟩ prog_5_method_19_code (6 : Nat) (Option.some Jvm.ClassFile.FieldType.int)),
  (Jvm.Cond.code ⟨"ExplainDifferenceModel", "closed", "(IZ)I"⟩ prog_5_method_21_code (5 : Nat) (Option.some Jvm.ClassFile.FieldType.int)),
  (Jvm.Cond.code ⟨"ExplainDifferenceModel", "noAct", "(I)Z"⟩ prog_5_method_20_code (2 : Nat) (Option.some Jvm.ClassFile.FieldType.boolean)),
  (Jvm.Cond.code ⟨"ExplainDifferenceModel", "window", "(II)I"⟩ prog_5_method_22_code (3 : Nat) (Option.some Jvm.ClassFile.FieldType.int)),
  (Jvm.Cond.code ⟨"ExplainDifferenceModel", "howMany", "()I"⟩ prog_5_method_10_code (3 : Nat) (Option.some Jvm.ClassFile.FieldType.int)),
  (Jvm.Cond.code ⟨"ExplainDifferenceModel", "isCandidate", "(I)Z"⟩ prog_5_method_9_code (2 : Nat) (Option.some Jvm.ClassFile.FieldType.boolean)),
  (Jvm.Cond.code ⟨"ExplainDifferenceModel", "counted", "(III)I"⟩ prog_5_method_23_code (4 : Nat) (Option.some Jvm.ClassFile.FieldType.int)),
  (Jvm.Cond.code ⟨"ExplainDifferenceModel", "differences", "()I"⟩ prog_5_method_7_code (3 : Nat) (Option.some Jvm.ClassFile.FieldType.int)),
  (Jvm.Cond.code ⟨"ExplainDifferenceModel", "differenceOf", "(I)I"⟩ prog_5_method_6_code (2 : Nat) (Option.some Jvm.ClassFile.FieldType.int)),
  (Jvm.Cond.code ⟨"ExplainDifferenceModel", "expectedOf", "(I)I"⟩ prog_5_method_5_code (4 : Nat) (Option.some Jvm.ClassFile.FieldType.int)),
  (Jvm.Cond.code ⟨"ExplainDifferenceModel", "times", "(I)I"⟩ prog_5_method_4_code (2 : Nat) (Option.some Jvm.ClassFile.FieldType.int)),
  (Jvm.Cond.code ⟨"ExplainDifferenceModel", "adds", "(II)I"⟩ prog_5_method_3_code (4 : Nat) (Option.some Jvm.ClassFile.FieldType.int)),
  (Jvm.Cond.code ⟨"ExplainDifferenceModel", "expected", "(II)I"⟩ prog_5_method_24_code (3 : Nat) (Option.some Jvm.ClassFile.FieldType.int)),
  (Jvm.Cond.code ⟨"ExplainDifferenceModel", "differ", "(II)I"⟩ prog_5_method_25_code (5 : Nat) (Option.some Jvm.ClassFile.FieldType.int)),
  (Jvm.Cond.code ⟨"ExplainDifferenceModel", "search", "(II)I"⟩ prog_5_method_26_code (4 : Nat) (Option.some Jvm.ClassFile.FieldType.int)),
  (Jvm.Cond.code ⟨"ExplainDifferenceModel", "goThrough", "(II)Z"⟩ prog_5_method_14_code (4 : Nat) (Option.some Jvm.ClassFile.FieldType.boolean)),
  (Jvm.Cond.code ⟨"ExplainDifferenceModel", "apply", "(II)V"⟩ prog_5_method_12_code (7 : Nat) (Option.none : Option Jvm.ClassFile.FieldType)),
  (Jvm.Cond.code ⟨"ExplainDifferenceModel", "add", "(II)V"⟩ prog_5_method_11_code (3 : Nat) (Option.none : Option Jvm.ClassFile.FieldType)),
  (Jvm.Cond.code ⟨"ExplainDifferenceModel", "foundOne", "(I)V"⟩ prog_5_method_13_code (4 : Nat) (Option.none : Option Jvm.ClassFile.FieldType)),
  (Jvm.Cond.code ⟨"ExplainDifferenceModel", "exact", "()Z"⟩ prog_5_method_27_code (1 : Nat) (Option.some Jvm.ClassFile.FieldType.boolean)),
  (Jvm.Cond.code ⟨"ExplainDifferenceModel", "steps", "()I"⟩ prog_5_method_28_code (1 : Nat) (Option.some Jvm.ClassFile.FieldType.int)),
  (Jvm.Cond.code ⟨"ExplainDifferenceModel", "ties", "()I"⟩ prog_5_method_29_code (1 : Nat) (Option.some Jvm.ClassFile.FieldType.int)),
  (Jvm.Cond.code ⟨"ExplainDifferenceModel", "often", "(I)I"⟩ prog_5_method_30_code (2 : Nat) (Option.some Jvm.ClassFile.FieldType.int)),
  (Jvm.Cond.code ⟨"ExplainDifferenceModel", "found", "(II)I"⟩ prog_5_method_31_code (3 : Nat) (Option.some Jvm.ClassFile.FieldType.int)),
  (Jvm.Cond.code ⟨"ExplainDifferenceModel", "accept", "()I"⟩ prog_5_method_32_code (2 : Nat) (Option.some Jvm.ClassFile.FieldType.int)),
  (Jvm.Cond.code ⟨"ExplainDifferenceModel", "back", "(I)I"⟩ prog_5_method_33_code (2 : Nat) (Option.some Jvm.ClassFile.FieldType.int)),
  (Jvm.Cond.code ⟨"ExplainDifferenceModel", "share", "(II)I"⟩ prog_5_method_34_code (3 : Nat) (Option.some Jvm.ClassFile.FieldType.int)),
  (Jvm.Cond.code ⟨"ExplainDifferenceModel", "told", "(II)I"⟩ prog_5_method_35_code (3 : Nat) (Option.some Jvm.ClassFile.FieldType.int)),
  (Jvm.Cond.code ⟨"ExplainDifferenceModel", "of", "(III)I"⟩ prog_5_method_36_code (6 : Nat) (Option.some Jvm.ClassFile.FieldType.int)),
  (Jvm.Cond.code ⟨"ExplainDifferenceModel", "touches", "(II)Z"⟩ prog_5_method_8_code (3 : Nat) (Option.some Jvm.ClassFile.FieldType.boolean)),
  (Jvm.Cond.code ⟨"ExplainDifferenceModel", "count", "(I)I"⟩ prog_5_method_37_code (7 : Nat) (Option.some Jvm.ClassFile.FieldType.int))]
set_option maxRecDepth 100000 in
theorem mj_wC_p : mj_wC = ([46, 49, 54, 60, 97, 156, 160, 164, 168, 172, 176, 180, 183, 187, 191, 194, 198, 201, 205, 209, 213, 216, 222, 226, 229, 233, 258, 280, 283, 286, 289, 307, 311, 324, 331, 335, 339, 342, 346, 349, 353, 356, 361, 364, 377, 383, 387, 390, 394, 400, 403, 407, 410, 414, 418, 422, 426, 430, 434, 439, 444, 448, 455, 459, 463, 466, 470, 473, 478, 482, 495, 502, 506, 509, 512, 516, 521, 526, 540, 546, 550, 554, 558, 562, 565, 570, 652, 656, 660, 663, 667, 671, 675, 679, 683, 687, 691, 695, 700, 704, 708, 712, 716, 720, 724, 728, 732, 736, 740, 744, 748, 752, 756, 760, 764, 768, 772, 776, 781, 785, 789, 793] : List Nat).filterMap (fun i => lw_tbl[i]?) := rfl
theorem mj_wC_g : mj_wC.all goodWord = true := by decide +kernel
def mj_wN : List Cond := [(Jvm.Cond.initialized "ExplainDifferenceLaw"),
  (Jvm.Cond.initialized "ExplainDifference"),
  (Jvm.Cond.initialized "ExplainDifference$Ledger"),
  (Jvm.Cond.initialized "java/util/Arrays"),
  (Jvm.Cond.initialized "ExplainDifference$Seeker"),
  (Jvm.Cond.initialized "ExplainDifferenceModel"),
  (Jvm.Cond.initialized "java/lang/Throwable"),
  (Jvm.Cond.initialized "java/lang/Exception"),
  (Jvm.Cond.initialized "java/lang/RuntimeException"),
  (Jvm.Cond.initialized "java/lang/IllegalArgumentException"),
  (Jvm.Cond.initialized "java/lang/UnsupportedOperationException"),
  (Jvm.Cond.initialized "java/util/NoSuchElementException"),
  (Jvm.Cond.initialized "java/lang/System"),
  (Jvm.Cond.initialized "java/lang/IllegalStateException"),
  (Jvm.Cond.initialized "java/lang/ArithmeticException"),
  (Jvm.Cond.initialized "java/lang/Math")]
theorem mj_wN_p : mj_wN = ([26, 27, 28, 29, 30, 31, 32, 33, 34, 35, 36, 37, 38, 39, 40, 41] : List Nat).filterMap (fun i => lw_tbl[i]?) := by decide +kernel
theorem mj_wN_g : mj_wN.all goodWord = true := by decide +kernel
def mj_wK : List Cond := [(Jvm.Cond.constant "ExplainDifference" (71 : Nat) (100000 : Int32)),
  (Jvm.Cond.constant "ExplainDifference" (138 : Nat) (1000000 : Int32)),
  (Jvm.Cond.constant "ExplainDifferenceModel" (132 : Nat) (100000 : Int32)),
  (Jvm.Cond.constant "ExplainDifferenceModel" (140 : Nat) (1000000 : Int32))]
theorem mj_wK_p : mj_wK = ([395, 527, 696, 777] : List Nat).filterMap (fun i => lw_tbl[i]?) := by decide +kernel
theorem mj_wK_g : mj_wK.all goodWord = true := by decide +kernel
def mj_wL : List Cond := [(Jvm.Cond.classLink "ExplainDifferenceLaw" (8 : Nat) "ExplainDifference"),
  (Jvm.Cond.classLink "ExplainDifference" (7 : Nat) "ExplainDifference$Ledger"),
  (Jvm.Cond.classLink "ExplainDifference$Ledger" (9 : Nat) "[[I"),
  (Jvm.Cond.classLink "ExplainDifference" (16 : Nat) "ExplainDifference$Seeker"),
  (Jvm.Cond.classLink "ExplainDifferenceLaw" (13 : Nat) "java/lang/IllegalArgumentException"),
  (Jvm.Cond.classLink "ExplainDifferenceLaw" (15 : Nat) "java/lang/UnsupportedOperationException"),
  (Jvm.Cond.classLink "ExplainDifference" (170 : Nat) "java/lang/IllegalArgumentException"),
  (Jvm.Cond.classLink "ExplainDifference" (160 : Nat) "java/lang/UnsupportedOperationException"),
  (Jvm.Cond.classLink "ExplainDifferenceLaw" (28 : Nat) "java/util/NoSuchElementException"),
  (Jvm.Cond.classLink "ExplainDifference" (165 : Nat) "java/util/NoSuchElementException"),
  (Jvm.Cond.classLink "ExplainDifferenceLaw" (58 : Nat) "java/lang/IllegalStateException"),
  (Jvm.Cond.classLink "ExplainDifference" (122 : Nat) "java/lang/IllegalStateException"),
  (Jvm.Cond.classLink "ExplainDifferenceLaw" (66 : Nat) "java/lang/ArithmeticException"),
  (Jvm.Cond.classLink "ExplainDifference" (139 : Nat) "java/lang/ArithmeticException"),
  (Jvm.Cond.classLink "ExplainDifferenceLaw" (75 : Nat) "ExplainDifferenceModel")]
theorem mj_wL_p : mj_wL = ([42, 50, 56, 93, 217, 218, 234, 312, 357, 365, 474, 483, 522, 528, 566] : List Nat).filterMap (fun i => lw_tbl[i]?) := by decide +kernel
theorem mj_wL_g : mj_wL.all goodWord = true := by decide +kernel
def mj_wY : List Cond := [(Jvm.Cond.laysFinal "ExplainDifference$Ledger" "ExplainDifference$Ledger" "rows" "[[I"),
  (Jvm.Cond.laysFinal "ExplainDifference$Ledger" "ExplainDifference$Ledger" "awaited" "[I"),
  (Jvm.Cond.laysFinal "ExplainDifference$Ledger" "ExplainDifference$Ledger" "tally" "[I"),
  (Jvm.Cond.lays "ExplainDifference$Ledger" "ExplainDifference$Ledger" "acts" "I"),
  (Jvm.Cond.lays "ExplainDifference$Ledger" "ExplainDifference$Ledger" "differences" "I"),
  (Jvm.Cond.lays "ExplainDifference$Ledger" "ExplainDifference$Ledger" "windowFrom" "I"),
  (Jvm.Cond.lays "ExplainDifference$Ledger" "ExplainDifference$Ledger" "windowTo" "I"),
  (Jvm.Cond.laysFinal "ExplainDifference$Seeker" "ExplainDifference$Seeker" "choices" "[I"),
  (Jvm.Cond.laysFinal "ExplainDifference$Seeker" "ExplainDifference$Seeker" "workActs" "[I"),
  (Jvm.Cond.laysFinal "ExplainDifference$Seeker" "ExplainDifference$Seeker" "workChanges" "[I"),
  (Jvm.Cond.laysFinal "ExplainDifference$Seeker" "ExplainDifference$Seeker" "firstActs" "[I"),
  (Jvm.Cond.laysFinal "ExplainDifference$Seeker" "ExplainDifference$Seeker" "firstChanges" "[I"),
  (Jvm.Cond.laysFinal "ExplainDifference$Seeker" "ExplainDifference$Seeker" "uses" "[I"),
  (Jvm.Cond.lays "ExplainDifference$Seeker" "ExplainDifference$Seeker" "choiceNumber" "I"),
  (Jvm.Cond.lays "ExplainDifference$Seeker" "ExplainDifference$Seeker" "size" "I"),
  (Jvm.Cond.lays "ExplainDifference$Seeker" "ExplainDifference$Seeker" "stepLimit" "I"),
  (Jvm.Cond.lays "ExplainDifference$Seeker" "ExplainDifference$Seeker" "stepsDone" "I"),
  (Jvm.Cond.lays "ExplainDifference$Seeker" "ExplainDifference$Seeker" "explanations" "I"),
  (Jvm.Cond.lays "ExplainDifference$Seeker" "ExplainDifference$Seeker" "changes" "I"),
  (Jvm.Cond.lays "ExplainDifference$Seeker" "ExplainDifference$Seeker" "complete" "Z"),
  (Jvm.Cond.laysFinal "ExplainDifference" "ExplainDifference" "ledger" "LExplainDifference$Ledger;"),
  (Jvm.Cond.laysFinal "ExplainDifference" "ExplainDifference" "seeker" "LExplainDifference$Seeker;"),
  (Jvm.Cond.lays "java/lang/IllegalArgumentException" "java/lang/Throwable" "cause" "Ljava/lang/Throwable;"),
  (Jvm.Cond.lays "java/lang/Throwable" "java/lang/Throwable" "cause" "Ljava/lang/Throwable;"),
  (Jvm.Cond.lays "java/lang/IllegalArgumentException" "java/lang/Throwable" "stackTrace" "[Ljava/lang/StackTraceElement;"),
  (Jvm.Cond.lays "java/lang/Throwable" "java/lang/Throwable" "stackTrace" "[Ljava/lang/StackTraceElement;"),
  (Jvm.Cond.lays "java/lang/IllegalArgumentException" "java/lang/Throwable" "suppressedExceptions" "Ljava/util/List;"),
  (Jvm.Cond.lays "java/lang/Throwable" "java/lang/Throwable" "suppressedExceptions" "Ljava/util/List;"),
  (Jvm.Cond.lays "java/lang/IllegalArgumentException" "java/lang/Throwable" "detailMessage" "Ljava/lang/String;"),
  (Jvm.Cond.lays "java/lang/Throwable" "java/lang/Throwable" "detailMessage" "Ljava/lang/String;"),
  (Jvm.Cond.lays "java/lang/IllegalArgumentException" "java/lang/Throwable" "backtrace" "Ljava/lang/Object;"),
  (Jvm.Cond.lays "java/lang/Throwable" "java/lang/Throwable" "backtrace" "Ljava/lang/Object;"),
  (Jvm.Cond.lays "java/lang/IllegalArgumentException" "java/lang/Throwable" "depth" "I"),
  (Jvm.Cond.lays "java/lang/UnsupportedOperationException" "java/lang/Throwable" "cause" "Ljava/lang/Throwable;"),
  (Jvm.Cond.lays "java/lang/UnsupportedOperationException" "java/lang/Throwable" "stackTrace" "[Ljava/lang/StackTraceElement;"),
  (Jvm.Cond.lays "java/lang/UnsupportedOperationException" "java/lang/Throwable" "suppressedExceptions" "Ljava/util/List;"),
  (Jvm.Cond.lays "java/lang/UnsupportedOperationException" "java/lang/Throwable" "detailMessage" "Ljava/lang/String;"),
  (Jvm.Cond.lays "java/lang/UnsupportedOperationException" "java/lang/Throwable" "backtrace" "Ljava/lang/Object;"),
  (Jvm.Cond.lays "java/lang/UnsupportedOperationException" "java/lang/Throwable" "depth" "I"),
  (Jvm.Cond.lays "java/util/NoSuchElementException" "java/lang/Throwable" "cause" "Ljava/lang/Throwable;"),
  (Jvm.Cond.lays "java/util/NoSuchElementException" "java/lang/Throwable" "stackTrace" "[Ljava/lang/StackTraceElement;"),
  (Jvm.Cond.lays "java/util/NoSuchElementException" "java/lang/Throwable" "suppressedExceptions" "Ljava/util/List;"),
  (Jvm.Cond.lays "java/util/NoSuchElementException" "java/lang/Throwable" "detailMessage" "Ljava/lang/String;"),
  (Jvm.Cond.lays "java/util/NoSuchElementException" "java/lang/Throwable" "backtrace" "Ljava/lang/Object;"),
  (Jvm.Cond.lays "java/util/NoSuchElementException" "java/lang/Throwable" "depth" "I"),
  (Jvm.Cond.lays "java/lang/IllegalStateException" "java/lang/Throwable" "cause" "Ljava/lang/Throwable;"),
  (Jvm.Cond.lays "java/lang/IllegalStateException" "java/lang/Throwable" "stackTrace" "[Ljava/lang/StackTraceElement;"),
  (Jvm.Cond.lays "java/lang/IllegalStateException" "java/lang/Throwable" "suppressedExceptions" "Ljava/util/List;"),
  (Jvm.Cond.lays "java/lang/IllegalStateException" "java/lang/Throwable" "detailMessage" "Ljava/lang/String;"),
  (Jvm.Cond.lays "java/lang/IllegalStateException" "java/lang/Throwable" "backtrace" "Ljava/lang/Object;"),
  (Jvm.Cond.lays "java/lang/IllegalStateException" "java/lang/Throwable" "depth" "I"),
  (Jvm.Cond.lays "java/lang/ArithmeticException" "java/lang/Throwable" "cause" "Ljava/lang/Throwable;"),
  (Jvm.Cond.lays "java/lang/ArithmeticException" "java/lang/Throwable" "stackTrace" "[Ljava/lang/StackTraceElement;"),
  (Jvm.Cond.lays "java/lang/ArithmeticException" "java/lang/Throwable" "suppressedExceptions" "Ljava/util/List;"),
  (Jvm.Cond.lays "java/lang/ArithmeticException" "java/lang/Throwable" "detailMessage" "Ljava/lang/String;"),
  (Jvm.Cond.lays "java/lang/ArithmeticException" "java/lang/Throwable" "backtrace" "Ljava/lang/Object;"),
  (Jvm.Cond.lays "java/lang/ArithmeticException" "java/lang/Throwable" "depth" "I"),
  (Jvm.Cond.lays "ExplainDifferenceModel" "ExplainDifferenceModel" "thrownCode" "I"),
  (Jvm.Cond.lays "ExplainDifferenceModel" "ExplainDifferenceModel" "acts" "I"),
  (Jvm.Cond.laysFinal "ExplainDifferenceModel" "ExplainDifferenceModel" "kind" "[I"),
  (Jvm.Cond.laysFinal "ExplainDifferenceModel" "ExplainDifferenceModel" "place" "[I"),
  (Jvm.Cond.laysFinal "ExplainDifferenceModel" "ExplainDifferenceModel" "to" "[I"),
  (Jvm.Cond.laysFinal "ExplainDifferenceModel" "ExplainDifferenceModel" "good" "[I"),
  (Jvm.Cond.laysFinal "ExplainDifferenceModel" "ExplainDifferenceModel" "pieces" "[I"),
  (Jvm.Cond.laysFinal "ExplainDifferenceModel" "ExplainDifferenceModel" "time" "[I"),
  (Jvm.Cond.laysFinal "ExplainDifferenceModel" "ExplainDifferenceModel" "state" "[I"),
  (Jvm.Cond.laysFinal "ExplainDifferenceModel" "ExplainDifferenceModel" "shut" "[Z"),
  (Jvm.Cond.lays "ExplainDifferenceModel" "ExplainDifferenceModel" "from" "I"),
  (Jvm.Cond.lays "ExplainDifferenceModel" "ExplainDifferenceModel" "until" "I"),
  (Jvm.Cond.laysFinal "ExplainDifferenceModel" "ExplainDifferenceModel" "counts" "[I"),
  (Jvm.Cond.lays "ExplainDifferenceModel" "ExplainDifferenceModel" "wasExact" "Z"),
  (Jvm.Cond.lays "ExplainDifferenceModel" "ExplainDifferenceModel" "stepsNow" "I"),
  (Jvm.Cond.lays "ExplainDifferenceModel" "ExplainDifferenceModel" "tiesNow" "I"),
  (Jvm.Cond.laysFinal "ExplainDifferenceModel" "ExplainDifferenceModel" "oftenNow" "[I"),
  (Jvm.Cond.lays "ExplainDifferenceModel" "ExplainDifferenceModel" "changes" "I"),
  (Jvm.Cond.laysFinal "ExplainDifferenceModel" "ExplainDifferenceModel" "change" "[I"),
  (Jvm.Cond.laysFinal "ExplainDifferenceModel" "ExplainDifferenceModel" "left" "[I"),
  (Jvm.Cond.lays "ExplainDifferenceModel" "ExplainDifferenceModel" "wrong" "I"),
  (Jvm.Cond.lays "ExplainDifferenceModel" "ExplainDifferenceModel" "candidates" "I"),
  (Jvm.Cond.laysFinal "ExplainDifferenceModel" "ExplainDifferenceModel" "candidate" "[I"),
  (Jvm.Cond.laysFinal "ExplainDifferenceModel" "ExplainDifferenceModel" "set" "[I"),
  (Jvm.Cond.laysFinal "ExplainDifferenceModel" "ExplainDifferenceModel" "placed" "[Z")]
theorem mj_wY_p : mj_wY = ([77, 79, 81, 83, 85, 87, 89, 119, 121, 123, 125, 127, 129, 131, 133, 135, 137, 139, 141, 143, 148, 150, 245, 246, 247, 248, 249, 250, 251, 252, 253, 254, 299, 316, 317, 318, 319, 320, 326, 369, 370, 371, 372, 373, 379, 487, 488, 489, 490, 491, 497, 532, 533, 534, 535, 536, 542, 597, 599, 601, 603, 605, 607, 609, 611, 613, 615, 617, 619, 621, 623, 625, 627, 629, 631, 633, 635, 637, 639, 641, 643, 645] : List Nat).filterMap (fun i => lw_tbl[i]?) := by decide +kernel
theorem mj_wY_g : mj_wY.all goodWord = true := by decide +kernel
def mj_wO : List Cond := [(Jvm.Cond.instantiable "ExplainDifference" (2 : Nat)),
  (Jvm.Cond.instantiable "ExplainDifference$Ledger" (7 : Nat)),
  (Jvm.Cond.superclass "ExplainDifference$Ledger" "java/lang/Object"),
  (Jvm.Cond.arrayClass Jvm.ClassFile.FieldType.int),
  (Jvm.Cond.instantiable "ExplainDifference$Seeker" (13 : Nat)),
  (Jvm.Cond.superclass "ExplainDifference$Seeker" "java/lang/Object"),
  (Jvm.Cond.superclass "ExplainDifference" "java/lang/Object"),
  (Jvm.Cond.instantiable "java/lang/IllegalArgumentException" (6 : Nat)),
  (Jvm.Cond.superclass "java/lang/Throwable" "java/lang/Object"),
  (Jvm.Cond.codeSync ⟨"java/lang/Throwable", "fillInStackTrace", "()Ljava/lang/Throwable;"⟩ prog_14_method_18_code (1 : Nat) (Option.some (Jvm.ClassFile.FieldType.object "java/lang/Throwable"))),
  (Jvm.Cond.instantiable "java/lang/Throwable" (6 : Nat)),
  (Jvm.Cond.native ⟨"java/lang/Throwable", "fillInStackTrace", "(I)Ljava/lang/Throwable;"⟩),
  (Jvm.Cond.superclass "java/lang/IllegalArgumentException" "java/lang/RuntimeException"),
  (Jvm.Cond.arrayClass Jvm.ClassFile.FieldType.byte),
  (Jvm.Cond.instantiable "java/lang/UnsupportedOperationException" (6 : Nat)),
  (Jvm.Cond.superclass "java/lang/UnsupportedOperationException" "java/lang/RuntimeException"),
  (Jvm.Cond.instantiable "java/util/NoSuchElementException" (6 : Nat)),
  (Jvm.Cond.superclass "java/util/NoSuchElementException" "java/lang/RuntimeException"),
  (Jvm.Cond.native ⟨"java/lang/System", "arraycopy", "(Ljava/lang/Object;ILjava/lang/Object;II)V"⟩),
  (Jvm.Cond.instantiable "java/lang/IllegalStateException" (6 : Nat)),
  (Jvm.Cond.superclass "java/lang/IllegalStateException" "java/lang/RuntimeException"),
  (Jvm.Cond.instantiable "java/lang/ArithmeticException" (6 : Nat)),
  (Jvm.Cond.superclass "java/lang/ArithmeticException" "java/lang/RuntimeException"),
  (Jvm.Cond.instantiable "ExplainDifferenceModel" (25 : Nat)),
  (Jvm.Cond.superclass "ExplainDifferenceModel" "java/lang/Object"),
  (Jvm.Cond.arrayClass Jvm.ClassFile.FieldType.boolean),
  (Jvm.Cond.arrayClass Jvm.ClassFile.FieldType.long)]
theorem mj_wO_p : mj_wO = ([43, 51, 91, 92, 94, 145, 152, 235, 256, 271, 275, 276, 302, 303, 313, 327, 366, 380, 451, 484, 498, 529, 543, 567, 647, 648, 794] : List Nat).filterMap (fun i => lw_tbl[i]?) := by decide +kernel
theorem mj_wO_g : mj_wO.all goodWord = true := by decide +kernel
/-- the words that a method's frame has of the tables -/
def mj_tbl : List Cond := mj_wF ++ (mj_wM ++ (mj_wI ++ (mj_wS ++ (mj_wT ++ (mj_wC ++ (mj_wN ++ (mj_wK ++ (mj_wL ++ (mj_wY ++ mj_wO)))))))))
theorem mj_sub1 {l : List Cond} (ps : List Nat) (h : l = ps.filterMap (fun i => lw_tbl[i]?)) (hg : l.all goodWord = true) : ∀ w ∈ l, w ∈ lw_tbl ∧ goodWord w = true := by
  intro w hw
  refine ⟨?_, List.all_eq_true.mp hg w hw⟩
  rw [h] at hw
  obtain ⟨i, -, hi⟩ := List.mem_filterMap.mp hw
  exact List.mem_of_getElem? hi
theorem mj_tbl_ok : ∀ w ∈ mj_tbl, w ∈ lw_tbl ∧ goodWord w = true := by
  intro w hw
  unfold mj_tbl at hw
  rcases List.mem_append.mp hw with h | hw
  · exact mj_sub1 _ mj_wF_p mj_wF_g w h
  rcases List.mem_append.mp hw with h | hw
  · exact mj_sub1 _ mj_wM_p mj_wM_g w h
  rcases List.mem_append.mp hw with h | hw
  · exact mj_sub1 _ mj_wI_p mj_wI_g w h
  rcases List.mem_append.mp hw with h | hw
  · exact mj_sub1 _ mj_wS_p mj_wS_g w h
  rcases List.mem_append.mp hw with h | hw
  · exact mj_sub1 _ mj_wT_p mj_wT_g w h
  rcases List.mem_append.mp hw with h | hw
  · exact mj_sub1 _ mj_wC_p mj_wC_g w h
  rcases List.mem_append.mp hw with h | hw
  · exact mj_sub1 _ mj_wN_p mj_wN_g w h
  rcases List.mem_append.mp hw with h | hw
  · exact mj_sub1 _ mj_wK_p mj_wK_g w h
  rcases List.mem_append.mp hw with h | hw
  · exact mj_sub1 _ mj_wL_p mj_wL_g w h
  rcases List.mem_append.mp hw with h | hw
  · exact mj_sub1 _ mj_wY_p mj_wY_g w h
  exact mj_sub1 _ mj_wO_p mj_wO_g w hw
theorem mj_inF {w : Cond} (h : w ∈ mj_wF) : w ∈ mj_tbl := List.mem_append_left _ h
theorem mj_inM {w : Cond} (h : w ∈ mj_wM) : w ∈ mj_tbl := List.mem_append_right _ (List.mem_append_left _ h)
theorem mj_inI {w : Cond} (h : w ∈ mj_wI) : w ∈ mj_tbl := List.mem_append_right _ (List.mem_append_right _ (List.mem_append_left _ h))
theorem mj_inS {w : Cond} (h : w ∈ mj_wS) : w ∈ mj_tbl := List.mem_append_right _ (List.mem_append_right _ (List.mem_append_right _ (List.mem_append_left _ h)))
theorem mj_inT {w : Cond} (h : w ∈ mj_wT) : w ∈ mj_tbl := List.mem_append_right _ (List.mem_append_right _ (List.mem_append_right _ (List.mem_append_right _ (List.mem_append_left _ h))))
theorem mj_inC {w : Cond} (h : w ∈ mj_wC) : w ∈ mj_tbl := List.mem_append_right _ (List.mem_append_right _ (List.mem_append_right _ (List.mem_append_right _ (List.mem_append_right _ (List.mem_append_left _ h)))))
theorem mj_inN {w : Cond} (h : w ∈ mj_wN) : w ∈ mj_tbl := List.mem_append_right _ (List.mem_append_right _ (List.mem_append_right _ (List.mem_append_right _ (List.mem_append_right _ (List.mem_append_right _ (List.mem_append_left _ h))))))
theorem mj_inK {w : Cond} (h : w ∈ mj_wK) : w ∈ mj_tbl := List.mem_append_right _ (List.mem_append_right _ (List.mem_append_right _ (List.mem_append_right _ (List.mem_append_right _ (List.mem_append_right _ (List.mem_append_right _ (List.mem_append_left _ h)))))))
theorem mj_inL {w : Cond} (h : w ∈ mj_wL) : w ∈ mj_tbl := List.mem_append_right _ (List.mem_append_right _ (List.mem_append_right _ (List.mem_append_right _ (List.mem_append_right _ (List.mem_append_right _ (List.mem_append_right _ (List.mem_append_right _ (List.mem_append_left _ h))))))))
theorem mj_inY {w : Cond} (h : w ∈ mj_wY) : w ∈ mj_tbl := List.mem_append_right _ (List.mem_append_right _ (List.mem_append_right _ (List.mem_append_right _ (List.mem_append_right _ (List.mem_append_right _ (List.mem_append_right _ (List.mem_append_right _ (List.mem_append_right _ (List.mem_append_left _ h)))))))))
theorem mj_inO {w : Cond} (h : w ∈ mj_wO) : w ∈ mj_tbl := List.mem_append_right _ (List.mem_append_right _ (List.mem_append_right _ (List.mem_append_right _ (List.mem_append_right _ (List.mem_append_right _ (List.mem_append_right _ (List.mem_append_right _ (List.mem_append_right _ (List.mem_append_right _ h)))))))))
def mj_dcl : List MethodName := [⟨"java/lang/RuntimeException", "<init>", "()V"⟩, ⟨"java/lang/RuntimeException", "<init>", "(Ljava/lang/String;)V"⟩, ⟨"java/lang/Exception", "<init>", "()V"⟩, ⟨"java/lang/Exception", "<init>", "(Ljava/lang/String;)V"⟩, ⟨"java/lang/Throwable", "<init>", "()V"⟩, ⟨"java/lang/Throwable", "<init>", "(Ljava/lang/String;)V"⟩]
/-- exceptions: their names, the pool's number by which their constructors hand on, those constructors' bytes, the number by which ours are called -/
def mj_xs : List (String × Nat × ByteArray × Nat) := [("java/lang/IllegalArgumentException", 7, prog_8_method_2_code, 174), ("java/lang/UnsupportedOperationException", 7, prog_15_method_2_code, 164), ("java/util/NoSuchElementException", 13, prog_17_method_4_code, 169), ("java/lang/IllegalStateException", 7, prog_9_method_2_code, 126), ("java/lang/ArithmeticException", 7, prog_6_method_2_code, 143)]
def mj_xn (E : Nat) : String := ((mj_xs[E]?).map (fun q => q.1)).getD ""
def mj_strs : List (String × Nat × String) := [("ExplainDifference", 172, "a number is outside its range"), ("ExplainDifference", 162, "no room for another act"), ("ExplainDifference", 167, "there is no such act, difference or change"), ("ExplainDifference", 124, "no explanation that can be accepted"), ("ExplainDifference", 133, "the act is plain"), ("ExplainDifference", 141, "/ by zero")]
def mj_ncs : List (String × String) := [("java/lang/IllegalArgumentException", "java/lang/UnsupportedOperationException"), ("java/lang/IllegalArgumentException", "java/util/NoSuchElementException"), ("java/lang/IllegalArgumentException", "java/lang/IllegalStateException"), ("java/lang/IllegalArgumentException", "java/lang/ArithmeticException"), ("java/lang/UnsupportedOperationException", "java/lang/IllegalArgumentException"), ("java/lang/UnsupportedOperationException", "java/util/NoSuchElementException"), ("java/lang/UnsupportedOperationException", "java/lang/IllegalStateException"), ("java/lang/UnsupportedOperationException", "java/lang/ArithmeticException"), ("java/util/NoSuchElementException", "java/lang/IllegalArgumentException"), ("java/util/NoSuchElementException", "java/lang/UnsupportedOperationException"), ("java/util/NoSuchElementException", "java/lang/IllegalStateException"), ("java/util/NoSuchElementException", "java/lang/ArithmeticException"), ("java/lang/IllegalStateException", "java/lang/IllegalArgumentException"), ("java/lang/IllegalStateException", "java/lang/UnsupportedOperationException"), ("java/lang/IllegalStateException", "java/util/NoSuchElementException"), ("java/lang/IllegalStateException", "java/lang/ArithmeticException"), ("java/lang/ArithmeticException", "java/lang/IllegalArgumentException"), ("java/lang/ArithmeticException", "java/lang/UnsupportedOperationException"), ("java/lang/ArithmeticException", "java/util/NoSuchElementException"), ("java/lang/ArithmeticException", "java/lang/IllegalStateException")]
def mj_nest : List (String × Nat × MethodName × String) := [("ExplainDifference$Ledger", 72, ⟨"ExplainDifference", "isWithin", "(III)Z"⟩, "ExplainDifference"), ("ExplainDifference$Ledger", 44, ⟨"ExplainDifference", "cellOf", "(II)I"⟩, "ExplainDifference"), ("ExplainDifference$Ledger", 40, ⟨"ExplainDifference", "timesDone", "(I)I"⟩, "ExplainDifference")]
end
section
/-! A SMALL MACHINE over places: what the class, the reference and the law do, told by numbers alone. Values: an int, a long, a place (a fixed cell), a row of a grid. -/
abbrev mj_V : Type := Int32 ⊕ (Int64 ⊕ (Nat ⊕ (Nat × Nat)))
abbrev mj_L : Type := Nat → Option mj_V
abbrev mj_M : Type := (Nat → Nat → Int32) × Int64
abbrev mj_C : Type := Nat × mj_L × List mj_V × mj_M
abbrev mj_R : Type := (Nat ⊕ Option mj_V) × mj_M × Nat
/-- an index within -/
abbrev mj_in (i : Int32) (n : Nat) : Prop := ¬ (i < 0 ∨ n ≤ i.toNatClampNeg)
def mj_up (lo : mj_L) (i : Nat) (v : mj_V) : mj_L := fun j => if j = i then some v else lo j
def mj_dl (lo : mj_L) (i : Nat) : mj_L := fun j => if j = i then none else lo j
/-- memory with x in slot j of cell k -/
def mj_st (M : mj_M) (k j : Nat) (x : Int32) : mj_M := (fun a => if a = k then upd (M.1 a) j x else M.1 a, M.2)
/-- memory with another content of cell k -/
def mj_sc (M : mj_M) (k : Nat) (f : Nat → Int32) : mj_M := (fun a => if a = k then f else M.1 a, M.2)
def mj_pop : Nat → List mj_V → List mj_V → Option (List mj_V × List mj_V)
  | 0, st, acc => some (acc, st)
  | _ + 1, [], _ => none
  | n + 1, v :: st, acc => mj_pop n st (v :: acc)
/-- a cell: an object (its class, its fields: a place, or an int), an int array, a grid (rows, columns, the number of its first row), a long array, a boolean array -/
abbrev mj_K : Type := (Nat × List (Option Nat)) ⊕ (Nat ⊕ ((Nat × Nat × Nat) ⊕ (Nat ⊕ Nat)))
/-- a shape: the places; the columns of each row of the grids -/
abbrev mj_S : Type := List mj_K × List Nat
/-- the cell of row r of the grid whose rows begin at o -/
def mj_rw (S : mj_S) (o r : Nat) : Nat := S.1.length + 1 + (o + r)
section
variable (S : mj_S) (X : Nat × (Nat → Int32))
def mj_const (nx : Nat) (v : Int32) (lo : mj_L) (st : List mj_V) (M : mj_M) : Option mj_C := some (nx, lo, .inl v :: st, M)
def mj_iload (nx j : Nat) (lo : mj_L) (st : List mj_V) (M : mj_M) : Option mj_C := match lo j with
  | some (.inl x) => some (nx, lo, .inl x :: st, M)
  | _ => none
def mj_aload (nx j : Nat) (lo : mj_L) (st : List mj_V) (M : mj_M) : Option mj_C := match lo j with
  | some (.inr (.inr q)) => some (nx, lo, .inr (.inr q) :: st, M)
  | _ => none
def mj_istore (nx j : Nat) (lo : mj_L) (st : List mj_V) (M : mj_M) : Option mj_C := match st with
  | .inl x :: st => some (nx, mj_up lo j (.inl x), st, M)
  | _ => none
def mj_astore (nx j : Nat) (lo : mj_L) (st : List mj_V) (M : mj_M) : Option mj_C := match st with
  | .inr (.inr q) :: st => some (nx, mj_up lo j (.inr (.inr q)), st, M)
  | _ => none
def mj_iinc (nx j : Nat) (v : Int32) (lo : mj_L) (st : List mj_V) (M : mj_M) : Option mj_C := match lo j with
  | some (.inl x) => some (nx, mj_up lo j (.inl (x + v)), st, M)
  | _ => none
def mj_bin (f : Int32 → Int32 → Int32) (nx : Nat) (lo : mj_L) (st : List mj_V) (M : mj_M) : Option mj_C := match st with
  | .inl y :: .inl x :: st => some (nx, lo, .inl (f x y) :: st, M)
  | _ => none
def mj_div (f : Int32 → Int32 → Int32) (nx : Nat) (lo : mj_L) (st : List mj_V) (M : mj_M) : Option mj_C := match st with
  | .inl y :: .inl x :: st => if ¬ y = 0 then some (nx, lo, .inl (f x y) :: st, M) else none
  | _ => none
def mj_ineg (nx : Nat) (lo : mj_L) (st : List mj_V) (M : mj_M) : Option mj_C := match st with
  | .inl x :: st => some (nx, lo, .inl (-x) :: st, M)
  | _ => none
def mj_one (v : mj_V) : Bool := match v with
  | .inr (.inl _) => false
  | _ => true
def mj_dup (nx : Nat) (lo : mj_L) (st : List mj_V) (M : mj_M) : Option mj_C := match st with
  | v :: st => if mj_one v = true then some (nx, lo, v :: v :: st, M) else none
  | _ => none
def mj_pop1 (nx : Nat) (lo : mj_L) (st : List mj_V) (M : mj_M) : Option mj_C := match st with
  | v :: st => if mj_one v = true then some (nx, lo, st, M) else none
  | _ => none
def mj_dup2 (nx : Nat) (lo : mj_L) (st : List mj_V) (M : mj_M) : Option mj_C := match st with
  | v :: w :: st => if mj_one v = true ∧ mj_one w = true then some (nx, lo, v :: w :: v :: w :: st, M) else none
  | _ => none
def mj_dupx1 (nx : Nat) (lo : mj_L) (st : List mj_V) (M : mj_M) : Option mj_C := match st with
  | v :: w :: st => if mj_one v = true ∧ mj_one w = true then some (nx, lo, v :: w :: v :: st, M) else none
  | _ => none
def mj_i2l (nx : Nat) (lo : mj_L) (st : List mj_V) (M : mj_M) : Option mj_C := match st with
  | .inl x :: st => some (nx, lo, .inr (.inl x.toInt64) :: st, M)
  | _ => none
def mj_lcmp (nx : Nat) (lo : mj_L) (st : List mj_V) (M : mj_M) : Option mj_C := match st with
  | .inr (.inl y) :: .inr (.inl x) :: st => some (nx, lo, .inl (lg_cmp x y) :: st, M)
  | _ => none
/-- a branch on an int against 0, on two ints -/
def mj_br (c : ClassFile.Cond) (x y : Int32) (a nx : Nat) (lo : mj_L) (st : List mj_V) (M : mj_M) : Option mj_C := match c with
  | .eq => if x = y then some (a, lo, st, M) else some (nx, lo, st, M)
  | .ne => if x = y then some (nx, lo, st, M) else some (a, lo, st, M)
  | .lt => if x < y then some (a, lo, st, M) else some (nx, lo, st, M)
  | .ge => if y ≤ x then some (a, lo, st, M) else some (nx, lo, st, M)
  | .gt => if y < x then some (a, lo, st, M) else some (nx, lo, st, M)
  | .le => if x ≤ y then some (a, lo, st, M) else some (nx, lo, st, M)
def mj_if0 (c : ClassFile.Cond) (a nx : Nat) (lo : mj_L) (st : List mj_V) (M : mj_M) : Option mj_C := match st with
  | .inl x :: st => mj_br c x 0 a nx lo st M
  | _ => none
def mj_if2 (c : ClassFile.Cond) (a nx : Nat) (lo : mj_L) (st : List mj_V) (M : mj_M) : Option mj_C := match st with
  | .inl y :: .inl x :: st => mj_br c x y a nx lo st M
  | _ => none
def mj_get (nx a b : Nat) (lo : mj_L) (st : List mj_V) (M : mj_M) : Option mj_C := match st with
  | .inr (.inr (.inl q)) :: st => if q = a then (match S.1[a]? with
      | some (.inl (_, fs)) => (match fs[b]? with
          | some (some q') => some (nx, lo, .inr (.inr (.inl q')) :: st, M)
          | some none => some (nx, lo, .inl (M.1 a b) :: st, M)
          | none => none)
      | _ => none) else none
  | _ => none
/-- v = 1: the field is a boolean -/
def mj_put (nx a b : Nat) (v : Int32) (lo : mj_L) (st : List mj_V) (M : mj_M) : Option mj_C := match st with
  | .inl x :: .inr (.inr (.inl q)) :: st => if q = a then (match S.1[a]? with
      | some (.inl (_, fs)) => (match fs[b]? with
          | some none => if v = 0 ∨ x = 0 ∨ x = 1 then some (nx, lo, st, mj_st M a b x) else none
          | _ => none)
      | _ => none) else none
  | _ => none
def mj_iald (nx : Nat) (lo : mj_L) (st : List mj_V) (M : mj_M) : Option mj_C := match st with
  | .inl i :: .inr (.inr (.inl q)) :: st => (match S.1[q]? with
      | some (.inr (.inl n)) => if mj_in i n then some (nx, lo, .inl (M.1 q i.toNatClampNeg) :: st, M) else none
      | none => if q = S.1.length ∧ mj_in i X.1 then some (nx, lo, .inl (X.2 i.toNatClampNeg) :: st, M) else none
      | _ => none)
  | .inl i :: .inr (.inr (.inr (g, r))) :: st => (match S.1[g]? with
      | some (.inr (.inr (.inl (n, c, o)))) => if r < n ∧ mj_in i c then some (nx, lo, .inl (M.1 (mj_rw S o r) i.toNatClampNeg) :: st, M) else none
      | _ => none)
  | _ => none
def mj_iast (nx : Nat) (lo : mj_L) (st : List mj_V) (M : mj_M) : Option mj_C := match st with
  | .inl x :: .inl i :: .inr (.inr (.inl q)) :: st => (match S.1[q]? with
      | some (.inr (.inl n)) => if mj_in i n then some (nx, lo, st, mj_st M q i.toNatClampNeg x) else none
      | _ => none)
  | .inl x :: .inl i :: .inr (.inr (.inr (g, r))) :: st => (match S.1[g]? with
      | some (.inr (.inr (.inl (n, c, o)))) => if r < n ∧ mj_in i c then some (nx, lo, st, mj_st M (mj_rw S o r) i.toNatClampNeg x) else none
      | _ => none)
  | _ => none
def mj_zald (nx : Nat) (lo : mj_L) (st : List mj_V) (M : mj_M) : Option mj_C := match st with
  | .inl i :: .inr (.inr (.inl q)) :: st => (match S.1[q]? with
      | some (.inr (.inr (.inr (.inr n)))) => if mj_in i n then some (nx, lo, .inl (M.1 q i.toNatClampNeg) :: st, M) else none
      | _ => none)
  | _ => none
def mj_zast (nx : Nat) (lo : mj_L) (st : List mj_V) (M : mj_M) : Option mj_C := match st with
  | .inl x :: .inl i :: .inr (.inr (.inl q)) :: st => (match S.1[q]? with
      | some (.inr (.inr (.inr (.inr n)))) => if mj_in i n ∧ (x = 0 ∨ x = 1) then some (nx, lo, st, mj_st M q i.toNatClampNeg x) else none
      | _ => none)
  | _ => none
def mj_aald (nx : Nat) (lo : mj_L) (st : List mj_V) (M : mj_M) : Option mj_C := match st with
  | .inl i :: .inr (.inr (.inl q)) :: st => (match S.1[q]? with
      | some (.inr (.inr (.inl (n, _, _)))) => if mj_in i n then some (nx, lo, .inr (.inr (.inr (q, i.toNatClampNeg))) :: st, M) else none
      | _ => none)
  | _ => none
def mj_lald (nx : Nat) (lo : mj_L) (st : List mj_V) (M : mj_M) : Option mj_C := match st with
  | .inl i :: .inr (.inr (.inl q)) :: st => (match S.1[q]? with
      | some (.inr (.inr (.inr (.inl _)))) => if i = 0 then some (nx, lo, .inr (.inl M.2) :: st, M) else none
      | _ => none)
  | _ => none
def mj_last (nx : Nat) (lo : mj_L) (st : List mj_V) (M : mj_M) : Option mj_C := match st with
  | .inr (.inl y) :: .inl i :: .inr (.inr (.inl q)) :: st => (match S.1[q]? with
      | some (.inr (.inr (.inr (.inl _)))) => if i = 0 then some (nx, lo, st, (M.1, y)) else none
      | _ => none)
  | _ => none
def mj_alen (nx : Nat) (lo : mj_L) (st : List mj_V) (M : mj_M) : Option mj_C := match st with
  | .inr (.inr (.inl q)) :: st => (match S.1[q]? with
      | some (.inr (.inl n)) => some (nx, lo, .inl (Int32.ofNat n) :: st, M)
      | none => if q = S.1.length then some (nx, lo, .inl (Int32.ofNat X.1) :: st, M) else none
      | _ => none)
  | _ => none
/-- Math.abs (a = 1000), System.arraycopy of ints (a = 1001) -/
def mj_nat (nx a : Nat) (lo : mj_L) (st : List mj_V) (M : mj_M) : Option mj_C :=
  if a = 1000 then (match st with
    | .inl x :: st => if st.length ≤ 4 then some (nx, lo, .inl (if 0 ≤ x then x else 0 - x) :: st, M) else none
    | _ => none)
  else if a = 1001 then (match st with
    | .inl n :: .inl dp :: .inr (.inr (.inl q1)) :: .inl sp :: .inr (.inr (.inl q0)) :: st => (match S.1[q0]?, S.1[q1]? with
        | some (.inr (.inl n0)), some (.inr (.inl n1)) =>
          if (¬ sp < 0 ∧ ¬ dp < 0 ∧ ¬ n < 0 ∧ st.length ≤ 4) ∧ (sp.toNatClampNeg + n.toNatClampNeg ≤ n0 ∧ dp.toNatClampNeg + n.toNatClampNeg ≤ n1) then
            some (nx, lo, st, mj_sc M q1 (va_cpy (M.1 q0) (M.1 q1) sp.toNatClampNeg dp.toNatClampNeg n.toNatClampNeg)) else none
        | _, _ => none)
    | _ => none)
  else none
def mj_tsw (pc : Nat) (dflt lw hi : Int) (offs : Array Int) (lo : mj_L) (st : List mj_V) (M : mj_M) : Option mj_C := match st with
  | .inl x :: st => if x.toInt < lw ∨ hi < x.toInt then (if 0 ≤ (pc : Int) + dflt then some (((pc : Int) + dflt).toNat, lo, st, M) else none) else (match offs[(x.toInt - lw).toNat]? with
      | some off => if 0 ≤ (pc : Int) + off then some (((pc : Int) + off).toNat, lo, st, M) else none
      | none => none)
  | _ => none
/-- one instruction that is no call, no end, no throw -/
def mj_step (pc : Nat) (i : Instr) (nx a b : Nat) (v : Int32) (lo : mj_L) (st : List mj_V) (M : mj_M) : Option mj_C := match i with
  | .iconst _ => mj_const nx v lo st M
  | .bipush _ => mj_const nx v lo st M
  | .sipush _ => mj_const nx v lo st M
  | .ldc _ => mj_const nx v lo st M
  | .iload_n j => mj_iload nx j lo st M
  | .iload j => mj_iload nx j lo st M
  | .aload_n j => mj_aload nx j lo st M
  | .aload j => mj_aload nx j lo st M
  | .istore_n j => mj_istore nx j lo st M
  | .istore j => mj_istore nx j lo st M
  | .astore_n j => mj_astore nx j lo st M
  | .astore j => mj_astore nx j lo st M
  | .iinc j _ => mj_iinc nx j v lo st M
  | .iadd => mj_bin (fun x y => x + y) nx lo st M
  | .isub => mj_bin (fun x y => x - y) nx lo st M
  | .imul => mj_bin (fun x y => x * y) nx lo st M
  | .iand => mj_bin (fun x y => x &&& y) nx lo st M
  | .idiv => mj_div (fun x y => x / y) nx lo st M
  | .irem => mj_div (fun x y => x - x / y * y) nx lo st M
  | .ineg => mj_ineg nx lo st M
  | .dup => mj_dup nx lo st M
  | .pop => mj_pop1 nx lo st M
  | .dup2 => mj_dup2 nx lo st M
  | .dup_x1 => mj_dupx1 nx lo st M
  | .i2l => mj_i2l nx lo st M
  | .lcmp => mj_lcmp nx lo st M
  | .ifCond c _ => mj_if0 c a nx lo st M
  | .if_icmp c _ => mj_if2 c a nx lo st M
  | .goto _ => some (a, lo, st, M)
  | .getfield _ => mj_get S nx a b lo st M
  | .putfield _ => mj_put S nx a b v lo st M
  | .iaload => mj_iald S X nx lo st M
  | .iastore => mj_iast S nx lo st M
  | .aaload => mj_aald S nx lo st M
  | .baload => mj_zald S nx lo st M
  | .bastore => mj_zast S nx lo st M
  | .laload => mj_lald S nx lo st M
  | .lastore => mj_last S nx lo st M
  | .arraylength => mj_alen S X nx lo st M
  | .invokestatic _ => mj_nat S nx a lo st M
  | .tableswitch dflt lw hi offs => mj_tsw pc dflt lw hi offs lo st M
  | _ => none
end
abbrev mj_I : Type := Nat × Instr × Nat × Nat × Nat × Int32
/-- a method: name, bytes, locals, what it returns, the place of its object, its handlers (from, to, at, the pool's number, the exception, the place behind the store, the local), its instructions by sixteens of the pc -/
abbrev mj_T : Type := MethodName × ByteArray × Nat × Option FieldType × Nat × List (Nat × Nat × Nat × Nat × Nat × Nat × Nat) × List (List mj_I)
abbrev mj_tn (T : mj_T) : MethodName := T.1
abbrev mj_tb (T : mj_T) : ByteArray := T.2.1
abbrev mj_tl (T : mj_T) : Nat := T.2.2.1
abbrev mj_tr (T : mj_T) : Option FieldType := T.2.2.2.1
abbrev mj_tp (T : mj_T) : Nat := T.2.2.2.2.1
abbrev mj_th (T : mj_T) : List (Nat × Nat × Nat × Nat × Nat × Nat × Nat) := T.2.2.2.2.2.1
abbrev mj_tc (T : mj_T) : List (List mj_I) := T.2.2.2.2.2.2
def mj_at (T : mj_T) (pc : Nat) : Option mj_I := match (mj_tc T)[pc / 16]? with
  | some ch => ch.find? (fun e => e.1 == pc)
  | none => none
def mj_isc (i : Instr) : Bool := match i with
  | .invokevirtual _ => true
  | .invokestatic _ => true
  | _ => false
def mj_rcv (i : Instr) (T : mj_T) (as : List mj_V) : Bool := match i with
  | .invokevirtual _ => (match as with
      | .inr (.inr (.inl q)) :: _ => q == mj_tp T
      | _ => false)
  | _ => true
def mj_cat : List (Nat × Nat × Nat × Nat × Nat × Nat × Nat) → Nat → Nat → Option (Nat × Nat)
  | [], _, _ => none
  | (f, t, _, _, E', h, j) :: r, pc, E => if f ≤ pc ∧ pc < t ∧ E' = E then some (h, j) else mj_cat r pc E
end
section
/-! the methods as tables, laid by program out of the listing -/
def mj_S0 : mj_S := ([.inl (2, [some 1, some 2]),
  .inl (0, [some 3, some 4, some 5, none, none, none, none]),
  .inl (1, [some 6, some 7, some 8, some 9, some 10, some 11, none, none, none, none, none, none, none]),
  .inr (.inr (.inl (24, 8, 0))),
  .inr (.inl 60),
  .inr (.inl 60),
  .inr (.inl 24),
  .inr (.inl 4),
  .inr (.inl 4),
  .inr (.inl 4),
  .inr (.inl 4),
  .inr (.inl 24),
  .inl (3, [none, none, some 13, some 14, some 15, some 16, some 17, some 18, some 19, some 20, none, none, some 21, none, none, none, some 22, none, some 23, some 24, none, none, some 25, some 26, some 27]),
  .inr (.inl 24),
  .inr (.inl 24),
  .inr (.inl 24),
  .inr (.inl 24),
  .inr (.inl 24),
  .inr (.inl 24),
  .inr (.inl 24),
  .inr (.inr (.inr (.inr 24))),
  .inr (.inl 60),
  .inr (.inl 24),
  .inr (.inl 4),
  .inr (.inl 60),
  .inr (.inl 24),
  .inr (.inl 5),
  .inr (.inr (.inr (.inr 5))),
  .inr (.inr (.inr (.inl 1)))], List.replicate 24 8)
def mt_L_add : mj_T := (⟨"ExplainDifference$Ledger", "add", "(IIIIII)I"⟩, prog_2_method_2_code, 9, some .int, 1, [],
  [[(0, .aload_n 0, 1, 0, 0, 0), (1, .getfield 33, 4, 1, 3, 0), (4, .istore 7, 6, 0, 0, 0), (6, .aload_n 0, 7, 0, 0, 0), (7, .getfield 11, 10, 1, 0, 0), (10, .iload 7, 12, 0, 0, 0), (12, .aaload, 13, 0, 0, 0), (13, .astore 8, 15, 0, 0, 0), (15, .aload 8, 17, 0, 0, 0)],
   [(17, .iconst 0, 18, 0, 0, 0), (18, .iload_n 1, 19, 0, 0, 0), (19, .iastore, 20, 0, 0, 0), (20, .aload 8, 22, 0, 0, 0), (22, .iconst 1, 23, 0, 0, 1), (23, .iload_n 2, 24, 0, 0, 0), (24, .iastore, 25, 0, 0, 0), (25, .aload 8, 27, 0, 0, 0), (27, .iconst 2, 28, 0, 0, 2), (28, .iload_n 3, 29, 0, 0, 0), (29, .iastore, 30, 0, 0, 0), (30, .aload 8, 32, 0, 0, 0)],
   [(32, .iconst 3, 33, 0, 0, 3), (33, .iload 4, 35, 0, 0, 0), (35, .iastore, 36, 0, 0, 0), (36, .aload 8, 38, 0, 0, 0), (38, .iconst 4, 39, 0, 0, 4), (39, .iload 5, 41, 0, 0, 0), (41, .iastore, 42, 0, 0, 0), (42, .aload 8, 44, 0, 0, 0), (44, .iconst 5, 45, 0, 0, 5), (45, .iload 6, 47, 0, 0, 0), (47, .iastore, 48, 0, 0, 0)],
   [(48, .aload_n 0, 49, 0, 0, 0), (49, .dup, 50, 0, 0, 0), (50, .getfield 33, 53, 1, 3, 0), (53, .iconst 1, 54, 0, 0, 1), (54, .iadd, 55, 0, 0, 0), (55, .putfield 33, 58, 1, 3, 0), (58, .aload_n 0, 59, 0, 0, 0), (59, .iload 7, 61, 0, 0, 0), (61, .iconst 1, 62, 0, 0, 1), (62, .invokevirtual 36, 65, 3, 3, 0)],
   [(65, .iload 7, 67, 0, 0, 0), (67, .ireturn, 68, 0, 0, 0)]])
def mt_L_lastTime : mj_T := (⟨"ExplainDifference$Ledger", "lastTime", "()I"⟩, prog_2_method_3_code, 1, some .int, 1, [],
  [[(0, .aload_n 0, 1, 0, 0, 0), (1, .getfield 33, 4, 1, 3, 0), (4, .ifCond .ne 7, 7, 11, 0, 0), (7, .iconst 0, 8, 0, 0, 0), (8, .goto 16, 11, 24, 0, 0), (11, .aload_n 0, 12, 0, 0, 0), (12, .getfield 11, 15, 1, 0, 0), (15, .aload_n 0, 16, 0, 0, 0)],
   [(16, .getfield 33, 19, 1, 3, 0), (19, .iconst 1, 20, 0, 0, 1), (20, .isub, 21, 0, 0, 0), (21, .aaload, 22, 0, 0, 0), (22, .iconst 5, 23, 0, 0, 5), (23, .iaload, 24, 0, 0, 0), (24, .ireturn, 25, 0, 0, 0)]])
def mt_L_turn : mj_T := (⟨"ExplainDifference$Ledger", "turn", "(II)V"⟩, prog_2_method_4_code, 4, none, 1, [],
  [[(0, .iload_n 2, 1, 0, 0, 0), (1, .invokestatic 40, 4, 53, 1, 7), (4, .aload_n 0, 5, 0, 0, 0), (5, .getfield 11, 8, 1, 0, 0), (8, .iload_n 1, 9, 0, 0, 0), (9, .aaload, 10, 0, 0, 0), (10, .bipush 6, 12, 0, 0, 6), (12, .iaload, 13, 0, 0, 0), (13, .invokestatic 40, 16, 53, 1, 7)],
   [(16, .isub, 17, 0, 0, 0), (17, .istore_n 3, 18, 0, 0, 0), (18, .aload_n 0, 19, 0, 0, 0), (19, .getfield 11, 22, 1, 0, 0), (22, .iload_n 1, 23, 0, 0, 0), (23, .aaload, 24, 0, 0, 0), (24, .bipush 6, 26, 0, 0, 6), (26, .iload_n 2, 27, 0, 0, 0), (27, .iastore, 28, 0, 0, 0), (28, .aload_n 0, 29, 0, 0, 0), (29, .iload_n 1, 30, 0, 0, 0), (30, .iload_n 3, 31, 0, 0, 0), (31, .invokevirtual 36, 34, 3, 3, 0)],
   [(34, .return_, 35, 0, 0, 0)]])
def mt_L_carry : mj_T := (⟨"ExplainDifference$Ledger", "carry", "(II)V"⟩, prog_2_method_5_code, 5, none, 1, [],
  [[(0, .aload_n 0, 1, 0, 0, 0), (1, .getfield 11, 4, 1, 0, 0), (4, .iload_n 1, 5, 0, 0, 0), (5, .aaload, 6, 0, 0, 0), (6, .astore_n 3, 7, 0, 0, 0), (7, .aload_n 3, 8, 0, 0, 0), (8, .iconst 4, 9, 0, 0, 4), (9, .iaload, 10, 0, 0, 0), (10, .iload_n 2, 11, 0, 0, 0), (11, .imul, 12, 0, 0, 0), (12, .istore 4, 14, 0, 0, 0), (14, .aload_n 0, 15, 0, 0, 0), (15, .aload_n 3, 16, 0, 0, 0)],
   [(16, .iconst 1, 17, 0, 0, 1), (17, .iaload, 18, 0, 0, 0), (18, .aload_n 3, 19, 0, 0, 0), (19, .iconst 3, 20, 0, 0, 3), (20, .iaload, 21, 0, 0, 0), (21, .invokestatic 44, 24, 52, 2, 7), (24, .aload_n 3, 25, 0, 0, 0), (25, .iconst 0, 26, 0, 0, 0), (26, .iaload, 27, 0, 0, 0), (27, .ifCond .ne 8, 30, 35, 0, 0), (30, .iload 4, 32, 0, 0, 0)],
   [(32, .goto 6, 35, 38, 0, 0), (35, .iload 4, 37, 0, 0, 0), (37, .ineg, 38, 0, 0, 0), (38, .invokevirtual 48, 41, 4, 3, 0), (41, .aload_n 3, 42, 0, 0, 0), (42, .iconst 0, 43, 0, 0, 0), (43, .iaload, 44, 0, 0, 0), (44, .iconst 2, 45, 0, 0, 2), (45, .if_icmp .ne 18, 48, 63, 0, 0)],
   [(48, .aload_n 0, 49, 0, 0, 0), (49, .aload_n 3, 50, 0, 0, 0), (50, .iconst 2, 51, 0, 0, 2), (51, .iaload, 52, 0, 0, 0), (52, .aload_n 3, 53, 0, 0, 0), (53, .iconst 3, 54, 0, 0, 3), (54, .iaload, 55, 0, 0, 0), (55, .invokestatic 44, 58, 52, 2, 7), (58, .iload 4, 60, 0, 0, 0), (60, .invokevirtual 48, 63, 4, 3, 0), (63, .return_, 64, 0, 0, 0)]])
def mt_L_shift : mj_T := (⟨"ExplainDifference$Ledger", "shift", "(II)V"⟩, prog_2_method_6_code, 4, none, 1, [],
  [[(0, .aload_n 0, 1, 0, 0, 0), (1, .iload_n 1, 2, 0, 0, 0), (2, .invokevirtual 51, 5, 7, 2, 0), (5, .istore_n 3, 6, 0, 0, 0), (6, .aload_n 0, 7, 0, 0, 0), (7, .getfield 16, 10, 1, 1, 0), (10, .iload_n 1, 11, 0, 0, 0), (11, .dup2, 12, 0, 0, 0), (12, .iaload, 13, 0, 0, 0), (13, .iload_n 2, 14, 0, 0, 0), (14, .iadd, 15, 0, 0, 0), (15, .iastore, 16, 0, 0, 0)],
   [(16, .aload_n 0, 17, 0, 0, 0), (17, .dup, 18, 0, 0, 0), (18, .getfield 54, 21, 1, 4, 0), (21, .aload_n 0, 22, 0, 0, 0), (22, .iload_n 1, 23, 0, 0, 0), (23, .invokevirtual 51, 26, 7, 2, 0), (26, .iload_n 3, 27, 0, 0, 0), (27, .isub, 28, 0, 0, 0), (28, .iadd, 29, 0, 0, 0), (29, .putfield 54, 32, 1, 4, 0)],
   [(32, .return_, 33, 0, 0, 0)]])
def mt_L_tell : mj_T := (⟨"ExplainDifference$Ledger", "tell", "(II)V"⟩, prog_2_method_7_code, 4, none, 1, [],
  [[(0, .aload_n 0, 1, 0, 0, 0), (1, .iload_n 1, 2, 0, 0, 0), (2, .invokevirtual 51, 5, 7, 2, 0), (5, .istore_n 3, 6, 0, 0, 0), (6, .aload_n 0, 7, 0, 0, 0), (7, .getfield 20, 10, 1, 2, 0), (10, .iload_n 1, 11, 0, 0, 0), (11, .iload_n 2, 12, 0, 0, 0), (12, .iastore, 13, 0, 0, 0), (13, .aload_n 0, 14, 0, 0, 0), (14, .dup, 15, 0, 0, 0), (15, .getfield 54, 18, 1, 4, 0)],
   [(18, .aload_n 0, 19, 0, 0, 0), (19, .iload_n 1, 20, 0, 0, 0), (20, .invokevirtual 51, 23, 7, 2, 0), (23, .iload_n 3, 24, 0, 0, 0), (24, .isub, 25, 0, 0, 0), (25, .iadd, 26, 0, 0, 0), (26, .putfield 54, 29, 1, 4, 0), (29, .return_, 30, 0, 0, 0)]])
def mt_L_isCounted : mj_T := (⟨"ExplainDifference$Ledger", "isCounted", "(I)Z"⟩, prog_2_method_8_code, 2, some .boolean, 1, [],
  [[(0, .aload_n 0, 1, 0, 0, 0), (1, .getfield 20, 4, 1, 2, 0), (4, .iload_n 1, 5, 0, 0, 0), (5, .iaload, 6, 0, 0, 0), (6, .iconst (-1), 7, 0, 0, (-1)), (7, .if_icmp .eq 7, 10, 14, 0, 0), (10, .iconst 1, 11, 0, 0, 1), (11, .goto 4, 14, 15, 0, 0), (14, .iconst 0, 15, 0, 0, 0), (15, .ireturn, 16, 0, 0, 0)]])
def mt_L_differs : mj_T := (⟨"ExplainDifference$Ledger", "differs", "(I)I"⟩, prog_2_method_9_code, 2, some .int, 1, [],
  [[(0, .aload_n 0, 1, 0, 0, 0), (1, .getfield 20, 4, 1, 2, 0), (4, .iload_n 1, 5, 0, 0, 0), (5, .iaload, 6, 0, 0, 0), (6, .iconst (-1), 7, 0, 0, (-1)), (7, .if_icmp .eq 22, 10, 29, 0, 0), (10, .aload_n 0, 11, 0, 0, 0), (11, .getfield 20, 14, 1, 2, 0), (14, .iload_n 1, 15, 0, 0, 0), (15, .iaload, 16, 0, 0, 0)],
   [(16, .aload_n 0, 17, 0, 0, 0), (17, .getfield 16, 20, 1, 1, 0), (20, .iload_n 1, 21, 0, 0, 0), (21, .iaload, 22, 0, 0, 0), (22, .if_icmp .eq 7, 25, 29, 0, 0), (25, .iconst 1, 26, 0, 0, 1), (26, .goto 4, 29, 30, 0, 0), (29, .iconst 0, 30, 0, 0, 0), (30, .ireturn, 31, 0, 0, 0)]])
def mt_L_gap : mj_T := (⟨"ExplainDifference$Ledger", "gap", "(I)I"⟩, prog_2_method_10_code, 2, some .int, 1, [],
  [[(0, .aload_n 0, 1, 0, 0, 0), (1, .getfield 20, 4, 1, 2, 0), (4, .iload_n 1, 5, 0, 0, 0), (5, .iaload, 6, 0, 0, 0), (6, .aload_n 0, 7, 0, 0, 0), (7, .getfield 16, 10, 1, 1, 0), (10, .iload_n 1, 11, 0, 0, 0), (11, .iaload, 12, 0, 0, 0), (12, .isub, 13, 0, 0, 0), (13, .ireturn, 14, 0, 0, 0)]])
def mt_L_differingCell : mj_T := (⟨"ExplainDifference$Ledger", "differingCell", "(I)I"⟩, prog_2_method_11_code, 4, some .int, 1, [],
  [[(0, .iconst 0, 1, 0, 0, 0), (1, .istore_n 2, 2, 0, 0, 0), (2, .aload_n 0, 3, 0, 0, 0), (3, .iload_n 2, 4, 0, 0, 0), (4, .invokevirtual 51, 7, 7, 2, 0), (7, .istore_n 3, 8, 0, 0, 0), (8, .iload_n 3, 9, 0, 0, 0), (9, .iload_n 1, 10, 0, 0, 0), (10, .if_icmp .gt 23, 13, 33, 0, 0), (13, .iload_n 2, 14, 0, 0, 0), (14, .bipush 59, 16, 0, 0, 59)],
   [(16, .if_icmp .ge 17, 19, 33, 0, 0), (19, .iinc 2 1, 22, 0, 0, 1), (22, .iload_n 3, 23, 0, 0, 0), (23, .aload_n 0, 24, 0, 0, 0), (24, .iload_n 2, 25, 0, 0, 0), (25, .invokevirtual 51, 28, 7, 2, 0), (28, .iadd, 29, 0, 0, 0), (29, .istore_n 3, 30, 0, 0, 0), (30, .goto (-22), 33, 8, 0, 0)],
   [(33, .iload_n 2, 34, 0, 0, 0), (34, .ireturn, 35, 0, 0, 0)]])
def mt_L_piecesOfDifferences : mj_T := (⟨"ExplainDifference$Ledger", "piecesOfDifferences", "()I"⟩, prog_2_method_12_code, 3, some .int, 1, [],
  [[(0, .iconst 0, 1, 0, 0, 0), (1, .istore_n 1, 2, 0, 0, 0), (2, .iconst 0, 3, 0, 0, 0), (3, .istore_n 2, 4, 0, 0, 0), (4, .iload_n 2, 5, 0, 0, 0), (5, .bipush 60, 7, 0, 0, 60), (7, .if_icmp .ge 26, 10, 33, 0, 0), (10, .iload_n 1, 11, 0, 0, 0), (11, .aload_n 0, 12, 0, 0, 0), (12, .iload_n 2, 13, 0, 0, 0), (13, .invokevirtual 51, 16, 7, 2, 0)],
   [(16, .aload_n 0, 17, 0, 0, 0), (17, .iload_n 2, 18, 0, 0, 0), (18, .invokevirtual 57, 21, 8, 2, 0), (21, .invokestatic 60, 24, 1000, 0, 0), (24, .imul, 25, 0, 0, 0), (25, .iadd, 26, 0, 0, 0), (26, .istore_n 1, 27, 0, 0, 0), (27, .iinc 2 1, 30, 0, 0, 1), (30, .goto (-26), 33, 4, 0, 0)],
   [(33, .iload_n 1, 34, 0, 0, 0), (34, .ireturn, 35, 0, 0, 0)]])
def mt_L_countedCells : mj_T := (⟨"ExplainDifference$Ledger", "countedCells", "()I"⟩, prog_2_method_13_code, 3, some .int, 1, [],
  [[(0, .iconst 0, 1, 0, 0, 0), (1, .istore_n 1, 2, 0, 0, 0), (2, .iconst 0, 3, 0, 0, 0), (3, .istore_n 2, 4, 0, 0, 0), (4, .iload_n 2, 5, 0, 0, 0), (5, .bipush 60, 7, 0, 0, 60), (7, .if_icmp .ge 20, 10, 27, 0, 0), (10, .aload_n 0, 11, 0, 0, 0), (11, .iload_n 2, 12, 0, 0, 0), (12, .invokevirtual 65, 15, 6, 2, 0), (15, .ifCond .eq 6, 18, 21, 0, 0)],
   [(18, .iinc 1 1, 21, 0, 0, 1), (21, .iinc 2 1, 24, 0, 0, 1), (24, .goto (-20), 27, 4, 0, 0), (27, .iload_n 1, 28, 0, 0, 0), (28, .ireturn, 29, 0, 0, 0)]])
def mt_L_isCandidate : mj_T := (⟨"ExplainDifference$Ledger", "isCandidate", "(I)Z"⟩, prog_2_method_14_code, 3, some .boolean, 1, [],
  [[(0, .aload_n 0, 1, 0, 0, 0), (1, .getfield 11, 4, 1, 0, 0), (4, .iload_n 1, 5, 0, 0, 0), (5, .aaload, 6, 0, 0, 0), (6, .astore_n 2, 7, 0, 0, 0), (7, .aload_n 2, 8, 0, 0, 0), (8, .bipush 6, 10, 0, 0, 6), (10, .iaload, 11, 0, 0, 0), (11, .ifCond .ne 39, 14, 50, 0, 0), (14, .aload_n 2, 15, 0, 0, 0), (15, .bipush 7, 17, 0, 0, 7)],
   [(17, .iaload, 18, 0, 0, 0), (18, .ifCond .ne 32, 21, 50, 0, 0), (21, .aload_n 2, 22, 0, 0, 0), (22, .iconst 5, 23, 0, 0, 5), (23, .iaload, 24, 0, 0, 0), (24, .aload_n 0, 25, 0, 0, 0), (25, .getfield 69, 28, 1, 5, 0), (28, .aload_n 0, 29, 0, 0, 0), (29, .getfield 29, 32, 1, 6, 0)],
   [(32, .invokestatic 72, 35, 51, 3, 7), (35, .ifCond .eq 15, 38, 50, 0, 0), (38, .aload_n 0, 39, 0, 0, 0), (39, .aload_n 2, 40, 0, 0, 0), (40, .invokevirtual 76, 43, 13, 2, 0), (43, .ifCond .eq 7, 46, 50, 0, 0), (46, .iconst 1, 47, 0, 0, 1), (47, .goto 4, 50, 51, 0, 0)],
   [(50, .iconst 0, 51, 0, 0, 0), (51, .ireturn, 52, 0, 0, 0)]])
def mt_L_isAtCountedCell : mj_T := (⟨"ExplainDifference$Ledger", "isAtCountedCell", "([I)Z"⟩, prog_2_method_15_code, 2, some .boolean, 1, [],
  [[(0, .aload_n 0, 1, 0, 0, 0), (1, .aload_n 1, 2, 0, 0, 0), (2, .iconst 1, 3, 0, 0, 1), (3, .iaload, 4, 0, 0, 0), (4, .aload_n 1, 5, 0, 0, 0), (5, .iconst 3, 6, 0, 0, 3), (6, .iaload, 7, 0, 0, 0), (7, .invokestatic 44, 10, 52, 2, 7), (10, .invokevirtual 65, 13, 6, 2, 0), (13, .ifCond .ne 26, 16, 39, 0, 0)],
   [(16, .aload_n 1, 17, 0, 0, 0), (17, .iconst 0, 18, 0, 0, 0), (18, .iaload, 19, 0, 0, 0), (19, .iconst 2, 20, 0, 0, 2), (20, .if_icmp .ne 23, 23, 43, 0, 0), (23, .aload_n 0, 24, 0, 0, 0), (24, .aload_n 1, 25, 0, 0, 0), (25, .iconst 2, 26, 0, 0, 2), (26, .iaload, 27, 0, 0, 0), (27, .aload_n 1, 28, 0, 0, 0), (28, .iconst 3, 29, 0, 0, 3), (29, .iaload, 30, 0, 0, 0), (30, .invokestatic 44, 33, 52, 2, 7)],
   [(33, .invokevirtual 65, 36, 6, 2, 0), (36, .ifCond .eq 7, 39, 43, 0, 0), (39, .iconst 1, 40, 0, 0, 1), (40, .goto 4, 43, 44, 0, 0), (43, .iconst 0, 44, 0, 0, 0), (44, .ireturn, 45, 0, 0, 0)]])
def mt_L_candidates : mj_T := (⟨"ExplainDifference$Ledger", "candidates", "()I"⟩, prog_2_method_16_code, 3, some .int, 1, [],
  [[(0, .iconst 0, 1, 0, 0, 0), (1, .istore_n 1, 2, 0, 0, 0), (2, .iconst 0, 3, 0, 0, 0), (3, .istore_n 2, 4, 0, 0, 0), (4, .iload_n 2, 5, 0, 0, 0), (5, .aload_n 0, 6, 0, 0, 0), (6, .getfield 33, 9, 1, 3, 0), (9, .if_icmp .ge 20, 12, 29, 0, 0), (12, .aload_n 0, 13, 0, 0, 0), (13, .iload_n 2, 14, 0, 0, 0), (14, .invokevirtual 80, 17, 12, 2, 0)],
   [(17, .ifCond .eq 6, 20, 23, 0, 0), (20, .iinc 1 1, 23, 0, 0, 1), (23, .iinc 2 1, 26, 0, 0, 1), (26, .goto (-22), 29, 4, 0, 0), (29, .iload_n 1, 30, 0, 0, 0), (30, .ireturn, 31, 0, 0, 0)]])
def mt_L_actsWith : mj_T := (⟨"ExplainDifference$Ledger", "actsWith", "(II)I"⟩, prog_2_method_17_code, 5, some .int, 1, [],
  [[(0, .iconst 0, 1, 0, 0, 0), (1, .istore_n 3, 2, 0, 0, 0), (2, .iconst 0, 3, 0, 0, 0), (3, .istore 4, 5, 0, 0, 0), (5, .iload 4, 7, 0, 0, 0), (7, .aload_n 0, 8, 0, 0, 0), (8, .getfield 33, 11, 1, 3, 0), (11, .if_icmp .ge 25, 14, 36, 0, 0), (14, .aload_n 0, 15, 0, 0, 0), (15, .getfield 11, 18, 1, 0, 0)],
   [(18, .iload 4, 20, 0, 0, 0), (20, .aaload, 21, 0, 0, 0), (21, .iload_n 1, 22, 0, 0, 0), (22, .iaload, 23, 0, 0, 0), (23, .iload_n 2, 24, 0, 0, 0), (24, .if_icmp .ne 6, 27, 30, 0, 0), (27, .iinc 3 1, 30, 0, 0, 1), (30, .iinc 4 1, 33, 0, 0, 1)],
   [(33, .goto (-28), 36, 5, 0, 0), (36, .iload_n 3, 37, 0, 0, 0), (37, .ireturn, 38, 0, 0, 0)]])
def mt_L_actAt : mj_T := (⟨"ExplainDifference$Ledger", "actAt", "(II)I"⟩, prog_2_method_18_code, 5, some .int, 1, [],
  [[(0, .iconst 0, 1, 0, 0, 0), (1, .istore_n 3, 2, 0, 0, 0), (2, .iconst 0, 3, 0, 0, 0), (3, .istore 4, 5, 0, 0, 0), (5, .iload 4, 7, 0, 0, 0), (7, .aload_n 0, 8, 0, 0, 0), (8, .getfield 33, 11, 1, 3, 0), (11, .if_icmp .ge 34, 14, 45, 0, 0), (14, .aload_n 0, 15, 0, 0, 0), (15, .getfield 11, 18, 1, 0, 0)],
   [(18, .iload 4, 20, 0, 0, 0), (20, .aaload, 21, 0, 0, 0), (21, .iload_n 1, 22, 0, 0, 0), (22, .invokestatic 83, 25, 17, 2, 0), (25, .ifCond .eq 14, 28, 39, 0, 0), (28, .iload_n 3, 29, 0, 0, 0), (29, .iload_n 2, 30, 0, 0, 0), (30, .if_icmp .ne 6, 33, 36, 0, 0)],
   [(33, .iload 4, 35, 0, 0, 0), (35, .ireturn, 36, 0, 0, 0), (36, .iinc 3 1, 39, 0, 0, 1), (39, .iinc 4 1, 42, 0, 0, 1), (42, .goto (-37), 45, 5, 0, 0), (45, .iconst (-1), 46, 0, 0, (-1)), (46, .ireturn, 47, 0, 0, 0)]])
def mt_L_isAt : mj_T := (⟨"ExplainDifference$Ledger", "isAt", "([II)Z"⟩, prog_2_method_19_code, 2, some .boolean, 0, [],
  [[(0, .aload_n 0, 1, 0, 0, 0), (1, .iconst 1, 2, 0, 0, 1), (2, .iaload, 3, 0, 0, 0), (3, .aload_n 0, 4, 0, 0, 0), (4, .iconst 3, 5, 0, 0, 3), (5, .iaload, 6, 0, 0, 0), (6, .invokestatic 44, 9, 52, 2, 7), (9, .iload_n 1, 10, 0, 0, 0), (10, .if_icmp .eq 23, 13, 33, 0, 0), (13, .aload_n 0, 14, 0, 0, 0), (14, .iconst 0, 15, 0, 0, 0), (15, .iaload, 16, 0, 0, 0)],
   [(16, .iconst 2, 17, 0, 0, 2), (17, .if_icmp .ne 20, 20, 37, 0, 0), (20, .aload_n 0, 21, 0, 0, 0), (21, .iconst 2, 22, 0, 0, 2), (22, .iaload, 23, 0, 0, 0), (23, .aload_n 0, 24, 0, 0, 0), (24, .iconst 3, 25, 0, 0, 3), (25, .iaload, 26, 0, 0, 0), (26, .invokestatic 44, 29, 52, 2, 7), (29, .iload_n 1, 30, 0, 0, 0), (30, .if_icmp .ne 7, 33, 37, 0, 0)],
   [(33, .iconst 1, 34, 0, 0, 1), (34, .goto 4, 37, 38, 0, 0), (37, .iconst 0, 38, 0, 0, 0), (38, .ireturn, 39, 0, 0, 0)]])
def mt_K_seek : mj_T := (⟨"ExplainDifference$Seeker", "seek", "(LExplainDifference$Ledger;II)I"⟩, prog_3_method_2_code, 5, some .int, 2, [],
  [[(0, .aload_n 0, 1, 0, 0, 0), (1, .iload_n 3, 2, 0, 0, 0), (2, .invokevirtual 30, 5, 19, 2, 0), (5, .aload_n 1, 6, 0, 0, 0), (6, .getfield 34, 9, 1, 4, 0), (9, .ifCond .ne 5, 12, 14, 0, 0), (12, .iconst 0, 13, 0, 0, 0), (13, .ireturn, 14, 0, 0, 0), (14, .aload_n 0, 15, 0, 0, 0), (15, .aload_n 1, 16, 0, 0, 0)],
   [(16, .invokevirtual 40, 19, 20, 2, 0), (19, .iconst 1, 20, 0, 0, 1), (20, .istore 4, 22, 0, 0, 0), (22, .iload 4, 24, 0, 0, 0), (24, .iload_n 2, 25, 0, 0, 0), (25, .if_icmp .gt 40, 28, 65, 0, 0), (28, .aload_n 0, 29, 0, 0, 0), (29, .getfield 44, 32, 2, 12, 0)],
   [(32, .ifCond .eq 33, 35, 65, 0, 0), (35, .aload_n 0, 36, 0, 0, 0), (36, .getfield 48, 39, 2, 10, 0), (39, .ifCond .ne 26, 42, 65, 0, 0), (42, .aload_n 0, 43, 0, 0, 0), (43, .iload 4, 45, 0, 0, 0), (45, .putfield 51, 48, 2, 7, 0)],
   [(48, .aload_n 0, 49, 0, 0, 0), (49, .aload_n 0, 50, 0, 0, 0), (50, .aload_n 1, 51, 0, 0, 0), (51, .iconst 0, 52, 0, 0, 0), (52, .iconst 0, 53, 0, 0, 0), (53, .invokevirtual 54, 56, 21, 4, 0), (56, .putfield 44, 59, 2, 12, 1), (59, .iinc 4 1, 62, 0, 0, 1), (62, .goto (-40), 65, 22, 0, 0)],
   [(65, .aload_n 0, 66, 0, 0, 0), (66, .getfield 48, 69, 2, 10, 0), (69, .ifCond .ne 7, 72, 76, 0, 0), (72, .iconst (-1), 73, 0, 0, (-1)), (73, .goto 7, 76, 80, 0, 0), (76, .aload_n 0, 77, 0, 0, 0), (77, .getfield 58, 80, 2, 11, 0)],
   [(80, .ireturn, 81, 0, 0, 0)]])
def mt_K_begin : mj_T := (⟨"ExplainDifference$Seeker", "begin", "(I)V"⟩, prog_3_method_3_code, 2, none, 2, [],
  [[(0, .aload_n 0, 1, 0, 0, 0), (1, .iload_n 1, 2, 0, 0, 0), (2, .putfield 61, 5, 2, 8, 0), (5, .aload_n 0, 6, 0, 0, 0), (6, .iconst 0, 7, 0, 0, 0), (7, .putfield 64, 10, 2, 9, 0), (10, .aload_n 0, 11, 0, 0, 0), (11, .iconst 0, 12, 0, 0, 0), (12, .putfield 48, 15, 2, 10, 0), (15, .aload_n 0, 16, 0, 0, 0)],
   [(16, .iconst 0, 17, 0, 0, 0), (17, .putfield 58, 20, 2, 11, 0), (20, .aload_n 0, 21, 0, 0, 0), (21, .iconst 1, 22, 0, 0, 1), (22, .putfield 44, 25, 2, 12, 1), (25, .aload_n 0, 26, 0, 0, 0), (26, .getfield 27, 29, 2, 5, 0), (29, .iconst 0, 30, 0, 0, 0), (30, .invokestatic 67, 33, 106, 2, 0)],
   [(33, .return_, 34, 0, 0, 0)]])
def mt_K_gatherChoices : mj_T := (⟨"ExplainDifference$Seeker", "gatherChoices", "(LExplainDifference$Ledger;)V"⟩, prog_3_method_4_code, 3, none, 2, [],
  [[(0, .aload_n 0, 1, 0, 0, 0), (1, .iconst 0, 2, 0, 0, 0), (2, .putfield 73, 5, 2, 6, 0), (5, .iconst 0, 6, 0, 0, 0), (6, .istore_n 2, 7, 0, 0, 0), (7, .iload_n 2, 8, 0, 0, 0), (8, .aload_n 1, 9, 0, 0, 0), (9, .getfield 76, 12, 1, 3, 0), (12, .if_icmp .ge 37, 15, 49, 0, 0), (15, .aload_n 1, 16, 0, 0, 0)],
   [(16, .iload_n 2, 17, 0, 0, 0), (17, .invokevirtual 79, 20, 12, 2, 0), (20, .ifCond .eq 23, 23, 43, 0, 0), (23, .aload_n 0, 24, 0, 0, 0), (24, .getfield 9, 27, 2, 0, 0), (27, .aload_n 0, 28, 0, 0, 0), (28, .getfield 73, 31, 2, 6, 0), (31, .iload_n 2, 32, 0, 0, 0)],
   [(32, .iastore, 33, 0, 0, 0), (33, .aload_n 0, 34, 0, 0, 0), (34, .dup, 35, 0, 0, 0), (35, .getfield 73, 38, 2, 6, 0), (38, .iconst 1, 39, 0, 0, 1), (39, .iadd, 40, 0, 0, 0), (40, .putfield 73, 43, 2, 6, 0), (43, .iinc 2 1, 46, 0, 0, 1), (46, .goto (-39), 49, 7, 0, 0)],
   [(49, .return_, 50, 0, 0, 0)]])
def mt_K_extend : mj_T := (⟨"ExplainDifference$Seeker", "extend", "(LExplainDifference$Ledger;II)Z"⟩, prog_3_method_5_code, 5, some .boolean, 2, [],
  [[(0, .iload_n 2, 1, 0, 0, 0), (1, .aload_n 0, 2, 0, 0, 0), (2, .getfield 51, 5, 2, 7, 0), (5, .if_icmp .lt 16, 8, 21, 0, 0), (8, .aload_n 1, 9, 0, 0, 0), (9, .getfield 34, 12, 1, 4, 0), (12, .ifCond .ne 7, 15, 19, 0, 0), (15, .aload_n 0, 16, 0, 0, 0)],
   [(16, .invokevirtual 83, 19, 23, 1, 0), (19, .iconst 1, 20, 0, 0, 1), (20, .ireturn, 21, 0, 0, 0), (21, .iload_n 3, 22, 0, 0, 0), (22, .istore 4, 24, 0, 0, 0), (24, .iload 4, 26, 0, 0, 0), (26, .aload_n 0, 27, 0, 0, 0), (27, .getfield 73, 30, 2, 6, 0), (30, .if_icmp .ge 35, 33, 65, 0, 0)],
   [(33, .aload_n 0, 34, 0, 0, 0), (34, .aload_n 1, 35, 0, 0, 0), (35, .iload_n 2, 36, 0, 0, 0), (36, .iload 4, 38, 0, 0, 0), (38, .iconst 0, 39, 0, 0, 0), (39, .invokevirtual 86, 42, 22, 5, 0), (42, .ifCond .eq 15, 45, 57, 0, 0), (45, .aload_n 0, 46, 0, 0, 0), (46, .aload_n 1, 47, 0, 0, 0), (47, .iload_n 2, 48, 0, 0, 0)],
   [(48, .iload 4, 50, 0, 0, 0), (50, .iconst 1, 51, 0, 0, 1), (51, .invokevirtual 86, 54, 22, 5, 0), (54, .ifCond .ne 5, 57, 59, 0, 0), (57, .iconst 0, 58, 0, 0, 0), (58, .ireturn, 59, 0, 0, 0), (59, .iinc 4 1, 62, 0, 0, 1), (62, .goto (-38), 65, 24, 0, 0)],
   [(65, .iconst 1, 66, 0, 0, 1), (66, .ireturn, 67, 0, 0, 0)]])
def mt_K_attempt : mj_T := (⟨"ExplainDifference$Seeker", "attempt", "(LExplainDifference$Ledger;III)Z"⟩, prog_3_method_6_code, 8, some .boolean, 2, [],
  [[(0, .aload_n 0, 1, 0, 0, 0), (1, .getfield 64, 4, 2, 9, 0), (4, .aload_n 0, 5, 0, 0, 0), (5, .getfield 61, 8, 2, 8, 0), (8, .if_icmp .lt 5, 11, 13, 0, 0), (11, .iconst 0, 12, 0, 0, 0), (12, .ireturn, 13, 0, 0, 0), (13, .aload_n 0, 14, 0, 0, 0), (14, .dup, 15, 0, 0, 0), (15, .getfield 64, 18, 2, 9, 0)],
   [(18, .iconst 1, 19, 0, 0, 1), (19, .iadd, 20, 0, 0, 0), (20, .putfield 64, 23, 2, 9, 0), (23, .aload_n 0, 24, 0, 0, 0), (24, .getfield 9, 27, 2, 0, 0), (27, .iload_n 3, 28, 0, 0, 0), (28, .iaload, 29, 0, 0, 0), (29, .istore 5, 31, 0, 0, 0), (31, .aload_n 0, 32, 0, 0, 0)],
   [(32, .getfield 15, 35, 2, 1, 0), (35, .iload_n 2, 36, 0, 0, 0), (36, .iload 5, 38, 0, 0, 0), (38, .iastore, 39, 0, 0, 0), (39, .aload_n 0, 40, 0, 0, 0), (40, .getfield 18, 43, 2, 2, 0), (43, .iload_n 2, 44, 0, 0, 0), (44, .iload 4, 46, 0, 0, 0), (46, .iastore, 47, 0, 0, 0), (47, .iload 4, 49, 0, 0, 0)],
   [(49, .ifCond .ne 7, 52, 56, 0, 0), (52, .iconst (-1), 53, 0, 0, (-1)), (53, .goto 4, 56, 57, 0, 0), (56, .iconst 1, 57, 0, 0, 1), (57, .istore 6, 59, 0, 0, 0), (59, .aload_n 1, 60, 0, 0, 0), (60, .iload 5, 62, 0, 0, 0), (62, .iload 6, 64, 0, 0, 0)],
   [(64, .invokevirtual 90, 67, 3, 3, 0), (67, .aload_n 0, 68, 0, 0, 0), (68, .aload_n 1, 69, 0, 0, 0), (69, .iload_n 2, 70, 0, 0, 0), (70, .iconst 1, 71, 0, 0, 1), (71, .iadd, 72, 0, 0, 0), (72, .iload_n 3, 73, 0, 0, 0), (73, .iconst 1, 74, 0, 0, 1), (74, .iadd, 75, 0, 0, 0), (75, .invokevirtual 54, 78, 21, 4, 0), (78, .istore 7, 80, 0, 0, 0)],
   [(80, .aload_n 1, 81, 0, 0, 0), (81, .iload 5, 83, 0, 0, 0), (83, .iload 6, 85, 0, 0, 0), (85, .ineg, 86, 0, 0, 0), (86, .invokevirtual 90, 89, 3, 3, 0), (89, .iload 7, 91, 0, 0, 0), (91, .ireturn, 92, 0, 0, 0)]])
def mt_K_note : mj_T := (⟨"ExplainDifference$Seeker", "note", "()V"⟩, prog_3_method_7_code, 2, none, 2, [],
  [[(0, .aload_n 0, 1, 0, 0, 0), (1, .getfield 48, 4, 2, 10, 0), (4, .ifCond .ne 45, 7, 49, 0, 0), (7, .aload_n 0, 8, 0, 0, 0), (8, .getfield 15, 11, 2, 1, 0), (11, .iconst 0, 12, 0, 0, 0), (12, .aload_n 0, 13, 0, 0, 0), (13, .getfield 21, 16, 2, 3, 0)],
   [(16, .iconst 0, 17, 0, 0, 0), (17, .aload_n 0, 18, 0, 0, 0), (18, .getfield 51, 21, 2, 7, 0), (21, .invokestatic 94, 24, 1001, 0, 0), (24, .aload_n 0, 25, 0, 0, 0), (25, .getfield 18, 28, 2, 2, 0), (28, .iconst 0, 29, 0, 0, 0), (29, .aload_n 0, 30, 0, 0, 0), (30, .getfield 24, 33, 2, 4, 0)],
   [(33, .iconst 0, 34, 0, 0, 0), (34, .aload_n 0, 35, 0, 0, 0), (35, .getfield 51, 38, 2, 7, 0), (38, .invokestatic 94, 41, 1001, 0, 0), (41, .aload_n 0, 42, 0, 0, 0), (42, .aload_n 0, 43, 0, 0, 0), (43, .getfield 51, 46, 2, 7, 0), (46, .putfield 58, 49, 2, 11, 0)],
   [(49, .aload_n 0, 50, 0, 0, 0), (50, .dup, 51, 0, 0, 0), (51, .getfield 48, 54, 2, 10, 0), (54, .iconst 1, 55, 0, 0, 1), (55, .iadd, 56, 0, 0, 0), (56, .putfield 48, 59, 2, 10, 0), (59, .iconst 0, 60, 0, 0, 0), (60, .istore_n 1, 61, 0, 0, 0), (61, .iload_n 1, 62, 0, 0, 0), (62, .aload_n 0, 63, 0, 0, 0), (63, .getfield 51, 66, 2, 7, 0)],
   [(66, .if_icmp .ge 24, 69, 90, 0, 0), (69, .aload_n 0, 70, 0, 0, 0), (70, .getfield 27, 73, 2, 5, 0), (73, .aload_n 0, 74, 0, 0, 0), (74, .getfield 15, 77, 2, 1, 0), (77, .iload_n 1, 78, 0, 0, 0), (78, .iaload, 79, 0, 0, 0), (79, .dup2, 80, 0, 0, 0)],
   [(80, .iaload, 81, 0, 0, 0), (81, .iconst 1, 82, 0, 0, 1), (82, .iadd, 83, 0, 0, 0), (83, .iastore, 84, 0, 0, 0), (84, .iinc 1 1, 87, 0, 0, 1), (87, .goto (-26), 90, 61, 0, 0), (90, .return_, 91, 0, 0, 0)]])
def mt_K_isOfPlainActs : mj_T := (⟨"ExplainDifference$Seeker", "isOfPlainActs", "(LExplainDifference$Ledger;)Z"⟩, prog_3_method_8_code, 3, some .boolean, 2, [],
  [[(0, .iconst 0, 1, 0, 0, 0), (1, .istore_n 2, 2, 0, 0, 0), (2, .iload_n 2, 3, 0, 0, 0), (3, .aload_n 0, 4, 0, 0, 0), (4, .getfield 58, 7, 2, 11, 0), (7, .if_icmp .ge 28, 10, 35, 0, 0), (10, .aload_n 1, 11, 0, 0, 0), (11, .getfield 100, 14, 1, 0, 0), (14, .aload_n 0, 15, 0, 0, 0), (15, .getfield 21, 18, 2, 3, 0)],
   [(18, .iload_n 2, 19, 0, 0, 0), (19, .iaload, 20, 0, 0, 0), (20, .aaload, 21, 0, 0, 0), (21, .bipush 6, 23, 0, 0, 6), (23, .iaload, 24, 0, 0, 0), (24, .ifCond .eq 5, 27, 29, 0, 0), (27, .iconst 0, 28, 0, 0, 0), (28, .ireturn, 29, 0, 0, 0), (29, .iinc 2 1, 32, 0, 0, 1)],
   [(32, .goto (-30), 35, 2, 0, 0), (35, .iconst 1, 36, 0, 0, 1), (36, .ireturn, 37, 0, 0, 0)]])
def mt_K_settle : mj_T := (⟨"ExplainDifference$Seeker", "settle", "(LExplainDifference$Ledger;)V"⟩, prog_3_method_9_code, 3, none, 2, [],
  [[(0, .iconst 0, 1, 0, 0, 0), (1, .istore_n 2, 2, 0, 0, 0), (2, .iload_n 2, 3, 0, 0, 0), (3, .aload_n 0, 4, 0, 0, 0), (4, .getfield 58, 7, 2, 11, 0), (7, .if_icmp .ge 33, 10, 40, 0, 0), (10, .aload_n 1, 11, 0, 0, 0), (11, .aload_n 0, 12, 0, 0, 0), (12, .getfield 21, 15, 2, 3, 0), (15, .iload_n 2, 16, 0, 0, 0)],
   [(16, .iaload, 17, 0, 0, 0), (17, .aload_n 0, 18, 0, 0, 0), (18, .getfield 24, 21, 2, 4, 0), (21, .iload_n 2, 22, 0, 0, 0), (22, .iaload, 23, 0, 0, 0), (23, .ifCond .ne 7, 26, 30, 0, 0), (26, .iconst 1, 27, 0, 0, 1), (27, .goto 4, 30, 31, 0, 0), (30, .iconst 2, 31, 0, 0, 2), (31, .invokevirtual 104, 34, 2, 3, 0)],
   [(34, .iinc 2 1, 37, 0, 0, 1), (37, .goto (-35), 40, 2, 0, 0), (40, .aload_n 0, 41, 0, 0, 0), (41, .iconst 0, 42, 0, 0, 0), (42, .putfield 58, 45, 2, 11, 0), (45, .return_, 46, 0, 0, 0)]])
def mt_E_put : mj_T := (⟨"ExplainDifference", "put", "(IIII)I"⟩, prog_1_method_2_code, 5, some .int, 0, [],
  [[(0, .aload_n 0, 1, 0, 0, 0), (1, .iload_n 1, 2, 0, 0, 0), (2, .iload_n 2, 3, 0, 0, 0), (3, .iload_n 3, 4, 0, 0, 0), (4, .iload 4, 6, 0, 0, 0), (6, .invokevirtual 23, 9, 46, 5, 0), (9, .aload_n 0, 10, 0, 0, 0), (10, .invokevirtual 27, 13, 47, 1, 0), (13, .aload_n 0, 14, 0, 0, 0), (14, .getfield 10, 17, 0, 0, 0)],
   [(17, .iconst 0, 18, 0, 0, 0), (18, .iload_n 1, 19, 0, 0, 0), (19, .iconst (-1), 20, 0, 0, (-1)), (20, .iload_n 2, 21, 0, 0, 0), (21, .iload_n 3, 22, 0, 0, 0), (22, .iload 4, 24, 0, 0, 0), (24, .invokevirtual 30, 27, 0, 7, 0), (27, .ireturn, 28, 0, 0, 0)]])
def mt_E_take : mj_T := (⟨"ExplainDifference", "take", "(IIII)I"⟩, prog_1_method_3_code, 5, some .int, 0, [],
  [[(0, .aload_n 0, 1, 0, 0, 0), (1, .iload_n 1, 2, 0, 0, 0), (2, .iload_n 2, 3, 0, 0, 0), (3, .iload_n 3, 4, 0, 0, 0), (4, .iload 4, 6, 0, 0, 0), (6, .invokevirtual 23, 9, 46, 5, 0), (9, .aload_n 0, 10, 0, 0, 0), (10, .invokevirtual 27, 13, 47, 1, 0), (13, .aload_n 0, 14, 0, 0, 0), (14, .getfield 10, 17, 0, 0, 0)],
   [(17, .iconst 1, 18, 0, 0, 1), (18, .iload_n 1, 19, 0, 0, 0), (19, .iconst (-1), 20, 0, 0, (-1)), (20, .iload_n 2, 21, 0, 0, 0), (21, .iload_n 3, 22, 0, 0, 0), (22, .iload 4, 24, 0, 0, 0), (24, .invokevirtual 30, 27, 0, 7, 0), (27, .ireturn, 28, 0, 0, 0)]])
def mt_E_move : mj_T := (⟨"ExplainDifference", "move", "(IIIII)I"⟩, prog_1_method_4_code, 6, some .int, 0, [],
  [[(0, .aload_n 0, 1, 0, 0, 0), (1, .iload_n 1, 2, 0, 0, 0), (2, .iload_n 3, 3, 0, 0, 0), (3, .iload 4, 5, 0, 0, 0), (5, .iload 5, 7, 0, 0, 0), (7, .invokevirtual 23, 10, 46, 5, 0), (10, .iload_n 2, 11, 0, 0, 0), (11, .iconst 0, 12, 0, 0, 0), (12, .bipush 9, 14, 0, 0, 9), (14, .invokestatic 34, 17, 51, 3, 0)],
   [(17, .ifCond .eq 12, 20, 29, 0, 0), (20, .iload_n 2, 21, 0, 0, 0), (21, .iload_n 1, 22, 0, 0, 0), (22, .if_icmp .eq 7, 25, 29, 0, 0), (25, .iconst 1, 26, 0, 0, 1), (26, .goto 4, 29, 30, 0, 0), (29, .iconst 0, 30, 0, 0, 0), (30, .invokestatic 38, 33, 50, 1, 0)],
   [(33, .aload_n 0, 34, 0, 0, 0), (34, .invokevirtual 27, 37, 47, 1, 0), (37, .aload_n 0, 38, 0, 0, 0), (38, .getfield 10, 41, 0, 0, 0), (41, .iconst 2, 42, 0, 0, 2), (42, .iload_n 1, 43, 0, 0, 0), (43, .iload_n 2, 44, 0, 0, 0), (44, .iload_n 3, 45, 0, 0, 0), (45, .iload 4, 47, 0, 0, 0), (47, .iload 5, 49, 0, 0, 0)],
   [(49, .invokevirtual 30, 52, 0, 7, 0), (52, .ireturn, 53, 0, 0, 0)]])
def mt_E_closed : mj_T := (⟨"ExplainDifference", "closed", "(IZ)I"⟩, prog_1_method_5_code, 3, some .int, 0, [],
  [[(0, .iload_n 1, 1, 0, 0, 0), (1, .aload_n 0, 2, 0, 0, 0), (2, .getfield 10, 5, 0, 0, 0), (5, .getfield 42, 8, 1, 3, 0), (8, .invokestatic 46, 11, 49, 2, 0), (11, .aload_n 0, 12, 0, 0, 0), (12, .getfield 10, 15, 0, 0, 0), (15, .getfield 50, 18, 1, 0, 0)],
   [(18, .iload_n 1, 19, 0, 0, 0), (19, .aaload, 20, 0, 0, 0), (20, .bipush 7, 22, 0, 0, 7), (22, .iload_n 2, 23, 0, 0, 0), (23, .ifCond .eq 7, 26, 30, 0, 0), (26, .iconst 1, 27, 0, 0, 1), (27, .goto 4, 30, 31, 0, 0), (30, .iconst 0, 31, 0, 0, 0), (31, .iastore, 32, 0, 0, 0)],
   [(32, .aload_n 0, 33, 0, 0, 0), (33, .getfield 10, 36, 0, 0, 0), (36, .bipush 7, 38, 0, 0, 7), (38, .iconst 1, 39, 0, 0, 1), (39, .invokevirtual 54, 42, 15, 3, 0), (42, .ireturn, 43, 0, 0, 0)]])
def mt_E_window : mj_T := (⟨"ExplainDifference", "window", "(II)I"⟩, prog_1_method_6_code, 3, some .int, 0, [],
  [[(0, .iload_n 1, 1, 0, 0, 0), (1, .iconst 0, 2, 0, 0, 0), (2, .sipush 10000, 5, 0, 0, 10000), (5, .invokestatic 34, 8, 51, 3, 0), (8, .ifCond .eq 18, 11, 26, 0, 0), (11, .iload_n 2, 12, 0, 0, 0), (12, .iload_n 1, 13, 0, 0, 0), (13, .sipush 10000, 16, 0, 0, 10000)],
   [(16, .invokestatic 34, 19, 51, 3, 0), (19, .ifCond .eq 7, 22, 26, 0, 0), (22, .iconst 1, 23, 0, 0, 1), (23, .goto 4, 26, 27, 0, 0), (26, .iconst 0, 27, 0, 0, 0), (27, .invokestatic 38, 30, 50, 1, 0), (30, .aload_n 0, 31, 0, 0, 0), (31, .getfield 10, 34, 0, 0, 0)],
   [(34, .iload_n 1, 35, 0, 0, 0), (35, .putfield 58, 38, 1, 5, 0), (38, .aload_n 0, 39, 0, 0, 0), (39, .getfield 10, 42, 0, 0, 0), (42, .iload_n 2, 43, 0, 0, 0), (43, .putfield 61, 46, 1, 6, 0), (46, .aload_n 0, 47, 0, 0, 0), (47, .getfield 10, 50, 0, 0, 0)],
   [(50, .invokevirtual 64, 53, 14, 1, 0), (53, .ireturn, 54, 0, 0, 0)]])
def mt_E_counted : mj_T := (⟨"ExplainDifference", "counted", "(III)I"⟩, prog_1_method_7_code, 4, some .int, 0, [],
  [[(0, .iload_n 1, 1, 0, 0, 0), (1, .iload_n 2, 2, 0, 0, 0), (2, .invokestatic 68, 5, 48, 2, 0), (5, .iload_n 3, 6, 0, 0, 0), (6, .iconst (-1), 7, 0, 0, (-1)), (7, .ldc 71, 9, 0, 0, 100000), (9, .invokestatic 34, 12, 51, 3, 0), (12, .invokestatic 38, 15, 50, 1, 0), (15, .aload_n 0, 16, 0, 0, 0)],
   [(16, .getfield 10, 19, 0, 0, 0), (19, .iload_n 1, 20, 0, 0, 0), (20, .iload_n 2, 21, 0, 0, 0), (21, .invokestatic 72, 24, 52, 2, 0), (24, .iload_n 3, 25, 0, 0, 0), (25, .invokevirtual 75, 28, 5, 3, 0), (28, .aload_n 0, 29, 0, 0, 0), (29, .getfield 10, 32, 0, 0, 0)],
   [(32, .getfield 78, 35, 1, 4, 0), (35, .ireturn, 36, 0, 0, 0)]])
def mt_E_expected : mj_T := (⟨"ExplainDifference", "expected", "(II)I"⟩, prog_1_method_8_code, 3, some .int, 0, [],
  [[(0, .iload_n 1, 1, 0, 0, 0), (1, .iload_n 2, 2, 0, 0, 0), (2, .invokestatic 68, 5, 48, 2, 0), (5, .aload_n 0, 6, 0, 0, 0), (6, .getfield 10, 9, 0, 0, 0), (9, .getfield 81, 12, 1, 1, 0), (12, .iload_n 1, 13, 0, 0, 0), (13, .iload_n 2, 14, 0, 0, 0), (14, .invokestatic 72, 17, 52, 2, 0)],
   [(17, .iaload, 18, 0, 0, 0), (18, .ireturn, 19, 0, 0, 0)]])
def mt_E_differ : mj_T := (⟨"ExplainDifference", "differ", "(II)I"⟩, prog_1_method_9_code, 4, some .int, 0, [],
  [[(0, .iload_n 1, 1, 0, 0, 0), (1, .aload_n 0, 2, 0, 0, 0), (2, .getfield 10, 5, 0, 0, 0), (5, .getfield 78, 8, 1, 4, 0), (8, .invokestatic 46, 11, 49, 2, 0), (11, .iload_n 2, 12, 0, 0, 0), (12, .iconst 0, 13, 0, 0, 0), (13, .iconst 2, 14, 0, 0, 2), (14, .invokestatic 34, 17, 51, 3, 0)],
   [(17, .invokestatic 38, 20, 50, 1, 0), (20, .aload_n 0, 21, 0, 0, 0), (21, .getfield 10, 24, 0, 0, 0), (24, .iload_n 1, 25, 0, 0, 0), (25, .invokevirtual 85, 28, 9, 2, 0), (28, .istore_n 3, 29, 0, 0, 0), (29, .iload_n 2, 30, 0, 0, 0), (30, .ifCond .ne 8, 33, 38, 0, 0)],
   [(33, .iload_n 3, 34, 0, 0, 0), (34, .bipush 6, 36, 0, 0, 6), (36, .idiv, 37, 0, 0, 0), (37, .ireturn, 38, 0, 0, 0), (38, .iload_n 2, 39, 0, 0, 0), (39, .iconst 1, 40, 0, 0, 1), (40, .if_icmp .ne 10, 43, 50, 0, 0), (43, .iload_n 3, 44, 0, 0, 0), (44, .bipush 6, 46, 0, 0, 6), (46, .irem, 47, 0, 0, 0), (47, .goto 11, 50, 58, 0, 0)],
   [(50, .aload_n 0, 51, 0, 0, 0), (51, .getfield 10, 54, 0, 0, 0), (54, .iload_n 3, 55, 0, 0, 0), (55, .invokevirtual 89, 58, 8, 2, 0), (58, .ireturn, 59, 0, 0, 0)]])
def mt_E_search : mj_T := (⟨"ExplainDifference", "search", "(II)I"⟩, prog_1_method_10_code, 3, some .int, 0, [],
  [[(0, .iload_n 1, 1, 0, 0, 0), (1, .iconst 1, 2, 0, 0, 1), (2, .iconst 4, 3, 0, 0, 4), (3, .invokestatic 34, 6, 51, 3, 0), (6, .ifCond .eq 18, 9, 24, 0, 0), (9, .iload_n 2, 10, 0, 0, 0), (10, .iconst 0, 11, 0, 0, 0), (11, .sipush 20000, 14, 0, 0, 20000), (14, .invokestatic 34, 17, 51, 3, 0)],
   [(17, .ifCond .eq 7, 20, 24, 0, 0), (20, .iconst 1, 21, 0, 0, 1), (21, .goto 4, 24, 25, 0, 0), (24, .iconst 0, 25, 0, 0, 0), (25, .invokestatic 38, 28, 50, 1, 0), (28, .aload_n 0, 29, 0, 0, 0), (29, .getfield 19, 32, 0, 1, 0)],
   [(32, .aload_n 0, 33, 0, 0, 0), (33, .getfield 10, 36, 0, 0, 0), (36, .iload_n 1, 37, 0, 0, 0), (37, .iload_n 2, 38, 0, 0, 0), (38, .invokevirtual 92, 41, 18, 4, 0), (41, .ireturn, 42, 0, 0, 0)]])
def mt_E_exact : mj_T := (⟨"ExplainDifference", "exact", "()Z"⟩, prog_1_method_11_code, 1, some .boolean, 0, [],
  [[(0, .aload_n 0, 1, 0, 0, 0), (1, .getfield 19, 4, 0, 1, 0), (4, .getfield 96, 7, 2, 12, 0), (7, .ireturn, 8, 0, 0, 0)]])
def mt_E_steps : mj_T := (⟨"ExplainDifference", "steps", "()I"⟩, prog_1_method_12_code, 1, some .int, 0, [],
  [[(0, .aload_n 0, 1, 0, 0, 0), (1, .getfield 19, 4, 0, 1, 0), (4, .getfield 100, 7, 2, 9, 0), (7, .ireturn, 8, 0, 0, 0)]])
def mt_E_ties : mj_T := (⟨"ExplainDifference", "ties", "()I"⟩, prog_1_method_13_code, 1, some .int, 0, [],
  [[(0, .aload_n 0, 1, 0, 0, 0), (1, .getfield 19, 4, 0, 1, 0), (4, .getfield 103, 7, 2, 10, 0), (7, .ireturn, 8, 0, 0, 0)]])
def mt_E_often : mj_T := (⟨"ExplainDifference", "often", "(I)I"⟩, prog_1_method_14_code, 2, some .int, 0, [],
  [[(0, .iload_n 1, 1, 0, 0, 0), (1, .aload_n 0, 2, 0, 0, 0), (2, .getfield 10, 5, 0, 0, 0), (5, .getfield 42, 8, 1, 3, 0), (8, .invokestatic 46, 11, 49, 2, 0), (11, .aload_n 0, 12, 0, 0, 0), (12, .getfield 19, 15, 0, 1, 0), (15, .getfield 106, 18, 2, 5, 0)],
   [(18, .iload_n 1, 19, 0, 0, 0), (19, .iaload, 20, 0, 0, 0), (20, .ireturn, 21, 0, 0, 0)]])
def mt_E_found : mj_T := (⟨"ExplainDifference", "found", "(II)I"⟩, prog_1_method_15_code, 3, some .int, 0, [],
  [[(0, .iload_n 1, 1, 0, 0, 0), (1, .aload_n 0, 2, 0, 0, 0), (2, .getfield 19, 5, 0, 1, 0), (5, .getfield 109, 8, 2, 11, 0), (8, .invokestatic 46, 11, 49, 2, 0), (11, .iload_n 2, 12, 0, 0, 0), (12, .iconst 0, 13, 0, 0, 0), (13, .iconst 1, 14, 0, 0, 1), (14, .invokestatic 34, 17, 51, 3, 0)],
   [(17, .invokestatic 38, 20, 50, 1, 0), (20, .iload_n 2, 21, 0, 0, 0), (21, .ifCond .ne 15, 24, 36, 0, 0), (24, .aload_n 0, 25, 0, 0, 0), (25, .getfield 19, 28, 0, 1, 0), (28, .getfield 112, 31, 2, 3, 0), (31, .iload_n 1, 32, 0, 0, 0)],
   [(32, .iaload, 33, 0, 0, 0), (33, .goto 12, 36, 45, 0, 0), (36, .aload_n 0, 37, 0, 0, 0), (37, .getfield 19, 40, 0, 1, 0), (40, .getfield 115, 43, 2, 4, 0), (43, .iload_n 1, 44, 0, 0, 0), (44, .iaload, 45, 0, 0, 0), (45, .ireturn, 46, 0, 0, 0)]])
def mt_E_accept : mj_T := (⟨"ExplainDifference", "accept", "()I"⟩, prog_1_method_16_code, 1, some .int, 0, [],
  [[(0, .aload_n 0, 1, 0, 0, 0), (1, .getfield 19, 4, 0, 1, 0), (4, .getfield 109, 7, 2, 11, 0), (7, .ifCond .eq 17, 10, 24, 0, 0), (10, .aload_n 0, 11, 0, 0, 0), (11, .getfield 19, 14, 0, 1, 0), (14, .aload_n 0, 15, 0, 0, 0), (15, .getfield 10, 18, 0, 0, 0)],
   [(18, .invokevirtual 118, 21, 24, 2, 0), (21, .ifCond .ne 13, 24, 34, 0, 0), (24, .new 122, 27, 3, 124, 126)],
   [(34, .aload_n 0, 35, 0, 0, 0), (35, .getfield 19, 38, 0, 1, 0), (38, .aload_n 0, 39, 0, 0, 0), (39, .getfield 10, 42, 0, 0, 0), (42, .invokevirtual 129, 45, 25, 2, 0), (45, .aload_n 0, 46, 0, 0, 0), (46, .getfield 10, 49, 0, 0, 0)],
   [(49, .getfield 78, 52, 1, 4, 0), (52, .ireturn, 53, 0, 0, 0)]])
def mt_E_back : mj_T := (⟨"ExplainDifference", "back", "(I)I"⟩, prog_1_method_17_code, 2, some .int, 0, [],
  [[(0, .iload_n 1, 1, 0, 0, 0), (1, .aload_n 0, 2, 0, 0, 0), (2, .getfield 10, 5, 0, 0, 0), (5, .getfield 42, 8, 1, 3, 0), (8, .invokestatic 46, 11, 49, 2, 0), (11, .aload_n 0, 12, 0, 0, 0), (12, .getfield 10, 15, 0, 0, 0), (15, .getfield 50, 18, 1, 0, 0)],
   [(18, .iload_n 1, 19, 0, 0, 0), (19, .aaload, 20, 0, 0, 0), (20, .bipush 6, 22, 0, 0, 6), (22, .iaload, 23, 0, 0, 0), (23, .ifCond .ne 13, 26, 36, 0, 0), (26, .new 122, 29, 3, 133, 126)],
   [(36, .aload_n 0, 37, 0, 0, 0), (37, .getfield 10, 40, 0, 0, 0), (40, .iload_n 1, 41, 0, 0, 0), (41, .iconst 0, 42, 0, 0, 0), (42, .invokevirtual 135, 45, 2, 3, 0), (45, .aload_n 0, 46, 0, 0, 0), (46, .getfield 10, 49, 0, 0, 0)],
   [(49, .getfield 78, 52, 1, 4, 0), (52, .ireturn, 53, 0, 0, 0)]])
def mt_E_share : mj_T := (⟨"ExplainDifference", "share", "(II)I"⟩, prog_1_method_18_code, 3, some .int, 0, [],
  [[(0, .iload_n 1, 1, 0, 0, 0), (1, .iconst 0, 2, 0, 0, 0), (2, .ldc 138, 4, 0, 0, 1000000), (4, .invokestatic 34, 7, 51, 3, 0), (7, .ifCond .eq 11, 10, 18, 0, 0), (10, .iload_n 2, 11, 0, 0, 0), (11, .ifCond .lt 7, 14, 18, 0, 0), (14, .iconst 1, 15, 0, 0, 1), (15, .goto 4, 18, 19, 0, 0)],
   [(18, .iconst 0, 19, 0, 0, 0), (19, .invokestatic 38, 22, 50, 1, 0), (22, .iload_n 2, 23, 0, 0, 0), (23, .ifCond .ne 13, 26, 36, 0, 0), (26, .new 139, 29, 4, 141, 143)],
   [(36, .iload_n 1, 37, 0, 0, 0), (37, .bipush 100, 39, 0, 0, 100), (39, .imul, 40, 0, 0, 0), (40, .iload_n 2, 41, 0, 0, 0), (41, .idiv, 42, 0, 0, 0), (42, .ireturn, 43, 0, 0, 0)]])
def mt_E_told : mj_T := (⟨"ExplainDifference", "told", "(II)I"⟩, prog_1_method_19_code, 3, some .int, 0, [],
  [[(0, .iload_n 1, 1, 0, 0, 0), (1, .aload_n 0, 2, 0, 0, 0), (2, .getfield 10, 5, 0, 0, 0), (5, .getfield 42, 8, 1, 3, 0), (8, .invokestatic 46, 11, 49, 2, 0), (11, .iload_n 2, 12, 0, 0, 0), (12, .iconst 0, 13, 0, 0, 0), (13, .bipush 8, 15, 0, 0, 8), (15, .invokestatic 34, 18, 51, 3, 0)],
   [(18, .invokestatic 38, 21, 50, 1, 0), (21, .iload_n 2, 22, 0, 0, 0), (22, .bipush 8, 24, 0, 0, 8), (24, .if_icmp .ne 20, 27, 44, 0, 0), (27, .aload_n 0, 28, 0, 0, 0), (28, .getfield 10, 31, 0, 0, 0), (31, .iload_n 1, 32, 0, 0, 0)],
   [(32, .invokevirtual 144, 35, 12, 2, 0), (35, .ifCond .eq 7, 38, 42, 0, 0), (38, .iconst 1, 39, 0, 0, 1), (39, .goto 4, 42, 43, 0, 0), (42, .iconst 0, 43, 0, 0, 0), (43, .ireturn, 44, 0, 0, 0), (44, .aload_n 0, 45, 0, 0, 0), (45, .getfield 10, 48, 0, 0, 0)],
   [(48, .getfield 50, 51, 1, 0, 0), (51, .iload_n 1, 52, 0, 0, 0), (52, .aaload, 53, 0, 0, 0), (53, .iload_n 2, 54, 0, 0, 0), (54, .iaload, 55, 0, 0, 0), (55, .ireturn, 56, 0, 0, 0)]])
def mt_E_of : mj_T := (⟨"ExplainDifference", "of", "(III)I"⟩, prog_1_method_20_code, 4, some .int, 0, [],
  [[(0, .iload_n 1, 1, 0, 0, 0), (1, .iload_n 2, 2, 0, 0, 0), (2, .invokestatic 68, 5, 48, 2, 0), (5, .iload_n 3, 6, 0, 0, 0), (6, .ifCond .lt 7, 9, 13, 0, 0), (9, .iconst 1, 10, 0, 0, 1), (10, .goto 4, 13, 14, 0, 0), (13, .iconst 0, 14, 0, 0, 0), (14, .invokestatic 38, 17, 50, 1, 0)],
   [(17, .aload_n 0, 18, 0, 0, 0), (18, .getfield 10, 21, 0, 0, 0), (21, .iload_n 1, 22, 0, 0, 0), (22, .iload_n 2, 23, 0, 0, 0), (23, .invokestatic 72, 26, 52, 2, 0), (26, .iload_n 3, 27, 0, 0, 0), (27, .invokevirtual 148, 30, 16, 3, 0), (30, .ireturn, 31, 0, 0, 0)]])
def mt_E_count : mj_T := (⟨"ExplainDifference", "count", "(I)I"⟩, prog_1_method_21_code, 2, some .int, 0, [],
  [[(0, .iload_n 1, 1, 0, 0, 0), (1, .tableswitch 117 0 7 #[47, 55, 63, 71, 79, 90, 101, 109], 48, 0, 0, 0)],
   [],
   [],
   [(48, .aload_n 0, 49, 0, 0, 0), (49, .getfield 10, 52, 0, 0, 0), (52, .getfield 42, 55, 1, 3, 0), (55, .ireturn, 56, 0, 0, 0), (56, .aload_n 0, 57, 0, 0, 0), (57, .getfield 10, 60, 0, 0, 0), (60, .getfield 78, 63, 1, 4, 0), (63, .ireturn, 64, 0, 0, 0)],
   [(64, .aload_n 0, 65, 0, 0, 0), (65, .getfield 10, 68, 0, 0, 0), (68, .invokevirtual 151, 71, 10, 1, 0), (71, .ireturn, 72, 0, 0, 0), (72, .aload_n 0, 73, 0, 0, 0), (73, .getfield 10, 76, 0, 0, 0), (76, .invokevirtual 64, 79, 14, 1, 0), (79, .ireturn, 80, 0, 0, 0)],
   [(80, .aload_n 0, 81, 0, 0, 0), (81, .getfield 10, 84, 0, 0, 0), (84, .bipush 6, 86, 0, 0, 6), (86, .iconst 1, 87, 0, 0, 1), (87, .invokevirtual 54, 90, 15, 3, 0), (90, .ireturn, 91, 0, 0, 0), (91, .aload_n 0, 92, 0, 0, 0), (92, .getfield 10, 95, 0, 0, 0), (95, .bipush 6, 97, 0, 0, 6)],
   [(97, .iconst 2, 98, 0, 0, 2), (98, .invokevirtual 54, 101, 15, 3, 0), (101, .ireturn, 102, 0, 0, 0), (102, .aload_n 0, 103, 0, 0, 0), (103, .getfield 10, 106, 0, 0, 0), (106, .invokevirtual 154, 109, 11, 1, 0), (109, .ireturn, 110, 0, 0, 0), (110, .aload_n 0, 111, 0, 0, 0), (111, .getfield 19, 114, 0, 1, 0)],
   [(114, .getfield 109, 117, 2, 11, 0), (117, .ireturn, 118, 0, 0, 0), (118, .iconst (-1), 119, 0, 0, (-1)), (119, .ireturn, 120, 0, 0, 0)]])
def mt_E_needAct : mj_T := (⟨"ExplainDifference", "needAct", "(IIII)V"⟩, prog_1_method_22_code, 5, none, 0, [],
  [[(0, .iload_n 1, 1, 0, 0, 0), (1, .iload_n 2, 2, 0, 0, 0), (2, .invokestatic 68, 5, 48, 2, 0), (5, .iload_n 3, 6, 0, 0, 0), (6, .iconst 1, 7, 0, 0, 1), (7, .sipush 1000, 10, 0, 0, 1000), (10, .invokestatic 34, 13, 51, 3, 0), (13, .invokestatic 38, 16, 50, 1, 0)],
   [(16, .iload 4, 18, 0, 0, 0), (18, .aload_n 0, 19, 0, 0, 0), (19, .getfield 10, 22, 0, 0, 0), (22, .invokevirtual 157, 25, 1, 1, 0), (25, .sipush 10000, 28, 0, 0, 10000), (28, .invokestatic 34, 31, 51, 3, 0), (31, .invokestatic 38, 34, 50, 1, 0)],
   [(34, .return_, 35, 0, 0, 0)]])
def mt_E_needRoom : mj_T := (⟨"ExplainDifference", "needRoom", "()V"⟩, prog_1_method_23_code, 1, none, 0, [],
  [[(0, .aload_n 0, 1, 0, 0, 0), (1, .getfield 10, 4, 0, 0, 0), (4, .getfield 42, 7, 1, 3, 0), (7, .bipush 24, 9, 0, 0, 24), (9, .if_icmp .lt 13, 12, 22, 0, 0), (12, .new 160, 15, 1, 162, 164)],
   [(22, .return_, 23, 0, 0, 0)]])
def mt_E_needCell : mj_T := (⟨"ExplainDifference", "needCell", "(II)V"⟩, prog_1_method_24_code, 2, none, 0, [],
  [[(0, .iload_n 0, 1, 0, 0, 0), (1, .iconst 0, 2, 0, 0, 0), (2, .bipush 9, 4, 0, 0, 9), (4, .invokestatic 34, 7, 51, 3, 0), (7, .ifCond .eq 16, 10, 23, 0, 0), (10, .iload_n 1, 11, 0, 0, 0), (11, .iconst 0, 12, 0, 0, 0), (12, .iconst 5, 13, 0, 0, 5), (13, .invokestatic 34, 16, 51, 3, 0)],
   [(16, .ifCond .eq 7, 19, 23, 0, 0), (19, .iconst 1, 20, 0, 0, 1), (20, .goto 4, 23, 24, 0, 0), (23, .iconst 0, 24, 0, 0, 0), (24, .invokestatic 38, 27, 50, 1, 0), (27, .return_, 28, 0, 0, 0)]])
def mt_E_needThere : mj_T := (⟨"ExplainDifference", "needThere", "(II)V"⟩, prog_1_method_25_code, 2, none, 0, [],
  [[(0, .iload_n 0, 1, 0, 0, 0), (1, .iconst 0, 2, 0, 0, 0), (2, .iload_n 1, 3, 0, 0, 0), (3, .iconst 1, 4, 0, 0, 1), (4, .isub, 5, 0, 0, 0), (5, .invokestatic 34, 8, 51, 3, 0), (8, .ifCond .ne 13, 11, 21, 0, 0), (11, .new 165, 14, 2, 167, 169)],
   [(21, .return_, 22, 0, 0, 0)]])
def mt_E_need : mj_T := (⟨"ExplainDifference", "need", "(Z)V"⟩, prog_1_method_26_code, 1, none, 0, [],
  [[(0, .iload_n 0, 1, 0, 0, 0), (1, .ifCond .ne 13, 4, 14, 0, 0), (4, .new 170, 7, 0, 172, 174), (14, .return_, 15, 0, 0, 0)]])
def mt_E_isWithin : mj_T := (⟨"ExplainDifference", "isWithin", "(III)Z"⟩, prog_1_method_27_code, 3, some .boolean, 0, [],
  [[(0, .iload_n 0, 1, 0, 0, 0), (1, .iload_n 1, 2, 0, 0, 0), (2, .if_icmp .lt 12, 5, 14, 0, 0), (5, .iload_n 0, 6, 0, 0, 0), (6, .iload_n 2, 7, 0, 0, 0), (7, .if_icmp .gt 7, 10, 14, 0, 0), (10, .iconst 1, 11, 0, 0, 1), (11, .goto 4, 14, 15, 0, 0), (14, .iconst 0, 15, 0, 0, 0), (15, .ireturn, 16, 0, 0, 0)]])
def mt_E_cellOf : mj_T := (⟨"ExplainDifference", "cellOf", "(II)I"⟩, prog_1_method_28_code, 2, some .int, 0, [],
  [[(0, .iload_n 0, 1, 0, 0, 0), (1, .bipush 6, 3, 0, 0, 6), (3, .imul, 4, 0, 0, 0), (4, .iload_n 1, 5, 0, 0, 0), (5, .iadd, 6, 0, 0, 0), (6, .ireturn, 7, 0, 0, 0)]])
def mt_E_timesDone : mj_T := (⟨"ExplainDifference", "timesDone", "(I)I"⟩, prog_1_method_29_code, 1, some .int, 0, [],
  [[(0, .iload_n 0, 1, 0, 0, 0), (1, .iconst 1, 2, 0, 0, 1), (2, .if_icmp .ne 5, 5, 7, 0, 0), (5, .iconst 0, 6, 0, 0, 0), (6, .ireturn, 7, 0, 0, 0), (7, .iload_n 0, 8, 0, 0, 0), (8, .iconst 2, 9, 0, 0, 2), (9, .if_icmp .ne 7, 12, 16, 0, 0), (12, .iconst 2, 13, 0, 0, 2), (13, .goto 4, 16, 17, 0, 0)],
   [(16, .iconst 1, 17, 0, 0, 1), (17, .ireturn, 18, 0, 0, 0)]])
def mt_M_not : mj_T := (⟨"ExplainDifferenceModel", "not", "(III)Z"⟩, prog_5_method_2_code, 3, some .boolean, 0, [],
  [[(0, .iload_n 0, 1, 0, 0, 0), (1, .iload_n 1, 2, 0, 0, 0), (2, .if_icmp .lt 8, 5, 10, 0, 0), (5, .iload_n 0, 6, 0, 0, 0), (6, .iload_n 2, 7, 0, 0, 0), (7, .if_icmp .le 7, 10, 14, 0, 0), (10, .iconst 1, 11, 0, 0, 1), (11, .goto 4, 14, 15, 0, 0), (14, .iconst 0, 15, 0, 0, 0), (15, .ireturn, 16, 0, 0, 0)]])
def mt_M_adds : mj_T := (⟨"ExplainDifferenceModel", "adds", "(II)I"⟩, prog_5_method_3_code, 4, some .int, 12, [],
  [[(0, .iconst 0, 1, 0, 0, 0), (1, .istore_n 3, 2, 0, 0, 0), (2, .iload_n 2, 3, 0, 0, 0), (3, .bipush 6, 5, 0, 0, 6), (5, .aload_n 0, 6, 0, 0, 0), (6, .getfield 20, 9, 12, 3, 0), (9, .iload_n 1, 10, 0, 0, 0), (10, .iaload, 11, 0, 0, 0), (11, .imul, 12, 0, 0, 0), (12, .aload_n 0, 13, 0, 0, 0), (13, .getfield 26, 16, 12, 5, 0)],
   [(16, .iload_n 1, 17, 0, 0, 0), (17, .iaload, 18, 0, 0, 0), (18, .iadd, 19, 0, 0, 0), (19, .if_icmp .ne 29, 22, 48, 0, 0), (22, .aload_n 0, 23, 0, 0, 0), (23, .getfield 16, 26, 12, 2, 0), (26, .iload_n 1, 27, 0, 0, 0), (27, .iaload, 28, 0, 0, 0), (28, .ifCond .ne 12, 31, 40, 0, 0), (31, .aload_n 0, 32, 0, 0, 0)],
   [(32, .getfield 29, 35, 12, 6, 0), (35, .iload_n 1, 36, 0, 0, 0), (36, .iaload, 37, 0, 0, 0), (37, .goto 10, 40, 47, 0, 0), (40, .aload_n 0, 41, 0, 0, 0), (41, .getfield 29, 44, 12, 6, 0), (44, .iload_n 1, 45, 0, 0, 0), (45, .iaload, 46, 0, 0, 0), (46, .ineg, 47, 0, 0, 0), (47, .istore_n 3, 48, 0, 0, 0)],
   [(48, .aload_n 0, 49, 0, 0, 0), (49, .getfield 16, 52, 12, 2, 0), (52, .iload_n 1, 53, 0, 0, 0), (53, .iaload, 54, 0, 0, 0), (54, .iconst 2, 55, 0, 0, 2), (55, .if_icmp .ne 30, 58, 85, 0, 0), (58, .iload_n 2, 59, 0, 0, 0), (59, .bipush 6, 61, 0, 0, 6), (61, .aload_n 0, 62, 0, 0, 0), (62, .getfield 23, 65, 12, 4, 0)],
   [(65, .iload_n 1, 66, 0, 0, 0), (66, .iaload, 67, 0, 0, 0), (67, .imul, 68, 0, 0, 0), (68, .aload_n 0, 69, 0, 0, 0), (69, .getfield 26, 72, 12, 5, 0), (72, .iload_n 1, 73, 0, 0, 0), (73, .iaload, 74, 0, 0, 0), (74, .iadd, 75, 0, 0, 0), (75, .if_icmp .ne 10, 78, 85, 0, 0), (78, .aload_n 0, 79, 0, 0, 0), (79, .getfield 29, 82, 12, 6, 0)],
   [(82, .iload_n 1, 83, 0, 0, 0), (83, .iaload, 84, 0, 0, 0), (84, .istore_n 3, 85, 0, 0, 0), (85, .iload_n 3, 86, 0, 0, 0), (86, .ireturn, 87, 0, 0, 0)]])
def mt_M_times : mj_T := (⟨"ExplainDifferenceModel", "times", "(I)I"⟩, prog_5_method_4_code, 2, some .int, 12, [],
  [[(0, .aload_n 0, 1, 0, 0, 0), (1, .getfield 35, 4, 12, 8, 0), (4, .iload_n 1, 5, 0, 0, 0), (5, .iaload, 6, 0, 0, 0), (6, .ifCond .ne 7, 9, 13, 0, 0), (9, .iconst 1, 10, 0, 0, 1), (10, .goto 18, 13, 28, 0, 0), (13, .aload_n 0, 14, 0, 0, 0), (14, .getfield 35, 17, 12, 8, 0)],
   [(17, .iload_n 1, 18, 0, 0, 0), (18, .iaload, 19, 0, 0, 0), (19, .iconst 1, 20, 0, 0, 1), (20, .if_icmp .ne 7, 23, 27, 0, 0), (23, .iconst 0, 24, 0, 0, 0), (24, .goto 4, 27, 28, 0, 0), (27, .iconst 2, 28, 0, 0, 2), (28, .ireturn, 29, 0, 0, 0)]])
def mt_M_expectedOf : mj_T := (⟨"ExplainDifferenceModel", "expectedOf", "(I)I"⟩, prog_5_method_5_code, 4, some .int, 12, [],
  [[(0, .iconst 0, 1, 0, 0, 0), (1, .istore_n 2, 2, 0, 0, 0), (2, .iconst 0, 3, 0, 0, 0), (3, .istore_n 3, 4, 0, 0, 0), (4, .iload_n 3, 5, 0, 0, 0), (5, .aload_n 0, 6, 0, 0, 0), (6, .getfield 13, 9, 12, 1, 0), (9, .if_icmp .ge 24, 12, 33, 0, 0), (12, .iload_n 2, 13, 0, 0, 0), (13, .aload_n 0, 14, 0, 0, 0), (14, .iload_n 3, 15, 0, 0, 0), (15, .invokevirtual 88, 18, 56, 2, 0)],
   [(18, .aload_n 0, 19, 0, 0, 0), (19, .iload_n 3, 20, 0, 0, 0), (20, .iload_n 1, 21, 0, 0, 0), (21, .invokevirtual 92, 24, 55, 3, 0), (24, .imul, 25, 0, 0, 0), (25, .iadd, 26, 0, 0, 0), (26, .istore_n 2, 27, 0, 0, 0), (27, .iinc 3 1, 30, 0, 0, 1), (30, .goto (-26), 33, 4, 0, 0)],
   [(33, .iload_n 2, 34, 0, 0, 0), (34, .ireturn, 35, 0, 0, 0)]])
def mt_M_differenceOf : mj_T := (⟨"ExplainDifferenceModel", "differenceOf", "(I)I"⟩, prog_5_method_6_code, 2, some .int, 12, [],
  [[(0, .aload_n 0, 1, 0, 0, 0), (1, .getfield 48, 4, 12, 12, 0), (4, .iload_n 1, 5, 0, 0, 0), (5, .iaload, 6, 0, 0, 0), (6, .ifCond .ge 7, 9, 13, 0, 0), (9, .iconst 0, 10, 0, 0, 0), (10, .goto 15, 13, 25, 0, 0), (13, .aload_n 0, 14, 0, 0, 0), (14, .getfield 48, 17, 12, 12, 0)],
   [(17, .iload_n 1, 18, 0, 0, 0), (18, .iaload, 19, 0, 0, 0), (19, .aload_n 0, 20, 0, 0, 0), (20, .iload_n 1, 21, 0, 0, 0), (21, .invokevirtual 96, 24, 57, 2, 0), (24, .isub, 25, 0, 0, 0), (25, .ireturn, 26, 0, 0, 0)]])
def mt_M_differences : mj_T := (⟨"ExplainDifferenceModel", "differences", "()I"⟩, prog_5_method_7_code, 3, some .int, 12, [],
  [[(0, .iconst 0, 1, 0, 0, 0), (1, .istore_n 1, 2, 0, 0, 0), (2, .iconst 0, 3, 0, 0, 0), (3, .istore_n 2, 4, 0, 0, 0), (4, .iload_n 2, 5, 0, 0, 0), (5, .bipush 60, 7, 0, 0, 60), (7, .if_icmp .ge 25, 10, 32, 0, 0), (10, .iload_n 1, 11, 0, 0, 0), (11, .aload_n 0, 12, 0, 0, 0), (12, .iload_n 2, 13, 0, 0, 0), (13, .invokevirtual 99, 16, 58, 2, 0)],
   [(16, .ifCond .eq 7, 19, 23, 0, 0), (19, .iconst 1, 20, 0, 0, 1), (20, .goto 4, 23, 24, 0, 0), (23, .iconst 0, 24, 0, 0, 0), (24, .iadd, 25, 0, 0, 0), (25, .istore_n 1, 26, 0, 0, 0), (26, .iinc 2 1, 29, 0, 0, 1), (29, .goto (-25), 32, 4, 0, 0)],
   [(32, .iload_n 1, 33, 0, 0, 0), (33, .ireturn, 34, 0, 0, 0)]])
def mt_M_touches : mj_T := (⟨"ExplainDifferenceModel", "touches", "(II)Z"⟩, prog_5_method_8_code, 3, some .boolean, 12, [],
  [[(0, .aload_n 0, 1, 0, 0, 0), (1, .iload_n 1, 2, 0, 0, 0), (2, .iload_n 2, 3, 0, 0, 0), (3, .invokevirtual 92, 6, 55, 3, 0), (6, .ifCond .eq 7, 9, 13, 0, 0), (9, .iconst 1, 10, 0, 0, 1), (10, .goto 4, 13, 14, 0, 0), (13, .iconst 0, 14, 0, 0, 0), (14, .ireturn, 15, 0, 0, 0)]])
def mt_M_isCandidate : mj_T := (⟨"ExplainDifferenceModel", "isCandidate", "(I)Z"⟩, prog_5_method_9_code, 2, some .boolean, 12, [],
  [[(0, .aload_n 0, 1, 0, 0, 0), (1, .getfield 35, 4, 12, 8, 0), (4, .iload_n 1, 5, 0, 0, 0), (5, .iaload, 6, 0, 0, 0), (6, .ifCond .ne 38, 9, 44, 0, 0), (9, .aload_n 0, 10, 0, 0, 0), (10, .getfield 38, 13, 12, 9, 0), (13, .iload_n 1, 14, 0, 0, 0), (14, .baload, 15, 0, 0, 0), (15, .ifCond .ne 29, 18, 44, 0, 0)],
   [(18, .aload_n 0, 19, 0, 0, 0), (19, .getfield 32, 22, 12, 7, 0), (22, .iload_n 1, 23, 0, 0, 0), (23, .iaload, 24, 0, 0, 0), (24, .aload_n 0, 25, 0, 0, 0), (25, .getfield 42, 28, 12, 10, 0), (28, .if_icmp .lt 16, 31, 44, 0, 0), (31, .aload_n 0, 32, 0, 0, 0)],
   [(32, .getfield 32, 35, 12, 7, 0), (35, .iload_n 1, 36, 0, 0, 0), (36, .iaload, 37, 0, 0, 0), (37, .aload_n 0, 38, 0, 0, 0), (38, .getfield 45, 41, 12, 11, 0), (41, .if_icmp .le 5, 44, 46, 0, 0), (44, .iconst 0, 45, 0, 0, 0), (45, .ireturn, 46, 0, 0, 0), (46, .aload_n 0, 47, 0, 0, 0), (47, .getfield 48, 50, 12, 12, 0)],
   [(50, .bipush 6, 52, 0, 0, 6), (52, .aload_n 0, 53, 0, 0, 0), (53, .getfield 20, 56, 12, 3, 0), (56, .iload_n 1, 57, 0, 0, 0), (57, .iaload, 58, 0, 0, 0), (58, .imul, 59, 0, 0, 0), (59, .aload_n 0, 60, 0, 0, 0), (60, .getfield 26, 63, 12, 5, 0), (63, .iload_n 1, 64, 0, 0, 0)],
   [(64, .iaload, 65, 0, 0, 0), (65, .iadd, 66, 0, 0, 0), (66, .iaload, 67, 0, 0, 0), (67, .ifCond .lt 5, 70, 72, 0, 0), (70, .iconst 1, 71, 0, 0, 1), (71, .ireturn, 72, 0, 0, 0), (72, .aload_n 0, 73, 0, 0, 0), (73, .getfield 16, 76, 12, 2, 0), (76, .iload_n 1, 77, 0, 0, 0), (77, .iaload, 78, 0, 0, 0), (78, .iconst 2, 79, 0, 0, 2), (79, .if_icmp .ne 31, 82, 110, 0, 0)],
   [(82, .aload_n 0, 83, 0, 0, 0), (83, .getfield 48, 86, 12, 12, 0), (86, .bipush 6, 88, 0, 0, 6), (88, .aload_n 0, 89, 0, 0, 0), (89, .getfield 23, 92, 12, 4, 0), (92, .iload_n 1, 93, 0, 0, 0), (93, .iaload, 94, 0, 0, 0), (94, .imul, 95, 0, 0, 0), (95, .aload_n 0, 96, 0, 0, 0)],
   [(96, .getfield 26, 99, 12, 5, 0), (99, .iload_n 1, 100, 0, 0, 0), (100, .iaload, 101, 0, 0, 0), (101, .iadd, 102, 0, 0, 0), (102, .iaload, 103, 0, 0, 0), (103, .ifCond .lt 7, 106, 110, 0, 0), (106, .iconst 1, 107, 0, 0, 1), (107, .goto 4, 110, 111, 0, 0), (110, .iconst 0, 111, 0, 0, 0), (111, .ireturn, 112, 0, 0, 0)]])
def mt_M_howMany : mj_T := (⟨"ExplainDifferenceModel", "howMany", "()I"⟩, prog_5_method_10_code, 3, some .int, 12, [],
  [[(0, .iconst 0, 1, 0, 0, 0), (1, .istore_n 1, 2, 0, 0, 0), (2, .iconst 0, 3, 0, 0, 0), (3, .istore_n 2, 4, 0, 0, 0), (4, .iload_n 2, 5, 0, 0, 0), (5, .aload_n 0, 6, 0, 0, 0), (6, .getfield 13, 9, 12, 1, 0), (9, .if_icmp .ge 25, 12, 34, 0, 0), (12, .iload_n 1, 13, 0, 0, 0), (13, .aload_n 0, 14, 0, 0, 0), (14, .iload_n 2, 15, 0, 0, 0), (15, .invokevirtual 102, 18, 61, 2, 0)],
   [(18, .ifCond .eq 7, 21, 25, 0, 0), (21, .iconst 1, 22, 0, 0, 1), (22, .goto 4, 25, 26, 0, 0), (25, .iconst 0, 26, 0, 0, 0), (26, .iadd, 27, 0, 0, 0), (27, .istore_n 1, 28, 0, 0, 0), (28, .iinc 2 1, 31, 0, 0, 1), (31, .goto (-27), 34, 4, 0, 0)],
   [(34, .iload_n 1, 35, 0, 0, 0), (35, .ireturn, 36, 0, 0, 0)]])
def mt_M_add : mj_T := (⟨"ExplainDifferenceModel", "add", "(II)V"⟩, prog_5_method_11_code, 3, none, 12, [],
  [[(0, .aload_n 0, 1, 0, 0, 0), (1, .getfield 48, 4, 12, 12, 0), (4, .iload_n 1, 5, 0, 0, 0), (5, .iaload, 6, 0, 0, 0), (6, .ifCond .ge 4, 9, 10, 0, 0), (9, .return_, 10, 0, 0, 0), (10, .aload_n 0, 11, 0, 0, 0), (11, .getfield 70, 14, 12, 19, 0), (14, .iload_n 1, 15, 0, 0, 0), (15, .iaload, 16, 0, 0, 0)],
   [(16, .ifCond .eq 13, 19, 29, 0, 0), (19, .aload_n 0, 20, 0, 0, 0), (20, .dup, 21, 0, 0, 0), (21, .getfield 73, 24, 12, 20, 0), (24, .iconst 1, 25, 0, 0, 1), (25, .isub, 26, 0, 0, 0), (26, .putfield 73, 29, 12, 20, 0), (29, .aload_n 0, 30, 0, 0, 0), (30, .getfield 70, 33, 12, 19, 0)],
   [(33, .iload_n 1, 34, 0, 0, 0), (34, .aload_n 0, 35, 0, 0, 0), (35, .getfield 70, 38, 12, 19, 0), (38, .iload_n 1, 39, 0, 0, 0), (39, .iaload, 40, 0, 0, 0), (40, .iload_n 2, 41, 0, 0, 0), (41, .iadd, 42, 0, 0, 0), (42, .iastore, 43, 0, 0, 0), (43, .aload_n 0, 44, 0, 0, 0), (44, .getfield 70, 47, 12, 19, 0), (47, .iload_n 1, 48, 0, 0, 0)],
   [(48, .iaload, 49, 0, 0, 0), (49, .ifCond .eq 13, 52, 62, 0, 0), (52, .aload_n 0, 53, 0, 0, 0), (53, .dup, 54, 0, 0, 0), (54, .getfield 73, 57, 12, 20, 0), (57, .iconst 1, 58, 0, 0, 1), (58, .iadd, 59, 0, 0, 0), (59, .putfield 73, 62, 12, 20, 0), (62, .return_, 63, 0, 0, 0)]])
def mt_M_apply : mj_T := (⟨"ExplainDifferenceModel", "apply", "(II)V"⟩, prog_5_method_12_code, 7, none, 12, [],
  [[(0, .aload_n 0, 1, 0, 0, 0), (1, .getfield 79, 4, 12, 22, 0), (4, .iload_n 1, 5, 0, 0, 0), (5, .iconst 2, 6, 0, 0, 2), (6, .idiv, 7, 0, 0, 0), (7, .iaload, 8, 0, 0, 0), (8, .istore_n 3, 9, 0, 0, 0), (9, .iload_n 1, 10, 0, 0, 0), (10, .iconst 2, 11, 0, 0, 2), (11, .irem, 12, 0, 0, 0), (12, .ifCond .ne 7, 15, 19, 0, 0), (15, .iconst 1, 16, 0, 0, 1)],
   [(16, .goto 4, 19, 20, 0, 0), (19, .iconst (-1), 20, 0, 0, (-1)), (20, .iload_n 2, 21, 0, 0, 0), (21, .imul, 22, 0, 0, 0), (22, .istore 4, 24, 0, 0, 0), (24, .bipush 6, 26, 0, 0, 6), (26, .aload_n 0, 27, 0, 0, 0), (27, .getfield 20, 30, 12, 3, 0), (30, .iload_n 3, 31, 0, 0, 0), (31, .iaload, 32, 0, 0, 0)],
   [(32, .imul, 33, 0, 0, 0), (33, .aload_n 0, 34, 0, 0, 0), (34, .getfield 26, 37, 12, 5, 0), (37, .iload_n 3, 38, 0, 0, 0), (38, .iaload, 39, 0, 0, 0), (39, .iadd, 40, 0, 0, 0), (40, .istore 5, 42, 0, 0, 0), (42, .aload_n 0, 43, 0, 0, 0), (43, .iload 5, 45, 0, 0, 0), (45, .iload 4, 47, 0, 0, 0), (47, .aload_n 0, 48, 0, 0, 0)],
   [(48, .iload_n 3, 49, 0, 0, 0), (49, .iload 5, 51, 0, 0, 0), (51, .invokevirtual 92, 54, 55, 3, 0), (54, .imul, 55, 0, 0, 0), (55, .invokevirtual 106, 58, 63, 3, 0), (58, .aload_n 0, 59, 0, 0, 0), (59, .getfield 16, 62, 12, 2, 0), (62, .iload_n 3, 63, 0, 0, 0), (63, .iaload, 64, 0, 0, 0)],
   [(64, .iconst 2, 65, 0, 0, 2), (65, .if_icmp .ne 37, 68, 102, 0, 0), (68, .bipush 6, 70, 0, 0, 6), (70, .aload_n 0, 71, 0, 0, 0), (71, .getfield 23, 74, 12, 4, 0), (74, .iload_n 3, 75, 0, 0, 0), (75, .iaload, 76, 0, 0, 0), (76, .imul, 77, 0, 0, 0), (77, .aload_n 0, 78, 0, 0, 0), (78, .getfield 26, 81, 12, 5, 0)],
   [(81, .iload_n 3, 82, 0, 0, 0), (82, .iaload, 83, 0, 0, 0), (83, .iadd, 84, 0, 0, 0), (84, .istore 6, 86, 0, 0, 0), (86, .aload_n 0, 87, 0, 0, 0), (87, .iload 6, 89, 0, 0, 0), (89, .iload 4, 91, 0, 0, 0), (91, .aload_n 0, 92, 0, 0, 0), (92, .iload_n 3, 93, 0, 0, 0), (93, .iload 6, 95, 0, 0, 0), (95, .invokevirtual 92, 98, 55, 3, 0)],
   [(98, .imul, 99, 0, 0, 0), (99, .invokevirtual 106, 102, 63, 3, 0), (102, .return_, 103, 0, 0, 0)]])
def mt_M_foundOne : mj_T := (⟨"ExplainDifferenceModel", "foundOne", "(I)V"⟩, prog_5_method_13_code, 4, none, 12, [],
  [[(0, .aload_n 0, 1, 0, 0, 0), (1, .dup, 2, 0, 0, 0), (2, .getfield 58, 5, 12, 15, 0), (5, .iconst 1, 6, 0, 0, 1), (6, .iadd, 7, 0, 0, 0), (7, .putfield 58, 10, 12, 15, 0), (10, .iconst 0, 11, 0, 0, 0), (11, .istore_n 2, 12, 0, 0, 0), (12, .iload_n 2, 13, 0, 0, 0), (13, .iload_n 1, 14, 0, 0, 0), (14, .if_icmp .ge 63, 17, 77, 0, 0)],
   [(17, .aload_n 0, 18, 0, 0, 0), (18, .getfield 79, 21, 12, 22, 0), (21, .aload_n 0, 22, 0, 0, 0), (22, .getfield 82, 25, 12, 23, 0), (25, .iload_n 2, 26, 0, 0, 0), (26, .iaload, 27, 0, 0, 0), (27, .iconst 2, 28, 0, 0, 2), (28, .idiv, 29, 0, 0, 0), (29, .iaload, 30, 0, 0, 0), (30, .istore_n 3, 31, 0, 0, 0), (31, .aload_n 0, 32, 0, 0, 0)],
   [(32, .getfield 61, 35, 12, 16, 0), (35, .iload_n 3, 36, 0, 0, 0), (36, .aload_n 0, 37, 0, 0, 0), (37, .getfield 61, 40, 12, 16, 0), (40, .iload_n 3, 41, 0, 0, 0), (41, .iaload, 42, 0, 0, 0), (42, .iconst 1, 43, 0, 0, 1), (43, .iadd, 44, 0, 0, 0), (44, .iastore, 45, 0, 0, 0), (45, .aload_n 0, 46, 0, 0, 0), (46, .getfield 58, 49, 12, 15, 0)],
   [(49, .iconst 1, 50, 0, 0, 1), (50, .if_icmp .ne 21, 53, 71, 0, 0), (53, .aload_n 0, 54, 0, 0, 0), (54, .getfield 67, 57, 12, 18, 0), (57, .iload_n 2, 58, 0, 0, 0), (58, .iconst 2, 59, 0, 0, 2), (59, .iload_n 3, 60, 0, 0, 0), (60, .imul, 61, 0, 0, 0), (61, .aload_n 0, 62, 0, 0, 0), (62, .getfield 82, 65, 12, 23, 0)],
   [(65, .iload_n 2, 66, 0, 0, 0), (66, .iaload, 67, 0, 0, 0), (67, .iconst 2, 68, 0, 0, 2), (68, .irem, 69, 0, 0, 0), (69, .iadd, 70, 0, 0, 0), (70, .iastore, 71, 0, 0, 0), (71, .iinc 2 1, 74, 0, 0, 1), (74, .goto (-62), 77, 12, 0, 0), (77, .aload_n 0, 78, 0, 0, 0), (78, .getfield 58, 81, 12, 15, 0)],
   [(81, .iconst 1, 82, 0, 0, 1), (82, .if_icmp .ne 8, 85, 90, 0, 0), (85, .aload_n 0, 86, 0, 0, 0), (86, .iload_n 1, 87, 0, 0, 0), (87, .putfield 64, 90, 12, 17, 0), (90, .return_, 91, 0, 0, 0)]])
def mt_M_goThrough : mj_T := (⟨"ExplainDifferenceModel", "goThrough", "(II)Z"⟩, prog_5_method_14_code, 4, some .boolean, 12, [],
  [[(0, .iconst 0, 1, 0, 0, 0), (1, .istore_n 3, 2, 0, 0, 0), (2, .aload_n 0, 3, 0, 0, 0), (3, .getfield 82, 6, 12, 23, 0), (6, .iconst 0, 7, 0, 0, 0), (7, .iconst (-1), 8, 0, 0, (-1)), (8, .iastore, 9, 0, 0, 0), (9, .aload_n 0, 10, 0, 0, 0), (10, .getfield 85, 13, 12, 24, 0), (13, .iconst 0, 14, 0, 0, 0), (14, .iconst 0, 15, 0, 0, 0), (15, .bastore, 16, 0, 0, 0)],
   [(16, .iload_n 3, 17, 0, 0, 0), (17, .ifCond .lt 158, 20, 175, 0, 0), (20, .aload_n 0, 21, 0, 0, 0), (21, .getfield 85, 24, 12, 24, 0), (24, .iload_n 3, 25, 0, 0, 0), (25, .baload, 26, 0, 0, 0), (26, .ifCond .eq 14, 29, 40, 0, 0), (29, .aload_n 0, 30, 0, 0, 0), (30, .aload_n 0, 31, 0, 0, 0), (31, .getfield 82, 34, 12, 23, 0)],
   [(34, .iload_n 3, 35, 0, 0, 0), (35, .iaload, 36, 0, 0, 0), (36, .iconst (-1), 37, 0, 0, (-1)), (37, .invokevirtual 110, 40, 64, 3, 0), (40, .aload_n 0, 41, 0, 0, 0), (41, .getfield 85, 44, 12, 24, 0), (44, .iload_n 3, 45, 0, 0, 0), (45, .iconst 0, 46, 0, 0, 0), (46, .bastore, 47, 0, 0, 0), (47, .aload_n 0, 48, 0, 0, 0)],
   [(48, .getfield 82, 51, 12, 23, 0), (51, .iload_n 3, 52, 0, 0, 0), (52, .aload_n 0, 53, 0, 0, 0), (53, .getfield 82, 56, 12, 23, 0), (56, .iload_n 3, 57, 0, 0, 0), (57, .iaload, 58, 0, 0, 0), (58, .iconst 1, 59, 0, 0, 1), (59, .iadd, 60, 0, 0, 0), (60, .iastore, 61, 0, 0, 0), (61, .aload_n 0, 62, 0, 0, 0), (62, .getfield 82, 65, 12, 23, 0)],
   [(65, .iload_n 3, 66, 0, 0, 0), (66, .iaload, 67, 0, 0, 0), (67, .iconst 2, 68, 0, 0, 2), (68, .aload_n 0, 69, 0, 0, 0), (69, .getfield 76, 72, 12, 21, 0), (72, .imul, 73, 0, 0, 0), (73, .if_icmp .lt 9, 76, 82, 0, 0), (76, .iinc 3 (-1), 79, 0, 0, (-1)), (79, .goto (-63), 82, 16, 0, 0)],
   [(82, .aload_n 0, 83, 0, 0, 0), (83, .getfield 55, 86, 12, 14, 0), (86, .iload_n 2, 87, 0, 0, 0), (87, .if_icmp .ne 5, 90, 92, 0, 0), (90, .iconst 0, 91, 0, 0, 0), (91, .ireturn, 92, 0, 0, 0), (92, .aload_n 0, 93, 0, 0, 0), (93, .dup, 94, 0, 0, 0), (94, .getfield 55, 97, 12, 14, 0)],
   [(97, .iconst 1, 98, 0, 0, 1), (98, .iadd, 99, 0, 0, 0), (99, .putfield 55, 102, 12, 14, 0), (102, .aload_n 0, 103, 0, 0, 0), (103, .aload_n 0, 104, 0, 0, 0), (104, .getfield 82, 107, 12, 23, 0), (107, .iload_n 3, 108, 0, 0, 0), (108, .iaload, 109, 0, 0, 0), (109, .iconst 1, 110, 0, 0, 1), (110, .invokevirtual 110, 113, 64, 3, 0)],
   [(113, .aload_n 0, 114, 0, 0, 0), (114, .getfield 85, 117, 12, 24, 0), (117, .iload_n 3, 118, 0, 0, 0), (118, .iconst 1, 119, 0, 0, 1), (119, .bastore, 120, 0, 0, 0), (120, .iload_n 3, 121, 0, 0, 0), (121, .iconst 1, 122, 0, 0, 1), (122, .iadd, 123, 0, 0, 0), (123, .iload_n 1, 124, 0, 0, 0), (124, .if_icmp .ge 36, 127, 160, 0, 0), (127, .iinc 3 1, 130, 0, 0, 1)],
   [(130, .aload_n 0, 131, 0, 0, 0), (131, .getfield 85, 134, 12, 24, 0), (134, .iload_n 3, 135, 0, 0, 0), (135, .iconst 0, 136, 0, 0, 0), (136, .bastore, 137, 0, 0, 0), (137, .aload_n 0, 138, 0, 0, 0), (138, .getfield 82, 141, 12, 23, 0), (141, .iload_n 3, 142, 0, 0, 0), (142, .aload_n 0, 143, 0, 0, 0), (143, .getfield 82, 146, 12, 23, 0)],
   [(146, .iload_n 3, 147, 0, 0, 0), (147, .iconst 1, 148, 0, 0, 1), (148, .isub, 149, 0, 0, 0), (149, .iaload, 150, 0, 0, 0), (150, .iconst 2, 151, 0, 0, 2), (151, .idiv, 152, 0, 0, 0), (152, .iconst 2, 153, 0, 0, 2), (153, .imul, 154, 0, 0, 0), (154, .iconst 1, 155, 0, 0, 1), (155, .iadd, 156, 0, 0, 0), (156, .iastore, 157, 0, 0, 0), (157, .goto (-141), 160, 16, 0, 0)],
   [(160, .aload_n 0, 161, 0, 0, 0), (161, .getfield 73, 164, 12, 20, 0), (164, .ifCond .ne (-148), 167, 16, 0, 0), (167, .aload_n 0, 168, 0, 0, 0), (168, .iload_n 1, 169, 0, 0, 0), (169, .invokevirtual 113, 172, 65, 2, 0), (172, .goto (-156), 175, 16, 0, 0), (175, .iconst 1, 176, 0, 0, 1)],
   [(176, .ireturn, 177, 0, 0, 0)]])
def mt_M_thrown : mj_T := (⟨"ExplainDifferenceModel", "thrown", "()I"⟩, prog_5_method_15_code, 1, some .int, 12, [],
  [[(0, .aload_n 0, 1, 0, 0, 0), (1, .getfield 7, 4, 12, 0, 0), (4, .ireturn, 5, 0, 0, 0)]])
def mt_M_newAct : mj_T := (⟨"ExplainDifferenceModel", "newAct", "(IIIIII)I"⟩, prog_5_method_16_code, 8, some .int, 12, [],
  [[(0, .iload_n 2, 1, 0, 0, 0), (1, .iconst 0, 2, 0, 0, 0), (2, .bipush 9, 4, 0, 0, 9), (4, .invokestatic 117, 7, 54, 3, 0), (7, .ifCond .ne 80, 10, 87, 0, 0), (10, .iload_n 1, 11, 0, 0, 0), (11, .iconst 2, 12, 0, 0, 2), (12, .if_icmp .ne 18, 15, 30, 0, 0), (15, .iload_n 3, 16, 0, 0, 0)],
   [(16, .iconst 0, 17, 0, 0, 0), (17, .bipush 9, 19, 0, 0, 9), (19, .invokestatic 117, 22, 54, 3, 0), (22, .ifCond .ne 65, 25, 87, 0, 0), (25, .iload_n 3, 26, 0, 0, 0), (26, .iload_n 2, 27, 0, 0, 0), (27, .if_icmp .eq 60, 30, 87, 0, 0), (30, .iload 4, 32, 0, 0, 0)],
   [(32, .iconst 0, 33, 0, 0, 0), (33, .iconst 5, 34, 0, 0, 5), (34, .invokestatic 117, 37, 54, 3, 0), (37, .ifCond .ne 50, 40, 87, 0, 0), (40, .iload 5, 42, 0, 0, 0), (42, .iconst 1, 43, 0, 0, 1), (43, .sipush 1000, 46, 0, 0, 1000), (46, .invokestatic 117, 49, 54, 3, 0)],
   [(49, .ifCond .ne 38, 52, 87, 0, 0), (52, .iload 6, 54, 0, 0, 0), (54, .iconst 0, 55, 0, 0, 0), (55, .sipush 10000, 58, 0, 0, 10000), (58, .invokestatic 117, 61, 54, 3, 0), (61, .ifCond .ne 26, 64, 87, 0, 0)],
   [(64, .aload_n 0, 65, 0, 0, 0), (65, .getfield 13, 68, 12, 1, 0), (68, .ifCond .le 23, 71, 91, 0, 0), (71, .iload 6, 73, 0, 0, 0), (73, .aload_n 0, 74, 0, 0, 0), (74, .getfield 32, 77, 12, 7, 0), (77, .aload_n 0, 78, 0, 0, 0), (78, .getfield 13, 81, 12, 1, 0)],
   [(81, .iconst 1, 82, 0, 0, 1), (82, .isub, 83, 0, 0, 0), (83, .iaload, 84, 0, 0, 0), (84, .if_icmp .ge 7, 87, 91, 0, 0), (87, .iconst 1, 88, 0, 0, 1), (88, .goto 4, 91, 92, 0, 0), (91, .iconst 0, 92, 0, 0, 0), (92, .istore 7, 94, 0, 0, 0), (94, .aload_n 0, 95, 0, 0, 0), (95, .iload 7, 97, 0, 0, 0)],
   [(97, .ifCond .eq 7, 100, 104, 0, 0), (100, .iconst 1, 101, 0, 0, 1), (101, .goto 17, 104, 118, 0, 0), (104, .aload_n 0, 105, 0, 0, 0), (105, .getfield 13, 108, 12, 1, 0), (108, .bipush 24, 110, 0, 0, 24), (110, .if_icmp .ne 7, 113, 117, 0, 0)],
   [(113, .iconst 2, 114, 0, 0, 2), (114, .goto 4, 117, 118, 0, 0), (117, .iconst 0, 118, 0, 0, 0), (118, .putfield 7, 121, 12, 0, 0), (121, .aload_n 0, 122, 0, 0, 0), (122, .getfield 7, 125, 12, 0, 0), (125, .ifCond .eq 5, 128, 130, 0, 0)],
   [(128, .iconst 0, 129, 0, 0, 0), (129, .ireturn, 130, 0, 0, 0), (130, .aload_n 0, 131, 0, 0, 0), (131, .getfield 16, 134, 12, 2, 0), (134, .aload_n 0, 135, 0, 0, 0), (135, .getfield 13, 138, 12, 1, 0), (138, .iload_n 1, 139, 0, 0, 0), (139, .iastore, 140, 0, 0, 0), (140, .aload_n 0, 141, 0, 0, 0), (141, .getfield 20, 144, 12, 3, 0)],
   [(144, .aload_n 0, 145, 0, 0, 0), (145, .getfield 13, 148, 12, 1, 0), (148, .iload_n 2, 149, 0, 0, 0), (149, .iastore, 150, 0, 0, 0), (150, .aload_n 0, 151, 0, 0, 0), (151, .getfield 23, 154, 12, 4, 0), (154, .aload_n 0, 155, 0, 0, 0), (155, .getfield 13, 158, 12, 1, 0), (158, .iload_n 3, 159, 0, 0, 0), (159, .iastore, 160, 0, 0, 0)],
   [(160, .aload_n 0, 161, 0, 0, 0), (161, .getfield 26, 164, 12, 5, 0), (164, .aload_n 0, 165, 0, 0, 0), (165, .getfield 13, 168, 12, 1, 0), (168, .iload 4, 170, 0, 0, 0), (170, .iastore, 171, 0, 0, 0), (171, .aload_n 0, 172, 0, 0, 0), (172, .getfield 29, 175, 12, 6, 0), (175, .aload_n 0, 176, 0, 0, 0)],
   [(176, .getfield 13, 179, 12, 1, 0), (179, .iload 5, 181, 0, 0, 0), (181, .iastore, 182, 0, 0, 0), (182, .aload_n 0, 183, 0, 0, 0), (183, .getfield 32, 186, 12, 7, 0), (186, .aload_n 0, 187, 0, 0, 0), (187, .getfield 13, 190, 12, 1, 0), (190, .iload 6, 192, 0, 0, 0)],
   [(192, .iastore, 193, 0, 0, 0), (193, .aload_n 0, 194, 0, 0, 0), (194, .dup, 195, 0, 0, 0), (195, .getfield 13, 198, 12, 1, 0), (198, .iconst 1, 199, 0, 0, 1), (199, .iadd, 200, 0, 0, 0), (200, .putfield 13, 203, 12, 1, 0), (203, .aload_n 0, 204, 0, 0, 0), (204, .getfield 13, 207, 12, 1, 0), (207, .iconst 1, 208, 0, 0, 1)],
   [(208, .isub, 209, 0, 0, 0), (209, .ireturn, 210, 0, 0, 0)]])
def mt_M_put : mj_T := (⟨"ExplainDifferenceModel", "put", "(IIII)I"⟩, prog_5_method_17_code, 5, some .int, 12, [],
  [[(0, .aload_n 0, 1, 0, 0, 0), (1, .iconst 0, 2, 0, 0, 0), (2, .iload_n 1, 3, 0, 0, 0), (3, .iconst (-1), 4, 0, 0, (-1)), (4, .iload_n 2, 5, 0, 0, 0), (5, .iload_n 3, 6, 0, 0, 0), (6, .iload 4, 8, 0, 0, 0), (8, .invokevirtual 121, 11, 68, 7, 0), (11, .ireturn, 12, 0, 0, 0)]])
def mt_M_take : mj_T := (⟨"ExplainDifferenceModel", "take", "(IIII)I"⟩, prog_5_method_18_code, 5, some .int, 12, [],
  [[(0, .aload_n 0, 1, 0, 0, 0), (1, .iconst 1, 2, 0, 0, 1), (2, .iload_n 1, 3, 0, 0, 0), (3, .iconst (-1), 4, 0, 0, (-1)), (4, .iload_n 2, 5, 0, 0, 0), (5, .iload_n 3, 6, 0, 0, 0), (6, .iload 4, 8, 0, 0, 0), (8, .invokevirtual 121, 11, 68, 7, 0), (11, .ireturn, 12, 0, 0, 0)]])
def mt_M_move : mj_T := (⟨"ExplainDifferenceModel", "move", "(IIIII)I"⟩, prog_5_method_19_code, 6, some .int, 12, [],
  [[(0, .aload_n 0, 1, 0, 0, 0), (1, .iconst 2, 2, 0, 0, 2), (2, .iload_n 1, 3, 0, 0, 0), (3, .iload_n 2, 4, 0, 0, 0), (4, .iload_n 3, 5, 0, 0, 0), (5, .iload 4, 7, 0, 0, 0), (7, .iload 5, 9, 0, 0, 0), (9, .invokevirtual 121, 12, 68, 7, 0), (12, .ireturn, 13, 0, 0, 0)]])
def mt_M_noAct : mj_T := (⟨"ExplainDifferenceModel", "noAct", "(I)Z"⟩, prog_5_method_20_code, 2, some .boolean, 12, [],
  [[(0, .iload_n 1, 1, 0, 0, 0), (1, .ifCond .lt 11, 4, 12, 0, 0), (4, .iload_n 1, 5, 0, 0, 0), (5, .aload_n 0, 6, 0, 0, 0), (6, .getfield 13, 9, 12, 1, 0), (9, .if_icmp .lt 7, 12, 16, 0, 0), (12, .iconst 1, 13, 0, 0, 1), (13, .goto 4, 16, 17, 0, 0)],
   [(16, .iconst 0, 17, 0, 0, 0), (17, .ireturn, 18, 0, 0, 0)]])
def mt_M_closed : mj_T := (⟨"ExplainDifferenceModel", "closed", "(IZ)I"⟩, prog_5_method_21_code, 5, some .int, 12, [],
  [[(0, .aload_n 0, 1, 0, 0, 0), (1, .aload_n 0, 2, 0, 0, 0), (2, .iload_n 1, 3, 0, 0, 0), (3, .invokevirtual 125, 6, 72, 2, 0), (6, .ifCond .eq 7, 9, 13, 0, 0), (9, .iconst 1, 10, 0, 0, 1), (10, .goto 4, 13, 14, 0, 0), (13, .iconst 0, 14, 0, 0, 0), (14, .putfield 7, 17, 12, 0, 0)],
   [(17, .aload_n 0, 18, 0, 0, 0), (18, .getfield 7, 21, 12, 0, 0), (21, .ifCond .eq 5, 24, 26, 0, 0), (24, .iconst 0, 25, 0, 0, 0), (25, .ireturn, 26, 0, 0, 0), (26, .aload_n 0, 27, 0, 0, 0), (27, .getfield 38, 30, 12, 9, 0), (30, .iload_n 1, 31, 0, 0, 0), (31, .iload_n 2, 32, 0, 0, 0)],
   [(32, .bastore, 33, 0, 0, 0), (33, .iconst 0, 34, 0, 0, 0), (34, .istore_n 3, 35, 0, 0, 0), (35, .iconst 0, 36, 0, 0, 0), (36, .istore 4, 38, 0, 0, 0), (38, .iload 4, 40, 0, 0, 0), (40, .aload_n 0, 41, 0, 0, 0), (41, .getfield 13, 44, 12, 1, 0), (44, .if_icmp .ge 27, 47, 71, 0, 0), (47, .iload_n 3, 48, 0, 0, 0)],
   [(48, .aload_n 0, 49, 0, 0, 0), (49, .getfield 38, 52, 12, 9, 0), (52, .iload 4, 54, 0, 0, 0), (54, .baload, 55, 0, 0, 0), (55, .ifCond .eq 7, 58, 62, 0, 0), (58, .iconst 1, 59, 0, 0, 1), (59, .goto 4, 62, 63, 0, 0), (62, .iconst 0, 63, 0, 0, 0), (63, .iadd, 64, 0, 0, 0)],
   [(64, .istore_n 3, 65, 0, 0, 0), (65, .iinc 4 1, 68, 0, 0, 1), (68, .goto (-30), 71, 38, 0, 0), (71, .iload_n 3, 72, 0, 0, 0), (72, .ireturn, 73, 0, 0, 0)]])
def mt_M_window : mj_T := (⟨"ExplainDifferenceModel", "window", "(II)I"⟩, prog_5_method_22_code, 3, some .int, 12, [],
  [[(0, .aload_n 0, 1, 0, 0, 0), (1, .iload_n 1, 2, 0, 0, 0), (2, .iconst 0, 3, 0, 0, 0), (3, .sipush 10000, 6, 0, 0, 10000), (6, .invokestatic 117, 9, 54, 3, 0), (9, .ifCond .ne 19, 12, 28, 0, 0), (12, .iload_n 2, 13, 0, 0, 0), (13, .iconst 0, 14, 0, 0, 0), (14, .sipush 10000, 17, 0, 0, 10000)],
   [(17, .invokestatic 117, 20, 54, 3, 0), (20, .ifCond .ne 8, 23, 28, 0, 0), (23, .iload_n 2, 24, 0, 0, 0), (24, .iload_n 1, 25, 0, 0, 0), (25, .if_icmp .ge 7, 28, 32, 0, 0), (28, .iconst 1, 29, 0, 0, 1), (29, .goto 4, 32, 33, 0, 0)],
   [(32, .iconst 0, 33, 0, 0, 0), (33, .putfield 7, 36, 12, 0, 0), (36, .aload_n 0, 37, 0, 0, 0), (37, .getfield 7, 40, 12, 0, 0), (40, .ifCond .eq 5, 43, 45, 0, 0), (43, .iconst 0, 44, 0, 0, 0), (44, .ireturn, 45, 0, 0, 0), (45, .aload_n 0, 46, 0, 0, 0), (46, .iload_n 1, 47, 0, 0, 0), (47, .putfield 42, 50, 12, 10, 0)],
   [(50, .aload_n 0, 51, 0, 0, 0), (51, .iload_n 2, 52, 0, 0, 0), (52, .putfield 45, 55, 12, 11, 0), (55, .aload_n 0, 56, 0, 0, 0), (56, .invokevirtual 128, 59, 62, 1, 0), (59, .ireturn, 60, 0, 0, 0)]])
def mt_M_counted : mj_T := (⟨"ExplainDifferenceModel", "counted", "(III)I"⟩, prog_5_method_23_code, 4, some .int, 12, [],
  [[(0, .aload_n 0, 1, 0, 0, 0), (1, .iload_n 1, 2, 0, 0, 0), (2, .iconst 0, 3, 0, 0, 0), (3, .bipush 9, 5, 0, 0, 9), (5, .invokestatic 117, 8, 54, 3, 0), (8, .ifCond .ne 22, 11, 30, 0, 0), (11, .iload_n 2, 12, 0, 0, 0), (12, .iconst 0, 13, 0, 0, 0), (13, .iconst 5, 14, 0, 0, 5), (14, .invokestatic 117, 17, 54, 3, 0)],
   [(17, .ifCond .ne 13, 20, 30, 0, 0), (20, .iload_n 3, 21, 0, 0, 0), (21, .iconst (-1), 22, 0, 0, (-1)), (22, .ldc 132, 24, 0, 0, 100000), (24, .invokestatic 117, 27, 54, 3, 0), (27, .ifCond .eq 7, 30, 34, 0, 0), (30, .iconst 1, 31, 0, 0, 1), (31, .goto 4, 34, 35, 0, 0)],
   [(34, .iconst 0, 35, 0, 0, 0), (35, .putfield 7, 38, 12, 0, 0), (38, .aload_n 0, 39, 0, 0, 0), (39, .getfield 7, 42, 12, 0, 0), (42, .ifCond .eq 5, 45, 47, 0, 0), (45, .iconst 0, 46, 0, 0, 0), (46, .ireturn, 47, 0, 0, 0), (47, .aload_n 0, 48, 0, 0, 0)],
   [(48, .getfield 48, 51, 12, 12, 0), (51, .bipush 6, 53, 0, 0, 6), (53, .iload_n 1, 54, 0, 0, 0), (54, .imul, 55, 0, 0, 0), (55, .iload_n 2, 56, 0, 0, 0), (56, .iadd, 57, 0, 0, 0), (57, .iload_n 3, 58, 0, 0, 0), (58, .iastore, 59, 0, 0, 0), (59, .aload_n 0, 60, 0, 0, 0), (60, .invokevirtual 133, 63, 59, 1, 0), (63, .ireturn, 64, 0, 0, 0)]])
def mt_M_expected : mj_T := (⟨"ExplainDifferenceModel", "expected", "(II)I"⟩, prog_5_method_24_code, 3, some .int, 12, [],
  [[(0, .aload_n 0, 1, 0, 0, 0), (1, .iload_n 1, 2, 0, 0, 0), (2, .iconst 0, 3, 0, 0, 0), (3, .bipush 9, 5, 0, 0, 9), (5, .invokestatic 117, 8, 54, 3, 0), (8, .ifCond .ne 12, 11, 20, 0, 0), (11, .iload_n 2, 12, 0, 0, 0), (12, .iconst 0, 13, 0, 0, 0), (13, .iconst 5, 14, 0, 0, 5), (14, .invokestatic 117, 17, 54, 3, 0)],
   [(17, .ifCond .eq 7, 20, 24, 0, 0), (20, .iconst 1, 21, 0, 0, 1), (21, .goto 4, 24, 25, 0, 0), (24, .iconst 0, 25, 0, 0, 0), (25, .putfield 7, 28, 12, 0, 0), (28, .aload_n 0, 29, 0, 0, 0), (29, .getfield 7, 32, 12, 0, 0)],
   [(32, .ifCond .eq 7, 35, 39, 0, 0), (35, .iconst 0, 36, 0, 0, 0), (36, .goto 13, 39, 49, 0, 0), (39, .aload_n 0, 40, 0, 0, 0), (40, .bipush 6, 42, 0, 0, 6), (42, .iload_n 1, 43, 0, 0, 0), (43, .imul, 44, 0, 0, 0), (44, .iload_n 2, 45, 0, 0, 0), (45, .iadd, 46, 0, 0, 0), (46, .invokevirtual 96, 49, 57, 2, 0)],
   [(49, .ireturn, 50, 0, 0, 0)]])
def mt_M_differ : mj_T := (⟨"ExplainDifferenceModel", "differ", "(II)I"⟩, prog_5_method_25_code, 5, some .int, 12, [],
  [[(0, .aload_n 0, 1, 0, 0, 0), (1, .iload_n 1, 2, 0, 0, 0), (2, .ifCond .lt 11, 5, 13, 0, 0), (5, .iload_n 1, 6, 0, 0, 0), (6, .aload_n 0, 7, 0, 0, 0), (7, .invokevirtual 133, 10, 59, 1, 0), (10, .if_icmp .lt 7, 13, 17, 0, 0), (13, .iconst 1, 14, 0, 0, 1), (14, .goto 17, 17, 31, 0, 0)],
   [(17, .iload_n 2, 18, 0, 0, 0), (18, .iconst 0, 19, 0, 0, 0), (19, .iconst 2, 20, 0, 0, 2), (20, .invokestatic 117, 23, 54, 3, 0), (23, .ifCond .eq 7, 26, 30, 0, 0), (26, .iconst 2, 27, 0, 0, 2), (27, .goto 4, 30, 31, 0, 0), (30, .iconst 0, 31, 0, 0, 0), (31, .putfield 7, 34, 12, 0, 0)],
   [(34, .aload_n 0, 35, 0, 0, 0), (35, .getfield 7, 38, 12, 0, 0), (38, .ifCond .eq 5, 41, 43, 0, 0), (41, .iconst 0, 42, 0, 0, 0), (42, .ireturn, 43, 0, 0, 0), (43, .iconst (-1), 44, 0, 0, (-1)), (44, .istore_n 3, 45, 0, 0, 0), (45, .iconst (-1), 46, 0, 0, (-1)), (46, .istore 4, 48, 0, 0, 0)],
   [(48, .iload_n 3, 49, 0, 0, 0), (49, .iload_n 1, 50, 0, 0, 0), (50, .if_icmp .ge 21, 53, 71, 0, 0), (53, .iinc 4 1, 56, 0, 0, 1), (56, .aload_n 0, 57, 0, 0, 0), (57, .iload 4, 59, 0, 0, 0), (59, .invokevirtual 99, 62, 58, 2, 0), (62, .ifCond .eq (-14), 65, 48, 0, 0)],
   [(65, .iinc 3 1, 68, 0, 0, 1), (68, .goto (-20), 71, 48, 0, 0), (71, .iload_n 2, 72, 0, 0, 0), (72, .ifCond .ne 11, 75, 83, 0, 0), (75, .iload 4, 77, 0, 0, 0), (77, .bipush 6, 79, 0, 0, 6), (79, .idiv, 80, 0, 0, 0)],
   [(80, .goto 22, 83, 102, 0, 0), (83, .iload_n 2, 84, 0, 0, 0), (84, .iconst 1, 85, 0, 0, 1), (85, .if_icmp .ne 11, 88, 96, 0, 0), (88, .iload 4, 90, 0, 0, 0), (90, .bipush 6, 92, 0, 0, 6), (92, .irem, 93, 0, 0, 0), (93, .goto 9, 96, 102, 0, 0)],
   [(96, .aload_n 0, 97, 0, 0, 0), (97, .iload 4, 99, 0, 0, 0), (99, .invokevirtual 99, 102, 58, 2, 0), (102, .ireturn, 103, 0, 0, 0)]])
def mt_M_search : mj_T := (⟨"ExplainDifferenceModel", "search", "(II)I"⟩, prog_5_method_26_code, 4, some .int, 12, [],
  [[(0, .aload_n 0, 1, 0, 0, 0), (1, .iload_n 1, 2, 0, 0, 0), (2, .iconst 1, 3, 0, 0, 1), (3, .iconst 4, 4, 0, 0, 4), (4, .invokestatic 117, 7, 54, 3, 0), (7, .ifCond .ne 14, 10, 21, 0, 0), (10, .iload_n 2, 11, 0, 0, 0), (11, .iconst 0, 12, 0, 0, 0), (12, .sipush 20000, 15, 0, 0, 20000), (15, .invokestatic 117, 18, 54, 3, 0)],
   [(18, .ifCond .eq 7, 21, 25, 0, 0), (21, .iconst 1, 22, 0, 0, 1), (22, .goto 4, 25, 26, 0, 0), (25, .iconst 0, 26, 0, 0, 0), (26, .putfield 7, 29, 12, 0, 0), (29, .aload_n 0, 30, 0, 0, 0), (30, .getfield 7, 33, 12, 0, 0)],
   [(33, .ifCond .eq 5, 36, 38, 0, 0), (36, .iconst 0, 37, 0, 0, 0), (37, .ireturn, 38, 0, 0, 0), (38, .aload_n 0, 39, 0, 0, 0), (39, .iconst 0, 40, 0, 0, 0), (40, .putfield 64, 43, 12, 17, 0), (43, .aload_n 0, 44, 0, 0, 0), (44, .iconst 0, 45, 0, 0, 0), (45, .putfield 58, 48, 12, 15, 0)],
   [(48, .aload_n 0, 49, 0, 0, 0), (49, .iconst 0, 50, 0, 0, 0), (50, .putfield 55, 53, 12, 14, 0), (53, .aload_n 0, 54, 0, 0, 0), (54, .iconst 1, 55, 0, 0, 1), (55, .putfield 51, 58, 12, 13, 1), (58, .aload_n 0, 59, 0, 0, 0), (59, .iconst 0, 60, 0, 0, 0), (60, .putfield 73, 63, 12, 20, 0), (63, .aload_n 0, 64, 0, 0, 0)],
   [(64, .iconst 0, 65, 0, 0, 0), (65, .putfield 76, 68, 12, 21, 0), (68, .iconst 0, 69, 0, 0, 0), (69, .istore_n 3, 70, 0, 0, 0), (70, .iload_n 3, 71, 0, 0, 0), (71, .bipush 24, 73, 0, 0, 24), (73, .if_icmp .ge 52, 76, 125, 0, 0), (76, .aload_n 0, 77, 0, 0, 0), (77, .getfield 61, 80, 12, 16, 0)],
   [(80, .iload_n 3, 81, 0, 0, 0), (81, .iconst 0, 82, 0, 0, 0), (82, .iastore, 83, 0, 0, 0), (83, .iload_n 3, 84, 0, 0, 0), (84, .aload_n 0, 85, 0, 0, 0), (85, .getfield 13, 88, 12, 1, 0), (88, .if_icmp .ge 31, 91, 119, 0, 0), (91, .aload_n 0, 92, 0, 0, 0), (92, .iload_n 3, 93, 0, 0, 0), (93, .invokevirtual 102, 96, 61, 2, 0)],
   [(96, .ifCond .eq 23, 99, 119, 0, 0), (99, .aload_n 0, 100, 0, 0, 0), (100, .getfield 79, 103, 12, 22, 0), (103, .aload_n 0, 104, 0, 0, 0), (104, .getfield 76, 107, 12, 21, 0), (107, .iload_n 3, 108, 0, 0, 0), (108, .iastore, 109, 0, 0, 0), (109, .aload_n 0, 110, 0, 0, 0), (110, .dup, 111, 0, 0, 0), (111, .getfield 76, 114, 12, 21, 0)],
   [(114, .iconst 1, 115, 0, 0, 1), (115, .iadd, 116, 0, 0, 0), (116, .putfield 76, 119, 12, 21, 0), (119, .iinc 3 1, 122, 0, 0, 1), (122, .goto (-52), 125, 70, 0, 0), (125, .iconst 0, 126, 0, 0, 0), (126, .istore_n 3, 127, 0, 0, 0), (127, .iload_n 3, 128, 0, 0, 0)],
   [(128, .bipush 60, 130, 0, 0, 60), (130, .if_icmp .ge 43, 133, 173, 0, 0), (133, .aload_n 0, 134, 0, 0, 0), (134, .getfield 70, 137, 12, 19, 0), (137, .iload_n 3, 138, 0, 0, 0), (138, .aload_n 0, 139, 0, 0, 0), (139, .iload_n 3, 140, 0, 0, 0), (140, .invokevirtual 99, 143, 58, 2, 0), (143, .iastore, 144, 0, 0, 0)],
   [(144, .aload_n 0, 145, 0, 0, 0), (145, .dup, 146, 0, 0, 0), (146, .getfield 73, 149, 12, 20, 0), (149, .aload_n 0, 150, 0, 0, 0), (150, .getfield 70, 153, 12, 19, 0), (153, .iload_n 3, 154, 0, 0, 0), (154, .iaload, 155, 0, 0, 0), (155, .ifCond .eq 7, 158, 162, 0, 0), (158, .iconst 1, 159, 0, 0, 1), (159, .goto 4, 162, 163, 0, 0)],
   [(162, .iconst 0, 163, 0, 0, 0), (163, .iadd, 164, 0, 0, 0), (164, .putfield 73, 167, 12, 20, 0), (167, .iinc 3 1, 170, 0, 0, 1), (170, .goto (-43), 173, 127, 0, 0), (173, .aload_n 0, 174, 0, 0, 0), (174, .getfield 73, 177, 12, 20, 0)],
   [(177, .ifCond .ne 5, 180, 182, 0, 0), (180, .iconst 0, 181, 0, 0, 0), (181, .ireturn, 182, 0, 0, 0), (182, .iconst 1, 183, 0, 0, 1), (183, .istore_n 3, 184, 0, 0, 0), (184, .iload_n 3, 185, 0, 0, 0), (185, .iload_n 1, 186, 0, 0, 0), (186, .if_icmp .gt 33, 189, 219, 0, 0), (189, .aload_n 0, 190, 0, 0, 0), (190, .getfield 51, 193, 12, 13, 0)],
   [(193, .ifCond .eq 26, 196, 219, 0, 0), (196, .aload_n 0, 197, 0, 0, 0), (197, .getfield 58, 200, 12, 15, 0), (200, .ifCond .ne 19, 203, 219, 0, 0), (203, .aload_n 0, 204, 0, 0, 0), (204, .aload_n 0, 205, 0, 0, 0), (205, .iload_n 3, 206, 0, 0, 0), (206, .iload_n 2, 207, 0, 0, 0), (207, .invokevirtual 136, 210, 66, 3, 0)],
   [(210, .putfield 51, 213, 12, 13, 1), (213, .iinc 3 1, 216, 0, 0, 1), (216, .goto (-32), 219, 184, 0, 0), (219, .aload_n 0, 220, 0, 0, 0), (220, .getfield 58, 223, 12, 15, 0), (223, .ifCond .ne 7, 226, 230, 0, 0)],
   [(226, .iconst (-1), 227, 0, 0, (-1)), (227, .goto 7, 230, 234, 0, 0), (230, .aload_n 0, 231, 0, 0, 0), (231, .getfield 64, 234, 12, 17, 0), (234, .ireturn, 235, 0, 0, 0)]])
def mt_M_exact : mj_T := (⟨"ExplainDifferenceModel", "exact", "()Z"⟩, prog_5_method_27_code, 1, some .boolean, 12, [],
  [[(0, .aload_n 0, 1, 0, 0, 0), (1, .iconst 0, 2, 0, 0, 0), (2, .putfield 7, 5, 12, 0, 0), (5, .aload_n 0, 6, 0, 0, 0), (6, .getfield 51, 9, 12, 13, 0), (9, .ireturn, 10, 0, 0, 0)]])
def mt_M_steps : mj_T := (⟨"ExplainDifferenceModel", "steps", "()I"⟩, prog_5_method_28_code, 1, some .int, 12, [],
  [[(0, .aload_n 0, 1, 0, 0, 0), (1, .iconst 0, 2, 0, 0, 0), (2, .putfield 7, 5, 12, 0, 0), (5, .aload_n 0, 6, 0, 0, 0), (6, .getfield 55, 9, 12, 14, 0), (9, .ireturn, 10, 0, 0, 0)]])
def mt_M_ties : mj_T := (⟨"ExplainDifferenceModel", "ties", "()I"⟩, prog_5_method_29_code, 1, some .int, 12, [],
  [[(0, .aload_n 0, 1, 0, 0, 0), (1, .iconst 0, 2, 0, 0, 0), (2, .putfield 7, 5, 12, 0, 0), (5, .aload_n 0, 6, 0, 0, 0), (6, .getfield 58, 9, 12, 15, 0), (9, .ireturn, 10, 0, 0, 0)]])
def mt_M_often : mj_T := (⟨"ExplainDifferenceModel", "often", "(I)I"⟩, prog_5_method_30_code, 2, some .int, 12, [],
  [[(0, .aload_n 0, 1, 0, 0, 0), (1, .aload_n 0, 2, 0, 0, 0), (2, .iload_n 1, 3, 0, 0, 0), (3, .invokevirtual 125, 6, 72, 2, 0), (6, .ifCond .eq 7, 9, 13, 0, 0), (9, .iconst 1, 10, 0, 0, 1), (10, .goto 4, 13, 14, 0, 0), (13, .iconst 0, 14, 0, 0, 0), (14, .putfield 7, 17, 12, 0, 0)],
   [(17, .aload_n 0, 18, 0, 0, 0), (18, .getfield 7, 21, 12, 0, 0), (21, .ifCond .eq 7, 24, 28, 0, 0), (24, .iconst 0, 25, 0, 0, 0), (25, .goto 9, 28, 34, 0, 0), (28, .aload_n 0, 29, 0, 0, 0), (29, .getfield 61, 32, 12, 16, 0)],
   [(32, .iload_n 1, 33, 0, 0, 0), (33, .iaload, 34, 0, 0, 0), (34, .ireturn, 35, 0, 0, 0)]])
def mt_M_found : mj_T := (⟨"ExplainDifferenceModel", "found", "(II)I"⟩, prog_5_method_31_code, 3, some .int, 12, [],
  [[(0, .aload_n 0, 1, 0, 0, 0), (1, .iload_n 1, 2, 0, 0, 0), (2, .ifCond .lt 11, 5, 13, 0, 0), (5, .iload_n 1, 6, 0, 0, 0), (6, .aload_n 0, 7, 0, 0, 0), (7, .getfield 64, 10, 12, 17, 0), (10, .if_icmp .lt 7, 13, 17, 0, 0), (13, .iconst 1, 14, 0, 0, 1), (14, .goto 17, 17, 31, 0, 0)],
   [(17, .iload_n 2, 18, 0, 0, 0), (18, .iconst 0, 19, 0, 0, 0), (19, .iconst 1, 20, 0, 0, 1), (20, .invokestatic 117, 23, 54, 3, 0), (23, .ifCond .eq 7, 26, 30, 0, 0), (26, .iconst 2, 27, 0, 0, 2), (27, .goto 4, 30, 31, 0, 0), (30, .iconst 0, 31, 0, 0, 0), (31, .putfield 7, 34, 12, 0, 0)],
   [(34, .aload_n 0, 35, 0, 0, 0), (35, .getfield 7, 38, 12, 0, 0), (38, .ifCond .eq 5, 41, 43, 0, 0), (41, .iconst 0, 42, 0, 0, 0), (42, .ireturn, 43, 0, 0, 0), (43, .iload_n 2, 44, 0, 0, 0), (44, .ifCond .ne 14, 47, 58, 0, 0), (47, .aload_n 0, 48, 0, 0, 0)],
   [(48, .getfield 67, 51, 12, 18, 0), (51, .iload_n 1, 52, 0, 0, 0), (52, .iaload, 53, 0, 0, 0), (53, .iconst 2, 54, 0, 0, 2), (54, .idiv, 55, 0, 0, 0), (55, .goto 11, 58, 66, 0, 0), (58, .aload_n 0, 59, 0, 0, 0), (59, .getfield 67, 62, 12, 18, 0), (62, .iload_n 1, 63, 0, 0, 0), (63, .iaload, 64, 0, 0, 0)],
   [(64, .iconst 2, 65, 0, 0, 2), (65, .irem, 66, 0, 0, 0), (66, .ireturn, 67, 0, 0, 0)]])
def mt_M_accept : mj_T := (⟨"ExplainDifferenceModel", "accept", "()I"⟩, prog_5_method_32_code, 2, some .int, 12, [],
  [[(0, .aload_n 0, 1, 0, 0, 0), (1, .aload_n 0, 2, 0, 0, 0), (2, .getfield 64, 5, 12, 17, 0), (5, .ifCond .ne 7, 8, 12, 0, 0), (8, .iconst 1, 9, 0, 0, 1), (9, .goto 4, 12, 13, 0, 0), (12, .iconst 0, 13, 0, 0, 0), (13, .putfield 7, 16, 12, 0, 0)],
   [(16, .iconst 0, 17, 0, 0, 0), (17, .istore_n 1, 18, 0, 0, 0), (18, .iload_n 1, 19, 0, 0, 0), (19, .aload_n 0, 20, 0, 0, 0), (20, .getfield 64, 23, 12, 17, 0), (23, .if_icmp .ge 30, 26, 53, 0, 0), (26, .aload_n 0, 27, 0, 0, 0), (27, .getfield 35, 30, 12, 8, 0), (30, .aload_n 0, 31, 0, 0, 0), (31, .getfield 67, 34, 12, 18, 0)],
   [(34, .iload_n 1, 35, 0, 0, 0), (35, .iaload, 36, 0, 0, 0), (36, .iconst 2, 37, 0, 0, 2), (37, .idiv, 38, 0, 0, 0), (38, .iaload, 39, 0, 0, 0), (39, .ifCond .eq 8, 42, 47, 0, 0), (42, .aload_n 0, 43, 0, 0, 0), (43, .iconst 1, 44, 0, 0, 1), (44, .putfield 7, 47, 12, 0, 0), (47, .iinc 1 1, 50, 0, 0, 1)],
   [(50, .goto (-32), 53, 18, 0, 0), (53, .aload_n 0, 54, 0, 0, 0), (54, .getfield 7, 57, 12, 0, 0), (57, .ifCond .eq 5, 60, 62, 0, 0), (60, .iconst 0, 61, 0, 0, 0), (61, .ireturn, 62, 0, 0, 0), (62, .iconst 0, 63, 0, 0, 0), (63, .istore_n 1, 64, 0, 0, 0)],
   [(64, .iload_n 1, 65, 0, 0, 0), (65, .aload_n 0, 66, 0, 0, 0), (66, .getfield 64, 69, 12, 17, 0), (69, .if_icmp .ge 32, 72, 101, 0, 0), (72, .aload_n 0, 73, 0, 0, 0), (73, .getfield 35, 76, 12, 8, 0), (76, .aload_n 0, 77, 0, 0, 0), (77, .getfield 67, 80, 12, 18, 0)],
   [(80, .iload_n 1, 81, 0, 0, 0), (81, .iaload, 82, 0, 0, 0), (82, .iconst 2, 83, 0, 0, 2), (83, .idiv, 84, 0, 0, 0), (84, .iconst 1, 85, 0, 0, 1), (85, .aload_n 0, 86, 0, 0, 0), (86, .getfield 67, 89, 12, 18, 0), (89, .iload_n 1, 90, 0, 0, 0), (90, .iaload, 91, 0, 0, 0), (91, .iconst 2, 92, 0, 0, 2), (92, .irem, 93, 0, 0, 0), (93, .iadd, 94, 0, 0, 0), (94, .iastore, 95, 0, 0, 0), (95, .iinc 1 1, 98, 0, 0, 1)],
   [(98, .goto (-34), 101, 64, 0, 0), (101, .aload_n 0, 102, 0, 0, 0), (102, .iconst 0, 103, 0, 0, 0), (103, .putfield 64, 106, 12, 17, 0), (106, .aload_n 0, 107, 0, 0, 0), (107, .invokevirtual 133, 110, 59, 1, 0), (110, .ireturn, 111, 0, 0, 0)]])
def mt_M_back : mj_T := (⟨"ExplainDifferenceModel", "back", "(I)I"⟩, prog_5_method_33_code, 2, some .int, 12, [],
  [[(0, .aload_n 0, 1, 0, 0, 0), (1, .aload_n 0, 2, 0, 0, 0), (2, .iload_n 1, 3, 0, 0, 0), (3, .invokevirtual 125, 6, 72, 2, 0), (6, .ifCond .eq 7, 9, 13, 0, 0), (9, .iconst 1, 10, 0, 0, 1), (10, .goto 17, 13, 27, 0, 0), (13, .aload_n 0, 14, 0, 0, 0), (14, .getfield 35, 17, 12, 8, 0)],
   [(17, .iload_n 1, 18, 0, 0, 0), (18, .iaload, 19, 0, 0, 0), (19, .ifCond .ne 7, 22, 26, 0, 0), (22, .iconst 2, 23, 0, 0, 2), (23, .goto 4, 26, 27, 0, 0), (26, .iconst 0, 27, 0, 0, 0), (27, .putfield 7, 30, 12, 0, 0), (30, .aload_n 0, 31, 0, 0, 0), (31, .getfield 7, 34, 12, 0, 0)],
   [(34, .ifCond .eq 5, 37, 39, 0, 0), (37, .iconst 0, 38, 0, 0, 0), (38, .ireturn, 39, 0, 0, 0), (39, .aload_n 0, 40, 0, 0, 0), (40, .getfield 35, 43, 12, 8, 0), (43, .iload_n 1, 44, 0, 0, 0), (44, .iconst 0, 45, 0, 0, 0), (45, .iastore, 46, 0, 0, 0), (46, .aload_n 0, 47, 0, 0, 0), (47, .invokevirtual 133, 50, 59, 1, 0)],
   [(50, .ireturn, 51, 0, 0, 0)]])
def mt_M_share : mj_T := (⟨"ExplainDifferenceModel", "share", "(II)I"⟩, prog_5_method_34_code, 3, some .int, 12, [],
  [[(0, .aload_n 0, 1, 0, 0, 0), (1, .iload_n 1, 2, 0, 0, 0), (2, .ifCond .lt 13, 5, 15, 0, 0), (5, .iload_n 2, 6, 0, 0, 0), (6, .ifCond .lt 9, 9, 15, 0, 0), (9, .iload_n 1, 10, 0, 0, 0), (10, .ldc 140, 12, 0, 0, 1000000), (12, .if_icmp .le 7, 15, 19, 0, 0), (15, .iconst 1, 16, 0, 0, 1)],
   [(16, .goto 12, 19, 28, 0, 0), (19, .iload_n 2, 20, 0, 0, 0), (20, .ifCond .ne 7, 23, 27, 0, 0), (23, .iconst 2, 24, 0, 0, 2), (24, .goto 4, 27, 28, 0, 0), (27, .iconst 0, 28, 0, 0, 0), (28, .putfield 7, 31, 12, 0, 0), (31, .aload_n 0, 32, 0, 0, 0)],
   [(32, .getfield 7, 35, 12, 0, 0), (35, .ifCond .eq 7, 38, 42, 0, 0), (38, .iconst 0, 39, 0, 0, 0), (39, .goto 9, 42, 48, 0, 0), (42, .bipush 100, 44, 0, 0, 100), (44, .iload_n 1, 45, 0, 0, 0), (45, .imul, 46, 0, 0, 0), (46, .iload_n 2, 47, 0, 0, 0), (47, .idiv, 48, 0, 0, 0)],
   [(48, .ireturn, 49, 0, 0, 0)]])
def mt_M_told : mj_T := (⟨"ExplainDifferenceModel", "told", "(II)I"⟩, prog_5_method_35_code, 3, some .int, 12, [],
  [[(0, .aload_n 0, 1, 0, 0, 0), (1, .aload_n 0, 2, 0, 0, 0), (2, .iload_n 1, 3, 0, 0, 0), (3, .invokevirtual 125, 6, 72, 2, 0), (6, .ifCond .eq 7, 9, 13, 0, 0), (9, .iconst 1, 10, 0, 0, 1), (10, .goto 18, 13, 28, 0, 0), (13, .iload_n 2, 14, 0, 0, 0), (14, .iconst 0, 15, 0, 0, 0), (15, .bipush 8, 17, 0, 0, 8)],
   [(17, .invokestatic 117, 20, 54, 3, 0), (20, .ifCond .eq 7, 23, 27, 0, 0), (23, .iconst 2, 24, 0, 0, 2), (24, .goto 4, 27, 28, 0, 0), (27, .iconst 0, 28, 0, 0, 0), (28, .putfield 7, 31, 12, 0, 0), (31, .aload_n 0, 32, 0, 0, 0)],
   [(32, .getfield 7, 35, 12, 0, 0), (35, .ifCond .eq 5, 38, 40, 0, 0), (38, .iconst 0, 39, 0, 0, 0), (39, .ireturn, 40, 0, 0, 0), (40, .iload_n 2, 41, 0, 0, 0), (41, .tableswitch 111 0 7 #[47, 54, 61, 68, 75, 82, 89, 96], 88, 0, 0, 0)],
   [],
   [],
   [(88, .aload_n 0, 89, 0, 0, 0), (89, .getfield 16, 92, 12, 2, 0), (92, .iload_n 1, 93, 0, 0, 0), (93, .iaload, 94, 0, 0, 0), (94, .ireturn, 95, 0, 0, 0), (95, .aload_n 0, 96, 0, 0, 0)],
   [(96, .getfield 20, 99, 12, 3, 0), (99, .iload_n 1, 100, 0, 0, 0), (100, .iaload, 101, 0, 0, 0), (101, .ireturn, 102, 0, 0, 0), (102, .aload_n 0, 103, 0, 0, 0), (103, .getfield 23, 106, 12, 4, 0), (106, .iload_n 1, 107, 0, 0, 0), (107, .iaload, 108, 0, 0, 0), (108, .ireturn, 109, 0, 0, 0), (109, .aload_n 0, 110, 0, 0, 0), (110, .getfield 26, 113, 12, 5, 0)],
   [(113, .iload_n 1, 114, 0, 0, 0), (114, .iaload, 115, 0, 0, 0), (115, .ireturn, 116, 0, 0, 0), (116, .aload_n 0, 117, 0, 0, 0), (117, .getfield 29, 120, 12, 6, 0), (120, .iload_n 1, 121, 0, 0, 0), (121, .iaload, 122, 0, 0, 0), (122, .ireturn, 123, 0, 0, 0), (123, .aload_n 0, 124, 0, 0, 0), (124, .getfield 32, 127, 12, 7, 0), (127, .iload_n 1, 128, 0, 0, 0)],
   [(128, .iaload, 129, 0, 0, 0), (129, .ireturn, 130, 0, 0, 0), (130, .aload_n 0, 131, 0, 0, 0), (131, .getfield 35, 134, 12, 8, 0), (134, .iload_n 1, 135, 0, 0, 0), (135, .iaload, 136, 0, 0, 0), (136, .ireturn, 137, 0, 0, 0), (137, .aload_n 0, 138, 0, 0, 0), (138, .getfield 38, 141, 12, 9, 0), (141, .iload_n 1, 142, 0, 0, 0), (142, .baload, 143, 0, 0, 0), (143, .ifCond .eq 7, 146, 150, 0, 0)],
   [(146, .iconst 1, 147, 0, 0, 1), (147, .goto 4, 150, 151, 0, 0), (150, .iconst 0, 151, 0, 0, 0), (151, .ireturn, 152, 0, 0, 0), (152, .aload_n 0, 153, 0, 0, 0), (153, .iload_n 1, 154, 0, 0, 0), (154, .invokevirtual 102, 157, 61, 2, 0), (157, .ifCond .eq 7, 160, 164, 0, 0)],
   [(160, .iconst 1, 161, 0, 0, 1), (161, .goto 4, 164, 165, 0, 0), (164, .iconst 0, 165, 0, 0, 0), (165, .ireturn, 166, 0, 0, 0)]])
def mt_M_of : mj_T := (⟨"ExplainDifferenceModel", "of", "(III)I"⟩, prog_5_method_36_code, 6, some .int, 12, [],
  [[(0, .aload_n 0, 1, 0, 0, 0), (1, .iload_n 1, 2, 0, 0, 0), (2, .iconst 0, 3, 0, 0, 0), (3, .bipush 9, 5, 0, 0, 9), (5, .invokestatic 117, 8, 54, 3, 0), (8, .ifCond .ne 16, 11, 24, 0, 0), (11, .iload_n 2, 12, 0, 0, 0), (12, .iconst 0, 13, 0, 0, 0), (13, .iconst 5, 14, 0, 0, 5), (14, .invokestatic 117, 17, 54, 3, 0)],
   [(17, .ifCond .ne 7, 20, 24, 0, 0), (20, .iload_n 3, 21, 0, 0, 0), (21, .ifCond .ge 7, 24, 28, 0, 0), (24, .iconst 1, 25, 0, 0, 1), (25, .goto 4, 28, 29, 0, 0), (28, .iconst 0, 29, 0, 0, 0), (29, .putfield 7, 32, 12, 0, 0)],
   [(32, .aload_n 0, 33, 0, 0, 0), (33, .getfield 7, 36, 12, 0, 0), (36, .ifCond .eq 5, 39, 41, 0, 0), (39, .iconst 0, 40, 0, 0, 0), (40, .ireturn, 41, 0, 0, 0), (41, .iconst 0, 42, 0, 0, 0), (42, .istore 4, 44, 0, 0, 0), (44, .iconst 0, 45, 0, 0, 0), (45, .istore 5, 47, 0, 0, 0), (47, .iload 5, 49, 0, 0, 0)],
   [(49, .aload_n 0, 50, 0, 0, 0), (50, .getfield 13, 53, 12, 1, 0), (53, .if_icmp .ge 36, 56, 89, 0, 0), (56, .aload_n 0, 57, 0, 0, 0), (57, .iload 5, 59, 0, 0, 0), (59, .bipush 6, 61, 0, 0, 6), (61, .iload_n 1, 62, 0, 0, 0), (62, .imul, 63, 0, 0, 0), (63, .iload_n 2, 64, 0, 0, 0)],
   [(64, .iadd, 65, 0, 0, 0), (65, .invokevirtual 141, 68, 60, 3, 0), (68, .ifCond .eq 15, 71, 83, 0, 0), (71, .iload 4, 73, 0, 0, 0), (73, .iload_n 3, 74, 0, 0, 0), (74, .if_icmp .ne 6, 77, 80, 0, 0), (77, .iload 5, 79, 0, 0, 0), (79, .ireturn, 80, 0, 0, 0)],
   [(80, .iinc 4 1, 83, 0, 0, 1), (83, .iinc 5 1, 86, 0, 0, 1), (86, .goto (-39), 89, 47, 0, 0), (89, .iconst (-1), 90, 0, 0, (-1)), (90, .ireturn, 91, 0, 0, 0)]])
def mt_M_count : mj_T := (⟨"ExplainDifferenceModel", "count", "(I)I"⟩, prog_5_method_37_code, 7, some .int, 12, [],
  [[(0, .aload_n 0, 1, 0, 0, 0), (1, .iconst 0, 2, 0, 0, 0), (2, .putfield 7, 5, 12, 0, 0), (5, .iconst 0, 6, 0, 0, 0), (6, .istore_n 2, 7, 0, 0, 0), (7, .iconst 0, 8, 0, 0, 0), (8, .istore_n 3, 9, 0, 0, 0), (9, .iconst 0, 10, 0, 0, 0), (10, .istore 4, 12, 0, 0, 0), (12, .iload 4, 14, 0, 0, 0), (14, .bipush 60, 16, 0, 0, 60)],
   [(16, .if_icmp .ge 51, 19, 67, 0, 0), (19, .aload_n 0, 20, 0, 0, 0), (20, .iload 4, 22, 0, 0, 0), (22, .invokevirtual 99, 25, 58, 2, 0), (25, .istore 5, 27, 0, 0, 0), (27, .iload_n 2, 28, 0, 0, 0), (28, .iload 5, 30, 0, 0, 0), (30, .ifCond .ge 9, 33, 39, 0, 0)],
   [(33, .iload 5, 35, 0, 0, 0), (35, .ineg, 36, 0, 0, 0), (36, .goto 5, 39, 41, 0, 0), (39, .iload 5, 41, 0, 0, 0), (41, .iadd, 42, 0, 0, 0), (42, .istore_n 2, 43, 0, 0, 0), (43, .iload_n 3, 44, 0, 0, 0), (44, .aload_n 0, 45, 0, 0, 0), (45, .getfield 48, 48, 12, 12, 0)],
   [(48, .iload 4, 50, 0, 0, 0), (50, .iaload, 51, 0, 0, 0), (51, .ifCond .lt 7, 54, 58, 0, 0), (54, .iconst 1, 55, 0, 0, 1), (55, .goto 4, 58, 59, 0, 0), (58, .iconst 0, 59, 0, 0, 0), (59, .iadd, 60, 0, 0, 0), (60, .istore_n 3, 61, 0, 0, 0), (61, .iinc 4 1, 64, 0, 0, 1)],
   [(64, .goto (-52), 67, 12, 0, 0), (67, .iconst 0, 68, 0, 0, 0), (68, .istore 4, 70, 0, 0, 0), (70, .iconst 0, 71, 0, 0, 0), (71, .istore 5, 73, 0, 0, 0), (73, .iconst 0, 74, 0, 0, 0), (74, .istore 6, 76, 0, 0, 0), (76, .iload 6, 78, 0, 0, 0), (78, .aload_n 0, 79, 0, 0, 0), (79, .getfield 13, 82, 12, 1, 0)],
   [(82, .if_icmp .ge 51, 85, 133, 0, 0), (85, .iload 4, 87, 0, 0, 0), (87, .aload_n 0, 88, 0, 0, 0), (88, .getfield 35, 91, 12, 8, 0), (91, .iload 6, 93, 0, 0, 0), (93, .iaload, 94, 0, 0, 0), (94, .iconst 1, 95, 0, 0, 1), (95, .if_icmp .ne 7, 98, 102, 0, 0)],
   [(98, .iconst 1, 99, 0, 0, 1), (99, .goto 4, 102, 103, 0, 0), (102, .iconst 0, 103, 0, 0, 0), (103, .iadd, 104, 0, 0, 0), (104, .istore 4, 106, 0, 0, 0), (106, .iload 5, 108, 0, 0, 0), (108, .aload_n 0, 109, 0, 0, 0), (109, .getfield 35, 112, 12, 8, 0)],
   [(112, .iload 6, 114, 0, 0, 0), (114, .iaload, 115, 0, 0, 0), (115, .iconst 2, 116, 0, 0, 2), (116, .if_icmp .ne 7, 119, 123, 0, 0), (119, .iconst 1, 120, 0, 0, 1), (120, .goto 4, 123, 124, 0, 0), (123, .iconst 0, 124, 0, 0, 0), (124, .iadd, 125, 0, 0, 0), (125, .istore 5, 127, 0, 0, 0), (127, .iinc 6 1, 130, 0, 0, 1)],
   [(130, .goto (-54), 133, 76, 0, 0), (133, .iload_n 1, 134, 0, 0, 0), (134, .tableswitch 76 0 7 #[46, 51, 56, 58, 63, 66, 69, 71], 180, 0, 0, 0)],
   [],
   [],
   [(180, .aload_n 0, 181, 0, 0, 0), (181, .getfield 13, 184, 12, 1, 0), (184, .ireturn, 185, 0, 0, 0), (185, .aload_n 0, 186, 0, 0, 0), (186, .invokevirtual 133, 189, 59, 1, 0), (189, .ireturn, 190, 0, 0, 0), (190, .iload_n 2, 191, 0, 0, 0), (191, .ireturn, 192, 0, 0, 0)],
   [(192, .aload_n 0, 193, 0, 0, 0), (193, .invokevirtual 128, 196, 62, 1, 0), (196, .ireturn, 197, 0, 0, 0), (197, .iload 4, 199, 0, 0, 0), (199, .ireturn, 200, 0, 0, 0), (200, .iload 5, 202, 0, 0, 0), (202, .ireturn, 203, 0, 0, 0), (203, .iload_n 3, 204, 0, 0, 0), (204, .ireturn, 205, 0, 0, 0), (205, .aload_n 0, 206, 0, 0, 0), (206, .getfield 64, 209, 12, 17, 0)],
   [(209, .ireturn, 210, 0, 0, 0), (210, .iconst (-1), 211, 0, 0, (-1)), (211, .ireturn, 212, 0, 0, 0)]])
def mt_W_put : mj_T := (⟨"ExplainDifferenceLaw", "put", "(LExplainDifference;IIII[J)I"⟩, method_3_code, 7, some .int, 0, [(0, 14, 17, 13, 0, 19, 6), (0, 14, 21, 15, 1, 23, 6)],
  [[(0, .aload 5, 2, 0, 0, 0), (2, .iconst 0, 3, 0, 0, 0), (3, .aload_n 0, 4, 0, 0, 0), (4, .iload_n 1, 5, 0, 0, 0), (5, .iload_n 2, 6, 0, 0, 0), (6, .iload_n 3, 7, 0, 0, 0), (7, .iload 4, 9, 0, 0, 0), (9, .invokevirtual 7, 12, 26, 5, 0), (12, .i2l, 13, 0, 0, 0), (13, .lastore, 14, 0, 0, 0), (14, .goto 11, 17, 25, 0, 0)],
   [(17, .astore 6, 19, 0, 0, 0), (19, .iconst 1, 20, 0, 0, 1), (20, .ireturn, 21, 0, 0, 0), (21, .astore 6, 23, 0, 0, 0), (23, .iconst 2, 24, 0, 0, 2), (24, .ireturn, 25, 0, 0, 0), (25, .iconst 0, 26, 0, 0, 0), (26, .ireturn, 27, 0, 0, 0)]])
def mt_W_take : mj_T := (⟨"ExplainDifferenceLaw", "take", "(LExplainDifference;IIII[J)I"⟩, method_4_code, 7, some .int, 0, [(0, 14, 17, 13, 0, 19, 6), (0, 14, 21, 15, 1, 23, 6)],
  [[(0, .aload 5, 2, 0, 0, 0), (2, .iconst 0, 3, 0, 0, 0), (3, .aload_n 0, 4, 0, 0, 0), (4, .iload_n 1, 5, 0, 0, 0), (5, .iload_n 2, 6, 0, 0, 0), (6, .iload_n 3, 7, 0, 0, 0), (7, .iload 4, 9, 0, 0, 0), (9, .invokevirtual 17, 12, 27, 5, 0), (12, .i2l, 13, 0, 0, 0), (13, .lastore, 14, 0, 0, 0), (14, .goto 11, 17, 25, 0, 0)],
   [(17, .astore 6, 19, 0, 0, 0), (19, .iconst 1, 20, 0, 0, 1), (20, .ireturn, 21, 0, 0, 0), (21, .astore 6, 23, 0, 0, 0), (23, .iconst 2, 24, 0, 0, 2), (24, .ireturn, 25, 0, 0, 0), (25, .iconst 0, 26, 0, 0, 0), (26, .ireturn, 27, 0, 0, 0)]])
def mt_W_move : mj_T := (⟨"ExplainDifferenceLaw", "move", "(LExplainDifference;IIIII[J)I"⟩, method_5_code, 8, some .int, 0, [(0, 16, 19, 13, 0, 21, 7), (0, 16, 23, 15, 1, 25, 7)],
  [[(0, .aload 6, 2, 0, 0, 0), (2, .iconst 0, 3, 0, 0, 0), (3, .aload_n 0, 4, 0, 0, 0), (4, .iload_n 1, 5, 0, 0, 0), (5, .iload_n 2, 6, 0, 0, 0), (6, .iload_n 3, 7, 0, 0, 0), (7, .iload 4, 9, 0, 0, 0), (9, .iload 5, 11, 0, 0, 0), (11, .invokevirtual 20, 14, 28, 6, 0), (14, .i2l, 15, 0, 0, 0), (15, .lastore, 16, 0, 0, 0)],
   [(16, .goto 11, 19, 27, 0, 0), (19, .astore 7, 21, 0, 0, 0), (21, .iconst 1, 22, 0, 0, 1), (22, .ireturn, 23, 0, 0, 0), (23, .astore 7, 25, 0, 0, 0), (25, .iconst 2, 26, 0, 0, 2), (26, .ireturn, 27, 0, 0, 0), (27, .iconst 0, 28, 0, 0, 0), (28, .ireturn, 29, 0, 0, 0)]])
def mt_W_closed : mj_T := (⟨"ExplainDifferenceLaw", "closed", "(LExplainDifference;IZ[J)I"⟩, method_6_code, 5, some .int, 0, [(0, 10, 13, 28, 2, 15, 4)],
  [[(0, .aload_n 3, 1, 0, 0, 0), (1, .iconst 0, 2, 0, 0, 0), (2, .aload_n 0, 3, 0, 0, 0), (3, .iload_n 1, 4, 0, 0, 0), (4, .iload_n 2, 5, 0, 0, 0), (5, .invokevirtual 24, 8, 29, 3, 0), (8, .i2l, 9, 0, 0, 0), (9, .lastore, 10, 0, 0, 0), (10, .goto 7, 13, 17, 0, 0), (13, .astore 4, 15, 0, 0, 0), (15, .iconst 1, 16, 0, 0, 1)],
   [(16, .ireturn, 17, 0, 0, 0), (17, .iconst 0, 18, 0, 0, 0), (18, .ireturn, 19, 0, 0, 0)]])
def mt_W_window : mj_T := (⟨"ExplainDifferenceLaw", "window", "(LExplainDifference;II[J)I"⟩, method_7_code, 5, some .int, 0, [(0, 10, 13, 13, 0, 15, 4)],
  [[(0, .aload_n 3, 1, 0, 0, 0), (1, .iconst 0, 2, 0, 0, 0), (2, .aload_n 0, 3, 0, 0, 0), (3, .iload_n 1, 4, 0, 0, 0), (4, .iload_n 2, 5, 0, 0, 0), (5, .invokevirtual 30, 8, 30, 3, 0), (8, .i2l, 9, 0, 0, 0), (9, .lastore, 10, 0, 0, 0), (10, .goto 7, 13, 17, 0, 0), (13, .astore 4, 15, 0, 0, 0), (15, .iconst 1, 16, 0, 0, 1)],
   [(16, .ireturn, 17, 0, 0, 0), (17, .iconst 0, 18, 0, 0, 0), (18, .ireturn, 19, 0, 0, 0)]])
def mt_W_counted : mj_T := (⟨"ExplainDifferenceLaw", "counted", "(LExplainDifference;III[J)I"⟩, method_8_code, 6, some .int, 0, [(0, 12, 15, 13, 0, 17, 5)],
  [[(0, .aload 4, 2, 0, 0, 0), (2, .iconst 0, 3, 0, 0, 0), (3, .aload_n 0, 4, 0, 0, 0), (4, .iload_n 1, 5, 0, 0, 0), (5, .iload_n 2, 6, 0, 0, 0), (6, .iload_n 3, 7, 0, 0, 0), (7, .invokevirtual 34, 10, 31, 4, 0), (10, .i2l, 11, 0, 0, 0), (11, .lastore, 12, 0, 0, 0), (12, .goto 7, 15, 19, 0, 0), (15, .astore 5, 17, 0, 0, 0)],
   [(17, .iconst 1, 18, 0, 0, 1), (18, .ireturn, 19, 0, 0, 0), (19, .iconst 0, 20, 0, 0, 0), (20, .ireturn, 21, 0, 0, 0)]])
def mt_W_expected : mj_T := (⟨"ExplainDifferenceLaw", "expected", "(LExplainDifference;II[J)I"⟩, method_9_code, 5, some .int, 0, [(0, 10, 13, 13, 0, 15, 4)],
  [[(0, .aload_n 3, 1, 0, 0, 0), (1, .iconst 0, 2, 0, 0, 0), (2, .aload_n 0, 3, 0, 0, 0), (3, .iload_n 1, 4, 0, 0, 0), (4, .iload_n 2, 5, 0, 0, 0), (5, .invokevirtual 38, 8, 32, 3, 0), (8, .i2l, 9, 0, 0, 0), (9, .lastore, 10, 0, 0, 0), (10, .goto 7, 13, 17, 0, 0), (13, .astore 4, 15, 0, 0, 0), (15, .iconst 1, 16, 0, 0, 1)],
   [(16, .ireturn, 17, 0, 0, 0), (17, .iconst 0, 18, 0, 0, 0), (18, .ireturn, 19, 0, 0, 0)]])
def mt_W_differ : mj_T := (⟨"ExplainDifferenceLaw", "differ", "(LExplainDifference;II[J)I"⟩, method_10_code, 5, some .int, 0, [(0, 10, 13, 28, 2, 15, 4), (0, 10, 17, 13, 0, 19, 4)],
  [[(0, .aload_n 3, 1, 0, 0, 0), (1, .iconst 0, 2, 0, 0, 0), (2, .aload_n 0, 3, 0, 0, 0), (3, .iload_n 1, 4, 0, 0, 0), (4, .iload_n 2, 5, 0, 0, 0), (5, .invokevirtual 41, 8, 33, 3, 0), (8, .i2l, 9, 0, 0, 0), (9, .lastore, 10, 0, 0, 0), (10, .goto 11, 13, 21, 0, 0), (13, .astore 4, 15, 0, 0, 0), (15, .iconst 1, 16, 0, 0, 1)],
   [(16, .ireturn, 17, 0, 0, 0), (17, .astore 4, 19, 0, 0, 0), (19, .iconst 2, 20, 0, 0, 2), (20, .ireturn, 21, 0, 0, 0), (21, .iconst 0, 22, 0, 0, 0), (22, .ireturn, 23, 0, 0, 0)]])
def mt_W_search : mj_T := (⟨"ExplainDifferenceLaw", "search", "(LExplainDifference;II[J)I"⟩, method_11_code, 5, some .int, 0, [(0, 10, 13, 13, 0, 15, 4)],
  [[(0, .aload_n 3, 1, 0, 0, 0), (1, .iconst 0, 2, 0, 0, 0), (2, .aload_n 0, 3, 0, 0, 0), (3, .iload_n 1, 4, 0, 0, 0), (4, .iload_n 2, 5, 0, 0, 0), (5, .invokevirtual 44, 8, 34, 3, 0), (8, .i2l, 9, 0, 0, 0), (9, .lastore, 10, 0, 0, 0), (10, .goto 7, 13, 17, 0, 0), (13, .astore 4, 15, 0, 0, 0), (15, .iconst 1, 16, 0, 0, 1)],
   [(16, .ireturn, 17, 0, 0, 0), (17, .iconst 0, 18, 0, 0, 0), (18, .ireturn, 19, 0, 0, 0)]])
def mt_W_often : mj_T := (⟨"ExplainDifferenceLaw", "often", "(LExplainDifference;I[J)I"⟩, method_12_code, 4, some .int, 0, [(0, 9, 12, 28, 2, 13, 3)],
  [[(0, .aload_n 2, 1, 0, 0, 0), (1, .iconst 0, 2, 0, 0, 0), (2, .aload_n 0, 3, 0, 0, 0), (3, .iload_n 1, 4, 0, 0, 0), (4, .invokevirtual 47, 7, 38, 2, 0), (7, .i2l, 8, 0, 0, 0), (8, .lastore, 9, 0, 0, 0), (9, .goto 6, 12, 15, 0, 0), (12, .astore_n 3, 13, 0, 0, 0), (13, .iconst 1, 14, 0, 0, 1), (14, .ireturn, 15, 0, 0, 0), (15, .iconst 0, 16, 0, 0, 0)],
   [(16, .ireturn, 17, 0, 0, 0)]])
def mt_W_found : mj_T := (⟨"ExplainDifferenceLaw", "found", "(LExplainDifference;II[J)I"⟩, method_13_code, 5, some .int, 0, [(0, 10, 13, 28, 2, 15, 4), (0, 10, 17, 13, 0, 19, 4)],
  [[(0, .aload_n 3, 1, 0, 0, 0), (1, .iconst 0, 2, 0, 0, 0), (2, .aload_n 0, 3, 0, 0, 0), (3, .iload_n 1, 4, 0, 0, 0), (4, .iload_n 2, 5, 0, 0, 0), (5, .invokevirtual 51, 8, 39, 3, 0), (8, .i2l, 9, 0, 0, 0), (9, .lastore, 10, 0, 0, 0), (10, .goto 11, 13, 21, 0, 0), (13, .astore 4, 15, 0, 0, 0), (15, .iconst 1, 16, 0, 0, 1)],
   [(16, .ireturn, 17, 0, 0, 0), (17, .astore 4, 19, 0, 0, 0), (19, .iconst 2, 20, 0, 0, 2), (20, .ireturn, 21, 0, 0, 0), (21, .iconst 0, 22, 0, 0, 0), (22, .ireturn, 23, 0, 0, 0)]])
def mt_W_accept : mj_T := (⟨"ExplainDifferenceLaw", "accept", "(LExplainDifference;[J)I"⟩, method_14_code, 3, some .int, 0, [(0, 8, 11, 58, 3, 12, 2)],
  [[(0, .aload_n 1, 1, 0, 0, 0), (1, .iconst 0, 2, 0, 0, 0), (2, .aload_n 0, 3, 0, 0, 0), (3, .invokevirtual 54, 6, 40, 1, 0), (6, .i2l, 7, 0, 0, 0), (7, .lastore, 8, 0, 0, 0), (8, .goto 6, 11, 14, 0, 0), (11, .astore_n 2, 12, 0, 0, 0), (12, .iconst 1, 13, 0, 0, 1), (13, .ireturn, 14, 0, 0, 0), (14, .iconst 0, 15, 0, 0, 0), (15, .ireturn, 16, 0, 0, 0)]])
def mt_W_back : mj_T := (⟨"ExplainDifferenceLaw", "back", "(LExplainDifference;I[J)I"⟩, method_15_code, 4, some .int, 0, [(0, 9, 12, 28, 2, 13, 3), (0, 9, 15, 58, 3, 16, 3)],
  [[(0, .aload_n 2, 1, 0, 0, 0), (1, .iconst 0, 2, 0, 0, 0), (2, .aload_n 0, 3, 0, 0, 0), (3, .iload_n 1, 4, 0, 0, 0), (4, .invokevirtual 60, 7, 41, 2, 0), (7, .i2l, 8, 0, 0, 0), (8, .lastore, 9, 0, 0, 0), (9, .goto 9, 12, 18, 0, 0), (12, .astore_n 3, 13, 0, 0, 0), (13, .iconst 1, 14, 0, 0, 1), (14, .ireturn, 15, 0, 0, 0), (15, .astore_n 3, 16, 0, 0, 0)],
   [(16, .iconst 2, 17, 0, 0, 2), (17, .ireturn, 18, 0, 0, 0), (18, .iconst 0, 19, 0, 0, 0), (19, .ireturn, 20, 0, 0, 0)]])
def mt_W_share : mj_T := (⟨"ExplainDifferenceLaw", "share", "(LExplainDifference;II[J)I"⟩, method_16_code, 5, some .int, 0, [(0, 10, 13, 13, 0, 15, 4), (0, 10, 17, 66, 4, 19, 4)],
  [[(0, .aload_n 3, 1, 0, 0, 0), (1, .iconst 0, 2, 0, 0, 0), (2, .aload_n 0, 3, 0, 0, 0), (3, .iload_n 1, 4, 0, 0, 0), (4, .iload_n 2, 5, 0, 0, 0), (5, .invokevirtual 63, 8, 42, 3, 0), (8, .i2l, 9, 0, 0, 0), (9, .lastore, 10, 0, 0, 0), (10, .goto 11, 13, 21, 0, 0), (13, .astore 4, 15, 0, 0, 0), (15, .iconst 1, 16, 0, 0, 1)],
   [(16, .ireturn, 17, 0, 0, 0), (17, .astore 4, 19, 0, 0, 0), (19, .iconst 2, 20, 0, 0, 2), (20, .ireturn, 21, 0, 0, 0), (21, .iconst 0, 22, 0, 0, 0), (22, .ireturn, 23, 0, 0, 0)]])
def mt_W_told : mj_T := (⟨"ExplainDifferenceLaw", "told", "(LExplainDifference;II[J)I"⟩, method_17_code, 5, some .int, 0, [(0, 10, 13, 28, 2, 15, 4), (0, 10, 17, 13, 0, 19, 4)],
  [[(0, .aload_n 3, 1, 0, 0, 0), (1, .iconst 0, 2, 0, 0, 0), (2, .aload_n 0, 3, 0, 0, 0), (3, .iload_n 1, 4, 0, 0, 0), (4, .iload_n 2, 5, 0, 0, 0), (5, .invokevirtual 68, 8, 43, 3, 0), (8, .i2l, 9, 0, 0, 0), (9, .lastore, 10, 0, 0, 0), (10, .goto 11, 13, 21, 0, 0), (13, .astore 4, 15, 0, 0, 0), (15, .iconst 1, 16, 0, 0, 1)],
   [(16, .ireturn, 17, 0, 0, 0), (17, .astore 4, 19, 0, 0, 0), (19, .iconst 2, 20, 0, 0, 2), (20, .ireturn, 21, 0, 0, 0), (21, .iconst 0, 22, 0, 0, 0), (22, .ireturn, 23, 0, 0, 0)]])
def mt_W_of : mj_T := (⟨"ExplainDifferenceLaw", "of", "(LExplainDifference;III[J)I"⟩, method_18_code, 6, some .int, 0, [(0, 12, 15, 13, 0, 17, 5)],
  [[(0, .aload 4, 2, 0, 0, 0), (2, .iconst 0, 3, 0, 0, 0), (3, .aload_n 0, 4, 0, 0, 0), (4, .iload_n 1, 5, 0, 0, 0), (5, .iload_n 2, 6, 0, 0, 0), (6, .iload_n 3, 7, 0, 0, 0), (7, .invokevirtual 71, 10, 44, 4, 0), (10, .i2l, 11, 0, 0, 0), (11, .lastore, 12, 0, 0, 0), (12, .goto 7, 15, 19, 0, 0), (15, .astore 5, 17, 0, 0, 0)],
   [(17, .iconst 1, 18, 0, 0, 1), (18, .ireturn, 19, 0, 0, 0), (19, .iconst 0, 20, 0, 0, 0), (20, .ireturn, 21, 0, 0, 0)]])
def mt_J_fill : mj_T := (⟨"java/util/Arrays", "fill", "([II)V"⟩, prog_16_method_103_code, 4, none, 0, [],
  [[(0, .iconst 0, 1, 0, 0, 0), (1, .istore_n 2, 2, 0, 0, 0), (2, .aload_n 0, 3, 0, 0, 0), (3, .arraylength, 4, 0, 0, 0), (4, .istore_n 3, 5, 0, 0, 0), (5, .iload_n 2, 6, 0, 0, 0), (6, .iload_n 3, 7, 0, 0, 0), (7, .if_icmp .ge 13, 10, 20, 0, 0), (10, .aload_n 0, 11, 0, 0, 0), (11, .iload_n 2, 12, 0, 0, 0), (12, .iload_n 1, 13, 0, 0, 0), (13, .iastore, 14, 0, 0, 0), (14, .iinc 2 1, 17, 0, 0, 1)],
   [(17, .goto (-12), 20, 5, 0, 0), (20, .return_, 21, 0, 0, 0)]])
def mj_P : List mj_T := [mt_L_add, mt_L_lastTime, mt_L_turn, mt_L_carry, mt_L_shift, mt_L_tell, mt_L_isCounted, mt_L_differs, mt_L_gap, mt_L_differingCell, mt_L_piecesOfDifferences, mt_L_countedCells, mt_L_isCandidate, mt_L_isAtCountedCell, mt_L_candidates, mt_L_actsWith, mt_L_actAt, mt_L_isAt, mt_K_seek, mt_K_begin, mt_K_gatherChoices, mt_K_extend, mt_K_attempt, mt_K_note, mt_K_isOfPlainActs, mt_K_settle, mt_E_put, mt_E_take, mt_E_move, mt_E_closed, mt_E_window, mt_E_counted, mt_E_expected, mt_E_differ, mt_E_search, mt_E_exact, mt_E_steps, mt_E_ties, mt_E_often, mt_E_found, mt_E_accept, mt_E_back, mt_E_share, mt_E_told, mt_E_of, mt_E_count, mt_E_needAct, mt_E_needRoom, mt_E_needCell, mt_E_needThere, mt_E_need, mt_E_isWithin, mt_E_cellOf, mt_E_timesDone, mt_M_not, mt_M_adds, mt_M_times, mt_M_expectedOf, mt_M_differenceOf, mt_M_differences, mt_M_touches, mt_M_isCandidate, mt_M_howMany, mt_M_add, mt_M_apply, mt_M_foundOne, mt_M_goThrough, mt_M_thrown, mt_M_newAct, mt_M_put, mt_M_take, mt_M_move, mt_M_noAct, mt_M_closed, mt_M_window, mt_M_counted, mt_M_expected, mt_M_differ, mt_M_search, mt_M_exact, mt_M_steps, mt_M_ties, mt_M_often, mt_M_found, mt_M_accept, mt_M_back, mt_M_share, mt_M_told, mt_M_of, mt_M_count, mt_W_put, mt_W_take, mt_W_move, mt_W_closed, mt_W_window, mt_W_counted, mt_W_expected, mt_W_differ, mt_W_search, mt_W_often, mt_W_found, mt_W_accept, mt_W_back, mt_W_share, mt_W_told, mt_W_of, mt_J_fill]
def mt_W_law : mj_T := (⟨"ExplainDifferenceLaw", "law", "([I)Z"⟩, code, 7, some .boolean, 0, [],
  [[],
   [(20, .iconst 0, 21, 0, 0, 0), (21, .istore 4, 23, 0, 0, 0), (23, .iload 4, 25, 0, 0, 0), (25, .aload_n 0, 26, 0, 0, 0), (26, .arraylength, 27, 0, 0, 0), (27, .bipush 6, 29, 0, 0, 6), (29, .isub, 30, 0, 0, 0), (30, .if_icmp .gt 1340, 33, 1370, 0, 0)],
   [(33, .aload_n 0, 34, 0, 0, 0), (34, .iload 4, 36, 0, 0, 0), (36, .iaload, 37, 0, 0, 0), (37, .bipush 31, 39, 0, 0, 31), (39, .iand, 40, 0, 0, 0), (40, .tableswitch 1324 0 19 #[96, 188, 280, 384, 468, 536, 616, 684, 752, 820, 833, 846, 859, 915, 983, 1027, 1083, 1151, 1219, 1299], 136, 0, 0, 0)],
   [],
   [],
   [],
   [],
   [],
   [(136, .aload_n 1, 137, 0, 0, 0), (137, .aload_n 0, 138, 0, 0, 0), (138, .iload 4, 140, 0, 0, 0), (140, .iconst 1, 141, 0, 0, 1), (141, .iadd, 142, 0, 0, 0), (142, .iaload, 143, 0, 0, 0), (143, .aload_n 0, 144, 0, 0, 0)],
   [(144, .iload 4, 146, 0, 0, 0), (146, .iconst 2, 147, 0, 0, 2), (147, .iadd, 148, 0, 0, 0), (148, .iaload, 149, 0, 0, 0), (149, .aload_n 0, 150, 0, 0, 0), (150, .iload 4, 152, 0, 0, 0), (152, .iconst 3, 153, 0, 0, 3), (153, .iadd, 154, 0, 0, 0), (154, .iaload, 155, 0, 0, 0), (155, .aload_n 0, 156, 0, 0, 0), (156, .iload 4, 158, 0, 0, 0), (158, .iconst 4, 159, 0, 0, 4), (159, .iadd, 160, 0, 0, 0)],
   [(160, .iaload, 161, 0, 0, 0), (161, .aload_n 3, 162, 0, 0, 0), (162, .invokestatic 78, 165, 90, 6, 0), (165, .istore 5, 167, 0, 0, 0), (167, .aload_n 2, 168, 0, 0, 0), (168, .aload_n 0, 169, 0, 0, 0), (169, .iload 4, 171, 0, 0, 0), (171, .iconst 1, 172, 0, 0, 1), (172, .iadd, 173, 0, 0, 0), (173, .iaload, 174, 0, 0, 0), (174, .aload_n 0, 175, 0, 0, 0), (175, .iload 4, 177, 0, 0, 0)],
   [(177, .iconst 2, 178, 0, 0, 2), (178, .iadd, 179, 0, 0, 0), (179, .iaload, 180, 0, 0, 0), (180, .aload_n 0, 181, 0, 0, 0), (181, .iload 4, 183, 0, 0, 0), (183, .iconst 3, 184, 0, 0, 3), (184, .iadd, 185, 0, 0, 0), (185, .iaload, 186, 0, 0, 0), (186, .aload_n 0, 187, 0, 0, 0), (187, .iload 4, 189, 0, 0, 0), (189, .iconst 4, 190, 0, 0, 4), (190, .iadd, 191, 0, 0, 0), (191, .iaload, 192, 0, 0, 0)],
   [(192, .invokevirtual 83, 195, 69, 5, 0), (195, .istore 6, 197, 0, 0, 0), (197, .aload_n 2, 198, 0, 0, 0), (198, .invokevirtual 84, 201, 67, 1, 0), (201, .iload 5, 203, 0, 0, 0), (203, .if_icmp .eq 5, 206, 208, 0, 0), (206, .iconst 0, 207, 0, 0, 0), (207, .ireturn, 208, 0, 0, 0)],
   [(208, .iload 5, 210, 0, 0, 0), (210, .ifCond .ne 15, 213, 225, 0, 0), (213, .aload_n 3, 214, 0, 0, 0), (214, .iconst 0, 215, 0, 0, 0), (215, .laload, 216, 0, 0, 0), (216, .iload 6, 218, 0, 0, 0), (218, .i2l, 219, 0, 0, 0), (219, .lcmp, 220, 0, 0, 0), (220, .ifCond .eq 5, 223, 225, 0, 0), (223, .iconst 0, 224, 0, 0, 0)],
   [(224, .ireturn, 225, 0, 0, 0), (225, .goto 1139, 228, 1364, 0, 0), (228, .aload_n 1, 229, 0, 0, 0), (229, .aload_n 0, 230, 0, 0, 0), (230, .iload 4, 232, 0, 0, 0), (232, .iconst 1, 233, 0, 0, 1), (233, .iadd, 234, 0, 0, 0), (234, .iaload, 235, 0, 0, 0), (235, .aload_n 0, 236, 0, 0, 0), (236, .iload 4, 238, 0, 0, 0), (238, .iconst 2, 239, 0, 0, 2), (239, .iadd, 240, 0, 0, 0)],
   [(240, .iaload, 241, 0, 0, 0), (241, .aload_n 0, 242, 0, 0, 0), (242, .iload 4, 244, 0, 0, 0), (244, .iconst 3, 245, 0, 0, 3), (245, .iadd, 246, 0, 0, 0), (246, .iaload, 247, 0, 0, 0), (247, .aload_n 0, 248, 0, 0, 0), (248, .iload 4, 250, 0, 0, 0), (250, .iconst 4, 251, 0, 0, 4), (251, .iadd, 252, 0, 0, 0), (252, .iaload, 253, 0, 0, 0), (253, .aload_n 3, 254, 0, 0, 0), (254, .invokestatic 87, 257, 91, 6, 0)],
   [(257, .istore 5, 259, 0, 0, 0), (259, .aload_n 2, 260, 0, 0, 0), (260, .aload_n 0, 261, 0, 0, 0), (261, .iload 4, 263, 0, 0, 0), (263, .iconst 1, 264, 0, 0, 1), (264, .iadd, 265, 0, 0, 0), (265, .iaload, 266, 0, 0, 0), (266, .aload_n 0, 267, 0, 0, 0), (267, .iload 4, 269, 0, 0, 0), (269, .iconst 2, 270, 0, 0, 2), (270, .iadd, 271, 0, 0, 0), (271, .iaload, 272, 0, 0, 0)],
   [(272, .aload_n 0, 273, 0, 0, 0), (273, .iload 4, 275, 0, 0, 0), (275, .iconst 3, 276, 0, 0, 3), (276, .iadd, 277, 0, 0, 0), (277, .iaload, 278, 0, 0, 0), (278, .aload_n 0, 279, 0, 0, 0), (279, .iload 4, 281, 0, 0, 0), (281, .iconst 4, 282, 0, 0, 4), (282, .iadd, 283, 0, 0, 0), (283, .iaload, 284, 0, 0, 0), (284, .invokevirtual 89, 287, 70, 5, 0), (287, .istore 6, 289, 0, 0, 0)],
   [(289, .aload_n 2, 290, 0, 0, 0), (290, .invokevirtual 84, 293, 67, 1, 0), (293, .iload 5, 295, 0, 0, 0), (295, .if_icmp .eq 5, 298, 300, 0, 0), (298, .iconst 0, 299, 0, 0, 0), (299, .ireturn, 300, 0, 0, 0), (300, .iload 5, 302, 0, 0, 0), (302, .ifCond .ne 15, 305, 317, 0, 0)],
   [(305, .aload_n 3, 306, 0, 0, 0), (306, .iconst 0, 307, 0, 0, 0), (307, .laload, 308, 0, 0, 0), (308, .iload 6, 310, 0, 0, 0), (310, .i2l, 311, 0, 0, 0), (311, .lcmp, 312, 0, 0, 0), (312, .ifCond .eq 5, 315, 317, 0, 0), (315, .iconst 0, 316, 0, 0, 0), (316, .ireturn, 317, 0, 0, 0), (317, .goto 1047, 320, 1364, 0, 0)],
   [(320, .aload_n 1, 321, 0, 0, 0), (321, .aload_n 0, 322, 0, 0, 0), (322, .iload 4, 324, 0, 0, 0), (324, .iconst 1, 325, 0, 0, 1), (325, .iadd, 326, 0, 0, 0), (326, .iaload, 327, 0, 0, 0), (327, .aload_n 0, 328, 0, 0, 0), (328, .iload 4, 330, 0, 0, 0), (330, .iconst 2, 331, 0, 0, 2), (331, .iadd, 332, 0, 0, 0), (332, .iaload, 333, 0, 0, 0), (333, .aload_n 0, 334, 0, 0, 0), (334, .iload 4, 336, 0, 0, 0)],
   [(336, .iconst 3, 337, 0, 0, 3), (337, .iadd, 338, 0, 0, 0), (338, .iaload, 339, 0, 0, 0), (339, .aload_n 0, 340, 0, 0, 0), (340, .iload 4, 342, 0, 0, 0), (342, .iconst 4, 343, 0, 0, 4), (343, .iadd, 344, 0, 0, 0), (344, .iaload, 345, 0, 0, 0), (345, .aload_n 0, 346, 0, 0, 0), (346, .iload 4, 348, 0, 0, 0), (348, .iconst 5, 349, 0, 0, 5), (349, .iadd, 350, 0, 0, 0), (350, .iaload, 351, 0, 0, 0), (351, .aload_n 3, 352, 0, 0, 0)],
   [(352, .invokestatic 90, 355, 92, 7, 0), (355, .istore 5, 357, 0, 0, 0), (357, .aload_n 2, 358, 0, 0, 0), (358, .aload_n 0, 359, 0, 0, 0), (359, .iload 4, 361, 0, 0, 0), (361, .iconst 1, 362, 0, 0, 1), (362, .iadd, 363, 0, 0, 0), (363, .iaload, 364, 0, 0, 0), (364, .aload_n 0, 365, 0, 0, 0), (365, .iload 4, 367, 0, 0, 0), (367, .iconst 2, 368, 0, 0, 2)],
   [(368, .iadd, 369, 0, 0, 0), (369, .iaload, 370, 0, 0, 0), (370, .aload_n 0, 371, 0, 0, 0), (371, .iload 4, 373, 0, 0, 0), (373, .iconst 3, 374, 0, 0, 3), (374, .iadd, 375, 0, 0, 0), (375, .iaload, 376, 0, 0, 0), (376, .aload_n 0, 377, 0, 0, 0), (377, .iload 4, 379, 0, 0, 0), (379, .iconst 4, 380, 0, 0, 4), (380, .iadd, 381, 0, 0, 0), (381, .iaload, 382, 0, 0, 0), (382, .aload_n 0, 383, 0, 0, 0), (383, .iload 4, 385, 0, 0, 0)],
   [(385, .iconst 5, 386, 0, 0, 5), (386, .iadd, 387, 0, 0, 0), (387, .iaload, 388, 0, 0, 0), (388, .invokevirtual 93, 391, 71, 6, 0), (391, .istore 6, 393, 0, 0, 0), (393, .aload_n 2, 394, 0, 0, 0), (394, .invokevirtual 84, 397, 67, 1, 0), (397, .iload 5, 399, 0, 0, 0), (399, .if_icmp .eq 5, 402, 404, 0, 0)],
   [(402, .iconst 0, 403, 0, 0, 0), (403, .ireturn, 404, 0, 0, 0), (404, .iload 5, 406, 0, 0, 0), (406, .ifCond .ne 15, 409, 421, 0, 0), (409, .aload_n 3, 410, 0, 0, 0), (410, .iconst 0, 411, 0, 0, 0), (411, .laload, 412, 0, 0, 0), (412, .iload 6, 414, 0, 0, 0), (414, .i2l, 415, 0, 0, 0), (415, .lcmp, 416, 0, 0, 0)],
   [(416, .ifCond .eq 5, 419, 421, 0, 0), (419, .iconst 0, 420, 0, 0, 0), (420, .ireturn, 421, 0, 0, 0), (421, .goto 943, 424, 1364, 0, 0), (424, .aload_n 1, 425, 0, 0, 0), (425, .aload_n 0, 426, 0, 0, 0), (426, .iload 4, 428, 0, 0, 0), (428, .iconst 1, 429, 0, 0, 1), (429, .iadd, 430, 0, 0, 0), (430, .iaload, 431, 0, 0, 0), (431, .aload_n 0, 432, 0, 0, 0)],
   [(432, .iload 4, 434, 0, 0, 0), (434, .iconst 2, 435, 0, 0, 2), (435, .iadd, 436, 0, 0, 0), (436, .iaload, 437, 0, 0, 0), (437, .ifCond .eq 7, 440, 444, 0, 0), (440, .iconst 1, 441, 0, 0, 1), (441, .goto 4, 444, 445, 0, 0), (444, .iconst 0, 445, 0, 0, 0), (445, .aload_n 3, 446, 0, 0, 0), (446, .invokestatic 94, 449, 93, 4, 0)],
   [(449, .istore 5, 451, 0, 0, 0), (451, .aload_n 2, 452, 0, 0, 0), (452, .aload_n 0, 453, 0, 0, 0), (453, .iload 4, 455, 0, 0, 0), (455, .iconst 1, 456, 0, 0, 1), (456, .iadd, 457, 0, 0, 0), (457, .iaload, 458, 0, 0, 0), (458, .aload_n 0, 459, 0, 0, 0), (459, .iload 4, 461, 0, 0, 0), (461, .iconst 2, 462, 0, 0, 2), (462, .iadd, 463, 0, 0, 0), (463, .iaload, 464, 0, 0, 0)],
   [(464, .ifCond .eq 7, 467, 471, 0, 0), (467, .iconst 1, 468, 0, 0, 1), (468, .goto 4, 471, 472, 0, 0), (471, .iconst 0, 472, 0, 0, 0), (472, .invokevirtual 97, 475, 73, 3, 0), (475, .istore 6, 477, 0, 0, 0), (477, .aload_n 2, 478, 0, 0, 0), (478, .invokevirtual 84, 481, 67, 1, 0)],
   [(481, .iload 5, 483, 0, 0, 0), (483, .if_icmp .eq 5, 486, 488, 0, 0), (486, .iconst 0, 487, 0, 0, 0), (487, .ireturn, 488, 0, 0, 0), (488, .iload 5, 490, 0, 0, 0), (490, .ifCond .ne 15, 493, 505, 0, 0), (493, .aload_n 3, 494, 0, 0, 0), (494, .iconst 0, 495, 0, 0, 0), (495, .laload, 496, 0, 0, 0)],
   [(496, .iload 6, 498, 0, 0, 0), (498, .i2l, 499, 0, 0, 0), (499, .lcmp, 500, 0, 0, 0), (500, .ifCond .eq 5, 503, 505, 0, 0), (503, .iconst 0, 504, 0, 0, 0), (504, .ireturn, 505, 0, 0, 0), (505, .goto 859, 508, 1364, 0, 0), (508, .aload_n 1, 509, 0, 0, 0), (509, .aload_n 0, 510, 0, 0, 0), (510, .iload 4, 512, 0, 0, 0)],
   [(512, .iconst 1, 513, 0, 0, 1), (513, .iadd, 514, 0, 0, 0), (514, .iaload, 515, 0, 0, 0), (515, .aload_n 0, 516, 0, 0, 0), (516, .iload 4, 518, 0, 0, 0), (518, .iconst 2, 519, 0, 0, 2), (519, .iadd, 520, 0, 0, 0), (520, .iaload, 521, 0, 0, 0), (521, .aload_n 3, 522, 0, 0, 0), (522, .invokestatic 98, 525, 94, 4, 0), (525, .istore 5, 527, 0, 0, 0), (527, .aload_n 2, 528, 0, 0, 0)],
   [(528, .aload_n 0, 529, 0, 0, 0), (529, .iload 4, 531, 0, 0, 0), (531, .iconst 1, 532, 0, 0, 1), (532, .iadd, 533, 0, 0, 0), (533, .iaload, 534, 0, 0, 0), (534, .aload_n 0, 535, 0, 0, 0), (535, .iload 4, 537, 0, 0, 0), (537, .iconst 2, 538, 0, 0, 2), (538, .iadd, 539, 0, 0, 0), (539, .iaload, 540, 0, 0, 0), (540, .invokevirtual 101, 543, 74, 3, 0), (543, .istore 6, 545, 0, 0, 0)],
   [(545, .aload_n 2, 546, 0, 0, 0), (546, .invokevirtual 84, 549, 67, 1, 0), (549, .iload 5, 551, 0, 0, 0), (551, .if_icmp .eq 5, 554, 556, 0, 0), (554, .iconst 0, 555, 0, 0, 0), (555, .ireturn, 556, 0, 0, 0), (556, .iload 5, 558, 0, 0, 0), (558, .ifCond .ne 15, 561, 573, 0, 0)],
   [(561, .aload_n 3, 562, 0, 0, 0), (562, .iconst 0, 563, 0, 0, 0), (563, .laload, 564, 0, 0, 0), (564, .iload 6, 566, 0, 0, 0), (566, .i2l, 567, 0, 0, 0), (567, .lcmp, 568, 0, 0, 0), (568, .ifCond .eq 5, 571, 573, 0, 0), (571, .iconst 0, 572, 0, 0, 0), (572, .ireturn, 573, 0, 0, 0), (573, .goto 791, 576, 1364, 0, 0)],
   [(576, .aload_n 1, 577, 0, 0, 0), (577, .aload_n 0, 578, 0, 0, 0), (578, .iload 4, 580, 0, 0, 0), (580, .iconst 1, 581, 0, 0, 1), (581, .iadd, 582, 0, 0, 0), (582, .iaload, 583, 0, 0, 0), (583, .aload_n 0, 584, 0, 0, 0), (584, .iload 4, 586, 0, 0, 0), (586, .iconst 2, 587, 0, 0, 2), (587, .iadd, 588, 0, 0, 0), (588, .iaload, 589, 0, 0, 0), (589, .aload_n 0, 590, 0, 0, 0), (590, .iload 4, 592, 0, 0, 0)],
   [(592, .iconst 3, 593, 0, 0, 3), (593, .iadd, 594, 0, 0, 0), (594, .iaload, 595, 0, 0, 0), (595, .aload_n 3, 596, 0, 0, 0), (596, .invokestatic 102, 599, 95, 5, 0), (599, .istore 5, 601, 0, 0, 0), (601, .aload_n 2, 602, 0, 0, 0), (602, .aload_n 0, 603, 0, 0, 0), (603, .iload 4, 605, 0, 0, 0), (605, .iconst 1, 606, 0, 0, 1), (606, .iadd, 607, 0, 0, 0), (607, .iaload, 608, 0, 0, 0)],
   [(608, .aload_n 0, 609, 0, 0, 0), (609, .iload 4, 611, 0, 0, 0), (611, .iconst 2, 612, 0, 0, 2), (612, .iadd, 613, 0, 0, 0), (613, .iaload, 614, 0, 0, 0), (614, .aload_n 0, 615, 0, 0, 0), (615, .iload 4, 617, 0, 0, 0), (617, .iconst 3, 618, 0, 0, 3), (618, .iadd, 619, 0, 0, 0), (619, .iaload, 620, 0, 0, 0), (620, .invokevirtual 105, 623, 75, 4, 0), (623, .istore 6, 625, 0, 0, 0)],
   [(625, .aload_n 2, 626, 0, 0, 0), (626, .invokevirtual 84, 629, 67, 1, 0), (629, .iload 5, 631, 0, 0, 0), (631, .if_icmp .eq 5, 634, 636, 0, 0), (634, .iconst 0, 635, 0, 0, 0), (635, .ireturn, 636, 0, 0, 0), (636, .iload 5, 638, 0, 0, 0), (638, .ifCond .ne 15, 641, 653, 0, 0)],
   [(641, .aload_n 3, 642, 0, 0, 0), (642, .iconst 0, 643, 0, 0, 0), (643, .laload, 644, 0, 0, 0), (644, .iload 6, 646, 0, 0, 0), (646, .i2l, 647, 0, 0, 0), (647, .lcmp, 648, 0, 0, 0), (648, .ifCond .eq 5, 651, 653, 0, 0), (651, .iconst 0, 652, 0, 0, 0), (652, .ireturn, 653, 0, 0, 0), (653, .goto 711, 656, 1364, 0, 0)],
   [(656, .aload_n 1, 657, 0, 0, 0), (657, .aload_n 0, 658, 0, 0, 0), (658, .iload 4, 660, 0, 0, 0), (660, .iconst 1, 661, 0, 0, 1), (661, .iadd, 662, 0, 0, 0), (662, .iaload, 663, 0, 0, 0), (663, .aload_n 0, 664, 0, 0, 0), (664, .iload 4, 666, 0, 0, 0), (666, .iconst 2, 667, 0, 0, 2), (667, .iadd, 668, 0, 0, 0), (668, .iaload, 669, 0, 0, 0), (669, .aload_n 3, 670, 0, 0, 0), (670, .invokestatic 106, 673, 96, 4, 0)],
   [(673, .istore 5, 675, 0, 0, 0), (675, .aload_n 2, 676, 0, 0, 0), (676, .aload_n 0, 677, 0, 0, 0), (677, .iload 4, 679, 0, 0, 0), (679, .iconst 1, 680, 0, 0, 1), (680, .iadd, 681, 0, 0, 0), (681, .iaload, 682, 0, 0, 0), (682, .aload_n 0, 683, 0, 0, 0), (683, .iload 4, 685, 0, 0, 0), (685, .iconst 2, 686, 0, 0, 2), (686, .iadd, 687, 0, 0, 0), (687, .iaload, 688, 0, 0, 0)],
   [(688, .invokevirtual 108, 691, 76, 3, 0), (691, .istore 6, 693, 0, 0, 0), (693, .aload_n 2, 694, 0, 0, 0), (694, .invokevirtual 84, 697, 67, 1, 0), (697, .iload 5, 699, 0, 0, 0), (699, .if_icmp .eq 5, 702, 704, 0, 0), (702, .iconst 0, 703, 0, 0, 0), (703, .ireturn, 704, 0, 0, 0)],
   [(704, .iload 5, 706, 0, 0, 0), (706, .ifCond .ne 15, 709, 721, 0, 0), (709, .aload_n 3, 710, 0, 0, 0), (710, .iconst 0, 711, 0, 0, 0), (711, .laload, 712, 0, 0, 0), (712, .iload 6, 714, 0, 0, 0), (714, .i2l, 715, 0, 0, 0), (715, .lcmp, 716, 0, 0, 0), (716, .ifCond .eq 5, 719, 721, 0, 0), (719, .iconst 0, 720, 0, 0, 0)],
   [(720, .ireturn, 721, 0, 0, 0), (721, .goto 643, 724, 1364, 0, 0), (724, .aload_n 1, 725, 0, 0, 0), (725, .aload_n 0, 726, 0, 0, 0), (726, .iload 4, 728, 0, 0, 0), (728, .iconst 1, 729, 0, 0, 1), (729, .iadd, 730, 0, 0, 0), (730, .iaload, 731, 0, 0, 0), (731, .aload_n 0, 732, 0, 0, 0), (732, .iload 4, 734, 0, 0, 0), (734, .iconst 2, 735, 0, 0, 2), (735, .iadd, 736, 0, 0, 0)],
   [(736, .iaload, 737, 0, 0, 0), (737, .aload_n 3, 738, 0, 0, 0), (738, .invokestatic 109, 741, 97, 4, 0), (741, .istore 5, 743, 0, 0, 0), (743, .aload_n 2, 744, 0, 0, 0), (744, .aload_n 0, 745, 0, 0, 0), (745, .iload 4, 747, 0, 0, 0), (747, .iconst 1, 748, 0, 0, 1), (748, .iadd, 749, 0, 0, 0), (749, .iaload, 750, 0, 0, 0), (750, .aload_n 0, 751, 0, 0, 0), (751, .iload 4, 753, 0, 0, 0)],
   [(753, .iconst 2, 754, 0, 0, 2), (754, .iadd, 755, 0, 0, 0), (755, .iaload, 756, 0, 0, 0), (756, .invokevirtual 111, 759, 77, 3, 0), (759, .istore 6, 761, 0, 0, 0), (761, .aload_n 2, 762, 0, 0, 0), (762, .invokevirtual 84, 765, 67, 1, 0), (765, .iload 5, 767, 0, 0, 0), (767, .if_icmp .eq 5, 770, 772, 0, 0)],
   [(770, .iconst 0, 771, 0, 0, 0), (771, .ireturn, 772, 0, 0, 0), (772, .iload 5, 774, 0, 0, 0), (774, .ifCond .ne 15, 777, 789, 0, 0), (777, .aload_n 3, 778, 0, 0, 0), (778, .iconst 0, 779, 0, 0, 0), (779, .laload, 780, 0, 0, 0), (780, .iload 6, 782, 0, 0, 0), (782, .i2l, 783, 0, 0, 0), (783, .lcmp, 784, 0, 0, 0)],
   [(784, .ifCond .eq 5, 787, 789, 0, 0), (787, .iconst 0, 788, 0, 0, 0), (788, .ireturn, 789, 0, 0, 0), (789, .goto 575, 792, 1364, 0, 0), (792, .aload_n 1, 793, 0, 0, 0), (793, .aload_n 0, 794, 0, 0, 0), (794, .iload 4, 796, 0, 0, 0), (796, .iconst 1, 797, 0, 0, 1), (797, .iadd, 798, 0, 0, 0), (798, .iaload, 799, 0, 0, 0), (799, .aload_n 0, 800, 0, 0, 0)],
   [(800, .iload 4, 802, 0, 0, 0), (802, .iconst 2, 803, 0, 0, 2), (803, .iadd, 804, 0, 0, 0), (804, .iaload, 805, 0, 0, 0), (805, .aload_n 3, 806, 0, 0, 0), (806, .invokestatic 112, 809, 98, 4, 0), (809, .istore 5, 811, 0, 0, 0), (811, .aload_n 2, 812, 0, 0, 0), (812, .aload_n 0, 813, 0, 0, 0), (813, .iload 4, 815, 0, 0, 0), (815, .iconst 1, 816, 0, 0, 1)],
   [(816, .iadd, 817, 0, 0, 0), (817, .iaload, 818, 0, 0, 0), (818, .aload_n 0, 819, 0, 0, 0), (819, .iload 4, 821, 0, 0, 0), (821, .iconst 2, 822, 0, 0, 2), (822, .iadd, 823, 0, 0, 0), (823, .iaload, 824, 0, 0, 0), (824, .invokevirtual 114, 827, 78, 3, 0), (827, .istore 6, 829, 0, 0, 0), (829, .aload_n 2, 830, 0, 0, 0), (830, .invokevirtual 84, 833, 67, 1, 0)],
   [(833, .iload 5, 835, 0, 0, 0), (835, .if_icmp .eq 5, 838, 840, 0, 0), (838, .iconst 0, 839, 0, 0, 0), (839, .ireturn, 840, 0, 0, 0), (840, .iload 5, 842, 0, 0, 0), (842, .ifCond .ne 15, 845, 857, 0, 0), (845, .aload_n 3, 846, 0, 0, 0), (846, .iconst 0, 847, 0, 0, 0), (847, .laload, 848, 0, 0, 0)],
   [(848, .iload 6, 850, 0, 0, 0), (850, .i2l, 851, 0, 0, 0), (851, .lcmp, 852, 0, 0, 0), (852, .ifCond .eq 5, 855, 857, 0, 0), (855, .iconst 0, 856, 0, 0, 0), (856, .ireturn, 857, 0, 0, 0), (857, .goto 507, 860, 1364, 0, 0), (860, .aload_n 1, 861, 0, 0, 0), (861, .invokevirtual 115, 864, 35, 1, 0)],
   [(864, .aload_n 2, 865, 0, 0, 0), (865, .invokevirtual 119, 868, 79, 1, 0), (868, .if_icmp .eq 496, 871, 1364, 0, 0), (871, .iconst 0, 872, 0, 0, 0), (872, .ireturn, 873, 0, 0, 0), (873, .aload_n 1, 874, 0, 0, 0), (874, .invokevirtual 120, 877, 36, 1, 0), (877, .aload_n 2, 878, 0, 0, 0), (878, .invokevirtual 123, 881, 80, 1, 0)],
   [(881, .if_icmp .eq 483, 884, 1364, 0, 0), (884, .iconst 0, 885, 0, 0, 0), (885, .ireturn, 886, 0, 0, 0), (886, .aload_n 1, 887, 0, 0, 0), (887, .invokevirtual 124, 890, 37, 1, 0), (890, .aload_n 2, 891, 0, 0, 0), (891, .invokevirtual 127, 894, 81, 1, 0), (894, .if_icmp .eq 470, 897, 1364, 0, 0)],
   [(897, .iconst 0, 898, 0, 0, 0), (898, .ireturn, 899, 0, 0, 0), (899, .aload_n 1, 900, 0, 0, 0), (900, .aload_n 0, 901, 0, 0, 0), (901, .iload 4, 903, 0, 0, 0), (903, .iconst 1, 904, 0, 0, 1), (904, .iadd, 905, 0, 0, 0), (905, .iaload, 906, 0, 0, 0), (906, .aload_n 3, 907, 0, 0, 0), (907, .invokestatic 128, 910, 99, 3, 0), (910, .istore 5, 912, 0, 0, 0)],
   [(912, .aload_n 2, 913, 0, 0, 0), (913, .aload_n 0, 914, 0, 0, 0), (914, .iload 4, 916, 0, 0, 0), (916, .iconst 1, 917, 0, 0, 1), (917, .iadd, 918, 0, 0, 0), (918, .iaload, 919, 0, 0, 0), (919, .invokevirtual 131, 922, 82, 2, 0), (922, .istore 6, 924, 0, 0, 0), (924, .aload_n 2, 925, 0, 0, 0), (925, .invokevirtual 84, 928, 67, 1, 0)],
   [(928, .iload 5, 930, 0, 0, 0), (930, .if_icmp .eq 5, 933, 935, 0, 0), (933, .iconst 0, 934, 0, 0, 0), (934, .ireturn, 935, 0, 0, 0), (935, .iload 5, 937, 0, 0, 0), (937, .ifCond .ne 15, 940, 952, 0, 0), (940, .aload_n 3, 941, 0, 0, 0), (941, .iconst 0, 942, 0, 0, 0), (942, .laload, 943, 0, 0, 0), (943, .iload 6, 945, 0, 0, 0)],
   [(945, .i2l, 946, 0, 0, 0), (946, .lcmp, 947, 0, 0, 0), (947, .ifCond .eq 5, 950, 952, 0, 0), (950, .iconst 0, 951, 0, 0, 0), (951, .ireturn, 952, 0, 0, 0), (952, .goto 412, 955, 1364, 0, 0), (955, .aload_n 1, 956, 0, 0, 0), (956, .aload_n 0, 957, 0, 0, 0), (957, .iload 4, 959, 0, 0, 0), (959, .iconst 1, 960, 0, 0, 1)],
   [(960, .iadd, 961, 0, 0, 0), (961, .iaload, 962, 0, 0, 0), (962, .aload_n 0, 963, 0, 0, 0), (963, .iload 4, 965, 0, 0, 0), (965, .iconst 2, 966, 0, 0, 2), (966, .iadd, 967, 0, 0, 0), (967, .iaload, 968, 0, 0, 0), (968, .aload_n 3, 969, 0, 0, 0), (969, .invokestatic 132, 972, 100, 4, 0), (972, .istore 5, 974, 0, 0, 0), (974, .aload_n 2, 975, 0, 0, 0), (975, .aload_n 0, 976, 0, 0, 0)],
   [(976, .iload 4, 978, 0, 0, 0), (978, .iconst 1, 979, 0, 0, 1), (979, .iadd, 980, 0, 0, 0), (980, .iaload, 981, 0, 0, 0), (981, .aload_n 0, 982, 0, 0, 0), (982, .iload 4, 984, 0, 0, 0), (984, .iconst 2, 985, 0, 0, 2), (985, .iadd, 986, 0, 0, 0), (986, .iaload, 987, 0, 0, 0), (987, .invokevirtual 134, 990, 83, 3, 0), (990, .istore 6, 992, 0, 0, 0)],
   [(992, .aload_n 2, 993, 0, 0, 0), (993, .invokevirtual 84, 996, 67, 1, 0), (996, .iload 5, 998, 0, 0, 0), (998, .if_icmp .eq 5, 1001, 1003, 0, 0), (1001, .iconst 0, 1002, 0, 0, 0), (1002, .ireturn, 1003, 0, 0, 0), (1003, .iload 5, 1005, 0, 0, 0), (1005, .ifCond .ne 15, 1008, 1020, 0, 0)],
   [(1008, .aload_n 3, 1009, 0, 0, 0), (1009, .iconst 0, 1010, 0, 0, 0), (1010, .laload, 1011, 0, 0, 0), (1011, .iload 6, 1013, 0, 0, 0), (1013, .i2l, 1014, 0, 0, 0), (1014, .lcmp, 1015, 0, 0, 0), (1015, .ifCond .eq 5, 1018, 1020, 0, 0), (1018, .iconst 0, 1019, 0, 0, 0), (1019, .ireturn, 1020, 0, 0, 0), (1020, .goto 344, 1023, 1364, 0, 0), (1023, .aload_n 1, 1024, 0, 0, 0)],
   [(1024, .aload_n 3, 1025, 0, 0, 0), (1025, .invokestatic 135, 1028, 101, 2, 0), (1028, .istore 5, 1030, 0, 0, 0), (1030, .aload_n 2, 1031, 0, 0, 0), (1031, .invokevirtual 138, 1034, 84, 1, 0), (1034, .istore 6, 1036, 0, 0, 0), (1036, .aload_n 2, 1037, 0, 0, 0), (1037, .invokevirtual 84, 1040, 67, 1, 0)],
   [(1040, .iload 5, 1042, 0, 0, 0), (1042, .if_icmp .eq 5, 1045, 1047, 0, 0), (1045, .iconst 0, 1046, 0, 0, 0), (1046, .ireturn, 1047, 0, 0, 0), (1047, .iload 5, 1049, 0, 0, 0), (1049, .ifCond .ne 15, 1052, 1064, 0, 0), (1052, .aload_n 3, 1053, 0, 0, 0), (1053, .iconst 0, 1054, 0, 0, 0), (1054, .laload, 1055, 0, 0, 0), (1055, .iload 6, 1057, 0, 0, 0)],
   [(1057, .i2l, 1058, 0, 0, 0), (1058, .lcmp, 1059, 0, 0, 0), (1059, .ifCond .eq 5, 1062, 1064, 0, 0), (1062, .iconst 0, 1063, 0, 0, 0), (1063, .ireturn, 1064, 0, 0, 0), (1064, .goto 300, 1067, 1364, 0, 0), (1067, .aload_n 1, 1068, 0, 0, 0), (1068, .aload_n 0, 1069, 0, 0, 0), (1069, .iload 4, 1071, 0, 0, 0), (1071, .iconst 1, 1072, 0, 0, 1)],
   [(1072, .iadd, 1073, 0, 0, 0), (1073, .iaload, 1074, 0, 0, 0), (1074, .aload_n 3, 1075, 0, 0, 0), (1075, .invokestatic 139, 1078, 102, 3, 0), (1078, .istore 5, 1080, 0, 0, 0), (1080, .aload_n 2, 1081, 0, 0, 0), (1081, .aload_n 0, 1082, 0, 0, 0), (1082, .iload 4, 1084, 0, 0, 0), (1084, .iconst 1, 1085, 0, 0, 1), (1085, .iadd, 1086, 0, 0, 0), (1086, .iaload, 1087, 0, 0, 0), (1087, .invokevirtual 141, 1090, 85, 2, 0)],
   [(1090, .istore 6, 1092, 0, 0, 0), (1092, .aload_n 2, 1093, 0, 0, 0), (1093, .invokevirtual 84, 1096, 67, 1, 0), (1096, .iload 5, 1098, 0, 0, 0), (1098, .if_icmp .eq 5, 1101, 1103, 0, 0), (1101, .iconst 0, 1102, 0, 0, 0), (1102, .ireturn, 1103, 0, 0, 0), (1103, .iload 5, 1105, 0, 0, 0)],
   [(1105, .ifCond .ne 15, 1108, 1120, 0, 0), (1108, .aload_n 3, 1109, 0, 0, 0), (1109, .iconst 0, 1110, 0, 0, 0), (1110, .laload, 1111, 0, 0, 0), (1111, .iload 6, 1113, 0, 0, 0), (1113, .i2l, 1114, 0, 0, 0), (1114, .lcmp, 1115, 0, 0, 0), (1115, .ifCond .eq 5, 1118, 1120, 0, 0), (1118, .iconst 0, 1119, 0, 0, 0), (1119, .ireturn, 1120, 0, 0, 0)],
   [(1120, .goto 244, 1123, 1364, 0, 0), (1123, .aload_n 1, 1124, 0, 0, 0), (1124, .aload_n 0, 1125, 0, 0, 0), (1125, .iload 4, 1127, 0, 0, 0), (1127, .iconst 1, 1128, 0, 0, 1), (1128, .iadd, 1129, 0, 0, 0), (1129, .iaload, 1130, 0, 0, 0), (1130, .aload_n 0, 1131, 0, 0, 0), (1131, .iload 4, 1133, 0, 0, 0), (1133, .iconst 2, 1134, 0, 0, 2), (1134, .iadd, 1135, 0, 0, 0), (1135, .iaload, 1136, 0, 0, 0)],
   [(1136, .aload_n 3, 1137, 0, 0, 0), (1137, .invokestatic 142, 1140, 103, 4, 0), (1140, .istore 5, 1142, 0, 0, 0), (1142, .aload_n 2, 1143, 0, 0, 0), (1143, .aload_n 0, 1144, 0, 0, 0), (1144, .iload 4, 1146, 0, 0, 0), (1146, .iconst 1, 1147, 0, 0, 1), (1147, .iadd, 1148, 0, 0, 0), (1148, .iaload, 1149, 0, 0, 0), (1149, .aload_n 0, 1150, 0, 0, 0), (1150, .iload 4, 1152, 0, 0, 0)],
   [(1152, .iconst 2, 1153, 0, 0, 2), (1153, .iadd, 1154, 0, 0, 0), (1154, .iaload, 1155, 0, 0, 0), (1155, .invokevirtual 144, 1158, 86, 3, 0), (1158, .istore 6, 1160, 0, 0, 0), (1160, .aload_n 2, 1161, 0, 0, 0), (1161, .invokevirtual 84, 1164, 67, 1, 0), (1164, .iload 5, 1166, 0, 0, 0), (1166, .if_icmp .eq 5, 1169, 1171, 0, 0)],
   [(1169, .iconst 0, 1170, 0, 0, 0), (1170, .ireturn, 1171, 0, 0, 0), (1171, .iload 5, 1173, 0, 0, 0), (1173, .ifCond .ne 15, 1176, 1188, 0, 0), (1176, .aload_n 3, 1177, 0, 0, 0), (1177, .iconst 0, 1178, 0, 0, 0), (1178, .laload, 1179, 0, 0, 0), (1179, .iload 6, 1181, 0, 0, 0), (1181, .i2l, 1182, 0, 0, 0), (1182, .lcmp, 1183, 0, 0, 0), (1183, .ifCond .eq 5, 1186, 1188, 0, 0)],
   [(1186, .iconst 0, 1187, 0, 0, 0), (1187, .ireturn, 1188, 0, 0, 0), (1188, .goto 176, 1191, 1364, 0, 0), (1191, .aload_n 1, 1192, 0, 0, 0), (1192, .aload_n 0, 1193, 0, 0, 0), (1193, .iload 4, 1195, 0, 0, 0), (1195, .iconst 1, 1196, 0, 0, 1), (1196, .iadd, 1197, 0, 0, 0), (1197, .iaload, 1198, 0, 0, 0), (1198, .aload_n 0, 1199, 0, 0, 0), (1199, .iload 4, 1201, 0, 0, 0)],
   [(1201, .iconst 2, 1202, 0, 0, 2), (1202, .iadd, 1203, 0, 0, 0), (1203, .iaload, 1204, 0, 0, 0), (1204, .aload_n 3, 1205, 0, 0, 0), (1205, .invokestatic 145, 1208, 104, 4, 0), (1208, .istore 5, 1210, 0, 0, 0), (1210, .aload_n 2, 1211, 0, 0, 0), (1211, .aload_n 0, 1212, 0, 0, 0), (1212, .iload 4, 1214, 0, 0, 0), (1214, .iconst 1, 1215, 0, 0, 1), (1215, .iadd, 1216, 0, 0, 0)],
   [(1216, .iaload, 1217, 0, 0, 0), (1217, .aload_n 0, 1218, 0, 0, 0), (1218, .iload 4, 1220, 0, 0, 0), (1220, .iconst 2, 1221, 0, 0, 2), (1221, .iadd, 1222, 0, 0, 0), (1222, .iaload, 1223, 0, 0, 0), (1223, .invokevirtual 147, 1226, 87, 3, 0), (1226, .istore 6, 1228, 0, 0, 0), (1228, .aload_n 2, 1229, 0, 0, 0), (1229, .invokevirtual 84, 1232, 67, 1, 0)],
   [(1232, .iload 5, 1234, 0, 0, 0), (1234, .if_icmp .eq 5, 1237, 1239, 0, 0), (1237, .iconst 0, 1238, 0, 0, 0), (1238, .ireturn, 1239, 0, 0, 0), (1239, .iload 5, 1241, 0, 0, 0), (1241, .ifCond .ne 15, 1244, 1256, 0, 0), (1244, .aload_n 3, 1245, 0, 0, 0), (1245, .iconst 0, 1246, 0, 0, 0), (1246, .laload, 1247, 0, 0, 0), (1247, .iload 6, 1249, 0, 0, 0)],
   [(1249, .i2l, 1250, 0, 0, 0), (1250, .lcmp, 1251, 0, 0, 0), (1251, .ifCond .eq 5, 1254, 1256, 0, 0), (1254, .iconst 0, 1255, 0, 0, 0), (1255, .ireturn, 1256, 0, 0, 0), (1256, .goto 108, 1259, 1364, 0, 0), (1259, .aload_n 1, 1260, 0, 0, 0), (1260, .aload_n 0, 1261, 0, 0, 0), (1261, .iload 4, 1263, 0, 0, 0), (1263, .iconst 1, 1264, 0, 0, 1)],
   [(1264, .iadd, 1265, 0, 0, 0), (1265, .iaload, 1266, 0, 0, 0), (1266, .aload_n 0, 1267, 0, 0, 0), (1267, .iload 4, 1269, 0, 0, 0), (1269, .iconst 2, 1270, 0, 0, 2), (1270, .iadd, 1271, 0, 0, 0), (1271, .iaload, 1272, 0, 0, 0), (1272, .aload_n 0, 1273, 0, 0, 0), (1273, .iload 4, 1275, 0, 0, 0), (1275, .iconst 3, 1276, 0, 0, 3), (1276, .iadd, 1277, 0, 0, 0), (1277, .iaload, 1278, 0, 0, 0), (1278, .aload_n 3, 1279, 0, 0, 0), (1279, .invokestatic 148, 1282, 105, 5, 0)],
   [(1282, .istore 5, 1284, 0, 0, 0), (1284, .aload_n 2, 1285, 0, 0, 0), (1285, .aload_n 0, 1286, 0, 0, 0), (1286, .iload 4, 1288, 0, 0, 0), (1288, .iconst 1, 1289, 0, 0, 1), (1289, .iadd, 1290, 0, 0, 0), (1290, .iaload, 1291, 0, 0, 0), (1291, .aload_n 0, 1292, 0, 0, 0), (1292, .iload 4, 1294, 0, 0, 0), (1294, .iconst 2, 1295, 0, 0, 2), (1295, .iadd, 1296, 0, 0, 0)],
   [(1296, .iaload, 1297, 0, 0, 0), (1297, .aload_n 0, 1298, 0, 0, 0), (1298, .iload 4, 1300, 0, 0, 0), (1300, .iconst 3, 1301, 0, 0, 3), (1301, .iadd, 1302, 0, 0, 0), (1302, .iaload, 1303, 0, 0, 0), (1303, .invokevirtual 150, 1306, 88, 4, 0), (1306, .istore 6, 1308, 0, 0, 0), (1308, .aload_n 2, 1309, 0, 0, 0), (1309, .invokevirtual 84, 1312, 67, 1, 0)],
   [(1312, .iload 5, 1314, 0, 0, 0), (1314, .if_icmp .eq 5, 1317, 1319, 0, 0), (1317, .iconst 0, 1318, 0, 0, 0), (1318, .ireturn, 1319, 0, 0, 0), (1319, .iload 5, 1321, 0, 0, 0), (1321, .ifCond .ne 15, 1324, 1336, 0, 0), (1324, .aload_n 3, 1325, 0, 0, 0), (1325, .iconst 0, 1326, 0, 0, 0), (1326, .laload, 1327, 0, 0, 0), (1327, .iload 6, 1329, 0, 0, 0)],
   [(1329, .i2l, 1330, 0, 0, 0), (1330, .lcmp, 1331, 0, 0, 0), (1331, .ifCond .eq 5, 1334, 1336, 0, 0), (1334, .iconst 0, 1335, 0, 0, 0), (1335, .ireturn, 1336, 0, 0, 0), (1336, .goto 28, 1339, 1364, 0, 0), (1339, .aload_n 1, 1340, 0, 0, 0), (1340, .aload_n 0, 1341, 0, 0, 0), (1341, .iload 4, 1343, 0, 0, 0), (1343, .iconst 1, 1344, 0, 0, 1)],
   [(1344, .iadd, 1345, 0, 0, 0), (1345, .iaload, 1346, 0, 0, 0), (1346, .invokevirtual 151, 1349, 45, 2, 0), (1349, .aload_n 2, 1350, 0, 0, 0), (1350, .aload_n 0, 1351, 0, 0, 0), (1351, .iload 4, 1353, 0, 0, 0), (1353, .iconst 1, 1354, 0, 0, 1), (1354, .iadd, 1355, 0, 0, 0), (1355, .iaload, 1356, 0, 0, 0), (1356, .invokevirtual 154, 1359, 89, 2, 0), (1359, .if_icmp .eq 5, 1362, 1364, 0, 0)],
   [(1362, .iconst 0, 1363, 0, 0, 0), (1363, .ireturn, 1364, 0, 0, 0), (1364, .iinc 4 6, 1367, 0, 0, 6), (1367, .goto (-1344), 1370, 23, 0, 0), (1370, .iconst 1, 1371, 0, 0, 1), (1371, .ireturn, 1372, 0, 0, 0)]])
end
section
/-! the small machine's runs -/
section
variable (S : mj_S) (X : Nat × (Nat → Int32)) (P : List mj_T)
def mj_go (T : mj_T) (pc : Nat) (lo : mj_L) (st : List mj_V) (M : mj_M) : Option mj_C := match mj_at T pc with
  | some (_, i, nx, a, b, v) => mj_step S X pc i nx a b v lo st M
  | none => none
/-- a return, or 'throw new E(text)' -/
def mj_end (T : mj_T) (pc : Nat) (st : List mj_V) (M : mj_M) (k : Nat) : Option mj_R := match mj_at T pc with
  | some (_, .ireturn, _) => (match st with
      | [.inl x] => (match mj_tr T with
          | some .int => some (.inr (some (.inl x)), M, k)
          | some .boolean => if x = 0 ∨ x = 1 then some (.inr (some (.inl x)), M, k) else none
          | _ => none)
      | _ => none)
  | some (_, .return_, _) => (match st, mj_tr T with
      | [], none => some (.inr none, M, k)
      | _, _ => none)
  | some (_, .new _, _, a, _) => (match st with
      | [] => some (.inl a, M, k + 1)
      | _ => none)
  | _ => none
def mj_callee (T : mj_T) (pc : Nat) (st : List mj_V) : Option (mj_T × List mj_V × List mj_V × Nat × Bool) := match mj_at T pc with
  | some (_, i, nx, a, b, v) => if mj_isc i = true then (match P[a]?, mj_pop b st [] with
      | some T', some (as, rest) => if mj_rcv i T' as = true ∧ rest.length ≤ 4 ∧ as.all mj_one = true then some (T', as, rest, nx, decide (v = 7)) else none
      | _, _ => none) else none
  | none => none
def mj_body (rec : Nat → mj_T → Nat → mj_L → List mj_V → mj_M → Nat → Option mj_R) (d : Nat) (T : mj_T) (pc : Nat) (lo : mj_L) (st : List mj_V) (M : mj_M) (k : Nat) : Option mj_R :=
  match mj_go S X T pc lo st M with
  | some (pc', lo', st', M') => rec d T pc' lo' st' M' k
  | none => match mj_end T pc st M k with
    | some r => some r
    | none => match d with
      | 0 => none
      | d' + 1 => match mj_callee P T pc st with
        | none => none
        | some (T', as, rest, nx, ns) => (match rec d' T' 0 (fun j => as[j]?) [] M 0 with
            | some (.inr none, M', k') => rec (d' + 1) T nx lo rest M' (k + k')
            | some (.inr (some r), M', k') => rec (d' + 1) T nx lo (r :: rest) M' (k + k')
            | some (.inl E, M', k') => if ns = true then none else (match mj_cat (mj_th T) pc E with
                | some (h, j) => rec (d' + 1) T h (mj_dl lo j) [] M' (k + k')
                | none => some (.inl E, M', k + k'))
            | none => none)
def mj_run : Nat → Nat → mj_T → Nat → mj_L → List mj_V → mj_M → Nat → Option mj_R
  | 0 => fun _ _ _ _ _ _ _ => none
  | n + 1 => mj_body S X P (mj_run n)
theorem mj_run_s (n d : Nat) (T : mj_T) (pc : Nat) (lo : mj_L) (st : List mj_V) (M : mj_M) (k : Nat) : mj_run S X P (n + 1) d T pc lo st M k = mj_body S X P (mj_run S X P n) d T pc lo st M k := rfl
theorem mj_run_0 (d : Nat) (T : mj_T) (pc : Nat) (lo : mj_L) (st : List mj_V) (M : mj_M) (k : Nat) : mj_run S X P 0 d T pc lo st M k = none := rfl
theorem mj_mono : ∀ (n d : Nat) (T : mj_T) (pc : Nat) (lo : mj_L) (st : List mj_V) (M : mj_M) (k : Nat) (r : mj_R), mj_run S X P n d T pc lo st M k = some r → mj_run S X P (n + 1) d T pc lo st M k = some r := by
  intro n
  induction n with
  | zero =>
    intro d T pc lo st M k r h
    rw [mj_run_0] at h
    cases h
  | succ n ih =>
    intro d T pc lo st M k r h
    rw [mj_run_s] at h ⊢
    unfold mj_body at h ⊢
    cases hg : mj_go S X T pc lo st M with
    | some c =>
      obtain ⟨pc', lo', st', M'⟩ := c
      rw [hg] at h
      exact ih _ _ _ _ _ _ _ _ h
    | none =>
      rw [hg] at h
      dsimp only at h ⊢
      cases he : mj_end T pc st M k with
      | some r' =>
        rw [he] at h
        exact h
      | none =>
        rw [he] at h
        dsimp only at h ⊢
        cases d with
        | zero => exact h
        | succ d' =>
          cases hc : mj_callee P T pc st with
          | none =>
            rw [hc] at h
            exact h
          | some q =>
            obtain ⟨T', as, rest, nx, ns⟩ := q
            rw [hc] at h
            dsimp only at h ⊢
            cases hr : mj_run S X P n d' T' 0 (fun j => as[j]?) [] M 0 with
            | none => rw [hr] at h; cases h
            | some q =>
              rw [ih _ _ _ _ _ _ _ _ hr]
              rw [hr] at h
              obtain ⟨o, M', k'⟩ := q
              cases o with
              | inl E =>
                dsimp only at h ⊢
                by_cases hns : ns = true
                · rw [if_pos hns] at h
                  cases h
                · rw [if_neg hns] at h ⊢
                  cases hx : mj_cat (mj_th T) pc E with
                  | none =>
                    rw [hx] at h
                    exact h
                  | some q =>
                    obtain ⟨h9, j⟩ := q
                    rw [hx] at h
                    exact ih _ _ _ _ _ _ _ _ h
              | inr o =>
                cases o with
                | none => exact ih _ _ _ _ _ _ _ _ h
                | some v => exact ih _ _ _ _ _ _ _ _ h
theorem mj_mono2 {n m d : Nat} {T : mj_T} {pc : Nat} {lo : mj_L} {st : List mj_V} {M : mj_M} {k : Nat} {r : mj_R} (h : n ≤ m) (hr : mj_run S X P n d T pc lo st M k = some r) : mj_run S X P m d T pc lo st M k = some r := by
  induction h with
  | refl => exact hr
  | step _ ih => exact mj_mono S X P _ _ _ _ _ _ _ _ _ ih
/-- from here the method comes to its end r -/
def mj_Ev (d : Nat) (T : mj_T) (pc : Nat) (lo : mj_L) (st : List mj_V) (M : mj_M) (k : Nat) (r : mj_R) : Prop := ∃ n, mj_run S X P n d T pc lo st M k = some r
end
section
variable {S : mj_S} {X : Nat × (Nat → Int32)} {P : List mj_T} {d : Nat} {T : mj_T} {pc : Nat} {lo : mj_L} {st : List mj_V} {M : mj_M} {k : Nat} {r : mj_R}
theorem ev_go {pc' : Nat} {lo' : mj_L} {st' : List mj_V} {M' : mj_M} (h : mj_go S X T pc lo st M = some (pc', lo', st', M')) (e : mj_Ev S X P d T pc' lo' st' M' k r) : mj_Ev S X P d T pc lo st M k r := by
  obtain ⟨n, hn⟩ := e
  refine ⟨n + 1, ?_⟩
  rw [mj_run_s]
  unfold mj_body
  rw [h]
  exact hn
theorem ev_if {c : Prop} {dc : Decidable c} {pc' : Nat} {lo' : mj_L} {st' : List mj_V} {M' : mj_M} {pc2 : Nat} {lo2 : mj_L} {st2 : List mj_V} {M2 : mj_M} (h : mj_go S X T pc lo st M = if c then some (pc', lo', st', M') else some (pc2, lo2, st2, M2)) (e : c → mj_Ev S X P d T pc' lo' st' M' k r) (f : ¬ c → mj_Ev S X P d T pc2 lo2 st2 M2 k r) : mj_Ev S X P d T pc lo st M k r := by
  by_cases hc : c
  · rw [if_pos hc] at h
    exact ev_go h (e hc)
  · rw [if_neg hc] at h
    exact ev_go h (f hc)
theorem ev_ok {c : Prop} {dc : Decidable c} {pc' : Nat} {lo' : mj_L} {st' : List mj_V} {M' : mj_M} (hc : c) (h : mj_go S X T pc lo st M = if c then some (pc', lo', st', M') else none) (e : mj_Ev S X P d T pc' lo' st' M' k r) : mj_Ev S X P d T pc lo st M k r := by
  rw [if_pos hc] at h
  exact ev_go h e
theorem ev_end (hg : mj_go S X T pc lo st M = none) (h : mj_end T pc st M k = some r) : mj_Ev S X P d T pc lo st M k r := by
  refine ⟨1, ?_⟩
  rw [mj_run_s]
  unfold mj_body
  rw [hg]
  dsimp only
  rw [h]
theorem ev_callr {T' : mj_T} {as rest : List mj_V} {nx : Nat} {ns : Bool} {v : mj_V} {M' : mj_M} {k' : Nat} (hg : mj_go S X T pc lo st M = none) (he : mj_end T pc st M k = none) (hc : mj_callee P T pc st = some (T', as, rest, nx, ns)) (h1 : mj_Ev S X P d T' 0 (fun j => as[j]?) [] M 0 (.inr (some v), M', k')) (h2 : mj_Ev S X P (d + 1) T nx lo (v :: rest) M' (k + k') r) : mj_Ev S X P (d + 1) T pc lo st M k r := by
  obtain ⟨n, hn⟩ := h1
  obtain ⟨m, hm⟩ := h2
  refine ⟨max n m + 1, ?_⟩
  rw [mj_run_s]
  unfold mj_body
  rw [hg]
  dsimp only
  rw [he]
  dsimp only
  rw [hc]
  dsimp only
  rw [mj_mono2 S X P (Nat.le_max_left n m) hn]
  exact mj_mono2 S X P (Nat.le_max_right n m) hm
theorem ev_callv {T' : mj_T} {as rest : List mj_V} {nx : Nat} {ns : Bool} {M' : mj_M} {k' : Nat} (hg : mj_go S X T pc lo st M = none) (he : mj_end T pc st M k = none) (hc : mj_callee P T pc st = some (T', as, rest, nx, ns)) (h1 : mj_Ev S X P d T' 0 (fun j => as[j]?) [] M 0 (.inr none, M', k')) (h2 : mj_Ev S X P (d + 1) T nx lo rest M' (k + k') r) : mj_Ev S X P (d + 1) T pc lo st M k r := by
  obtain ⟨n, hn⟩ := h1
  obtain ⟨m, hm⟩ := h2
  refine ⟨max n m + 1, ?_⟩
  rw [mj_run_s]
  unfold mj_body
  rw [hg]
  dsimp only
  rw [he]
  dsimp only
  rw [hc]
  dsimp only
  rw [mj_mono2 S X P (Nat.le_max_left n m) hn]
  exact mj_mono2 S X P (Nat.le_max_right n m) hm
/-- the callee throws, nothing here catches it -/
theorem ev_callx {T' : mj_T} {as rest : List mj_V} {nx E : Nat} {M' : mj_M} {k' : Nat} (hg : mj_go S X T pc lo st M = none) (he : mj_end T pc st M k = none) (hc : mj_callee P T pc st = some (T', as, rest, nx, false)) (h1 : mj_Ev S X P d T' 0 (fun j => as[j]?) [] M 0 (.inl E, M', k')) (h2 : mj_cat (mj_th T) pc E = none) : mj_Ev S X P (d + 1) T pc lo st M k (.inl E, M', k + k') := by
  obtain ⟨n, hn⟩ := h1
  refine ⟨n + 1, ?_⟩
  rw [mj_run_s]
  unfold mj_body
  rw [hg]
  dsimp only
  rw [he]
  dsimp only
  rw [hc]
  dsimp only
  rw [hn]
  dsimp only
  rw [if_neg (by decide), h2]
/-- the callee throws, a handler here takes it -/
theorem ev_callh {T' : mj_T} {as rest : List mj_V} {nx E h j : Nat} {M' : mj_M} {k' : Nat} (hg : mj_go S X T pc lo st M = none) (he : mj_end T pc st M k = none) (hc : mj_callee P T pc st = some (T', as, rest, nx, false)) (h1 : mj_Ev S X P d T' 0 (fun j => as[j]?) [] M 0 (.inl E, M', k')) (h2 : mj_cat (mj_th T) pc E = some (h, j)) (h3 : mj_Ev S X P (d + 1) T h (mj_dl lo j) [] M' (k + k') r) : mj_Ev S X P (d + 1) T pc lo st M k r := by
  obtain ⟨n, hn⟩ := h1
  obtain ⟨m, hm⟩ := h3
  refine ⟨max n m + 1, ?_⟩
  rw [mj_run_s]
  unfold mj_body
  rw [hg]
  dsimp only
  rw [he]
  dsimp only
  rw [hc]
  dsimp only
  rw [mj_mono2 S X P (Nat.le_max_left n m) hn]
  dsimp only
  rw [if_neg (by decide), h2]
  exact mj_mono2 S X P (Nat.le_max_right n m) hm
end
end
section
/-! the small machine's state as the true machine's: values, worlds, locals -/
section
variable (S : mj_S) (ad : Nat → Nat) (cI cR cJ cZ : ClassId)
def mj_ra (g r : Nat) : Nat := match S.1[g]? with
  | some (.inr (.inr (.inl (_, _, o)))) => ad (mj_rw S o r)
  | _ => 0
def mj_c (v : mj_V) : Value := match v with
  | .inl x => .int x
  | .inr (.inl y) => .long y
  | .inr (.inr (.inl q)) => .ref (ad q)
  | .inr (.inr (.inr (g, r))) => .ref (mj_ra S ad g r)
theorem mj_c1 {v : mj_V} (h : mj_one v = true) : (mj_c S ad v).category = 1 := by
  match v, h with
  | .inl x, _ => rfl
  | .inr (.inr (.inl q)), _ => rfl
  | .inr (.inr (.inr (g, r))), _ => rfl
/-- an object's fields -/
def mj_fl (M : mj_M) (k : Nat) (fs : List (Option Nat)) : List Value := fs.mapIdx (fun j f => match f with
  | some q => Value.ref (ad q)
  | none => Value.int (M.1 k j))
def mj_e (M : mj_M) (k : Nat) (K : mj_K) : va_E := match K with
  | .inl (ci, fs) => .inr (ci, mj_fl ad M k fs)
  | .inr (.inl n) => .inl (cI, n, .inl (M.1 k))
  | .inr (.inr (.inl (n, _, o))) => .inl (cR, n, .inr (.inr (.inr (.inr (fun i => if i < n then some (ad (mj_rw S o i)) else none)))))
  | .inr (.inr (.inr (.inl n))) => .inl (cJ, n, .inr (.inl (fun j => if j = 0 then M.2 else 0)))
  | .inr (.inr (.inr (.inr n))) => .inl (cZ, n, .inl (M.1 k))
def mj_w (M : mj_M) : va_W := S.1.mapIdx (fun k K => (ad k, mj_e S ad cI cR cJ cZ M k K)) ++ S.2.mapIdx (fun r c => (ad (S.1.length + 1 + r), .inl (cI, c, .inl (M.1 (S.1.length + 1 + r)))))
def mj_tys : List (ClassId × FieldType) := [(cI, .int), (cR, .array .int), (cJ, .long), (cZ, .boolean)]
end
theorem mj_mi {α β : Type} (l : List α) (f g : Nat → α → β) (k : Nat) (v : β) (hk : k < l.length) (h1 : ∀ (n : Nat) (a : α), n ≠ k → f n a = g n a) (h2 : ∀ a, l[k]? = some a → v = g k a) : (l.mapIdx f).set k v = l.mapIdx g := by
  apply List.ext_getElem?
  intro n
  rw [List.getElem?_set, List.getElem?_mapIdx, List.length_mapIdx, List.getElem?_mapIdx]
  by_cases e : k = n
  · subst e
    rw [if_pos rfl, if_pos hk, List.getElem?_eq_getElem hk, Option.map_some, h2 _ (List.getElem?_eq_getElem hk)]
  · rw [if_neg e]
    cases l[n]? with
    | none => rfl
    | some a => rw [Option.map_some, Option.map_some, h1 n a (Ne.symm e)]
section
variable {S : mj_S} {ad : Nat → Nat} {cI cR cJ cZ : ClassId} {M M' : mj_M}
theorem mj_w_at {k : Nat} {K : mj_K} (h : S.1[k]? = some K) : (mj_w S ad cI cR cJ cZ M)[k]? = some (ad k, mj_e S ad cI cR cJ cZ M k K) := by
  have hk : k < S.1.length := (List.getElem?_eq_some_iff.mp h).1
  unfold mj_w
  rw [List.getElem?_append_left (by rw [List.length_mapIdx]; exact hk), List.getElem?_mapIdx, h]
  rfl
theorem mj_w_row {r c : Nat} (h : S.2[r]? = some c) : (mj_w S ad cI cR cJ cZ M)[S.1.length + r]? = some (ad (S.1.length + 1 + r), .inl (cI, c, .inl (M.1 (S.1.length + 1 + r)))) := by
  unfold mj_w
  rw [List.getElem?_append_right (by rw [List.length_mapIdx]; omega), List.length_mapIdx, Nat.add_sub_cancel_left, List.getElem?_mapIdx, h]
  rfl
theorem mj_e_eq {k : Nat} {K : mj_K} (h1 : M'.1 k = M.1 k) (h2 : ∀ n, K = .inr (.inr (.inr (.inl n))) → M'.2 = M.2) : mj_e S ad cI cR cJ cZ M k K = mj_e S ad cI cR cJ cZ M' k K := by
  match K, h2 with
  | .inl (ci, fs), _ => simp only [mj_e, mj_fl, h1]
  | .inr (.inl n), _ => simp only [mj_e, h1]
  | .inr (.inr (.inl (n, c, o))), _ => rfl
  | .inr (.inr (.inr (.inl n))), h2 => simp only [mj_e, h2 n rfl]
  | .inr (.inr (.inr (.inr n))), _ => simp only [mj_e, h1]
theorem mj_w_set {k : Nat} {K : mj_K} (h : S.1[k]? = some K) (hm : ∀ a, a ≠ k → M'.1 a = M.1 a) (hl : ∀ a n, a ≠ k → S.1[a]? = some (.inr (.inr (.inr (.inl n)))) → M'.2 = M.2) : (mj_w S ad cI cR cJ cZ M).set k (ad k, mj_e S ad cI cR cJ cZ M' k K) = mj_w S ad cI cR cJ cZ M' := by
  have hk : k < S.1.length := (List.getElem?_eq_some_iff.mp h).1
  unfold mj_w
  rw [List.set_append, if_pos (by rw [List.length_mapIdx]; exact hk)]
  congr 1
  · apply List.ext_getElem?
    intro n
    rw [List.getElem?_set, List.getElem?_mapIdx, List.length_mapIdx, List.getElem?_mapIdx]
    by_cases e : k = n
    · subst e
      rw [if_pos rfl, if_pos hk, h, Option.map_some]
    · rw [if_neg e]
      cases hn : S.1[n]? with
      | none => rfl
      | some a =>
        rw [Option.map_some, Option.map_some]
        rw [mj_e_eq (M' := M') (hm n (Ne.symm e)) (fun n9 h9 => hl n n9 (Ne.symm e) (by rw [hn, h9]))]
  · apply List.ext_getElem?
    intro n
    rw [List.getElem?_mapIdx, List.getElem?_mapIdx]
    cases S.2[n]? with
    | none => rfl
    | some a => rw [Option.map_some, Option.map_some, hm (S.1.length + 1 + n) (by omega)]
theorem mj_w_setr {r c : Nat} (h : S.2[r]? = some c) (hm : ∀ a, a ≠ S.1.length + 1 + r → M'.1 a = M.1 a) (hl : M'.2 = M.2) : (mj_w S ad cI cR cJ cZ M).set (S.1.length + r) (ad (S.1.length + 1 + r), .inl (cI, c, .inl (M'.1 (S.1.length + 1 + r)))) = mj_w S ad cI cR cJ cZ M' := by
  have hk : r < S.2.length := (List.getElem?_eq_some_iff.mp h).1
  unfold mj_w
  rw [List.set_append, if_neg (by rw [List.length_mapIdx]; omega), List.length_mapIdx, Nat.add_sub_cancel_left]
  congr 1
  · apply List.ext_getElem?
    intro n
    rw [List.getElem?_mapIdx, List.getElem?_mapIdx]
    cases hn : S.1[n]? with
    | none => rfl
    | some a =>
      have hn9 : n < S.1.length := (List.getElem?_eq_some_iff.mp hn).1
      rw [Option.map_some, Option.map_some, mj_e_eq (M' := M') (hm n (by omega)) (fun _ _ => hl)]
  · apply List.ext_getElem?
    intro n
    rw [List.getElem?_set, List.getElem?_mapIdx, List.length_mapIdx, List.getElem?_mapIdx]
    by_cases e : r = n
    · subst e
      rw [if_pos rfl, if_pos hk, h, Option.map_some]
    · rw [if_neg e]
      cases S.2[n]? with
      | none => rfl
      | some a => rw [Option.map_some, Option.map_some, hm (S.1.length + 1 + n) (by omega)]
/-- the addresses of a world are the same whatever it holds -/
theorem mj_D_any {A : Nat → Prop} (h : va_D A (mj_w S ad cI cR cJ cZ M)) : va_D A (mj_w S ad cI cR cJ cZ M') := by
  have key : ∀ (n : Nat) (q : Nat × va_E), (mj_w S ad cI cR cJ cZ M')[n]? = some q → ∃ q0, (mj_w S ad cI cR cJ cZ M)[n]? = some q0 ∧ q0.1 = q.1 := by
    intro n q hq
    by_cases hn : n < S.1.length
    · have h1 := mj_w_at (S := S) (ad := ad) (cI := cI) (cR := cR) (cJ := cJ) (cZ := cZ) (M := M) (List.getElem?_eq_getElem hn)
      have h2 := mj_w_at (S := S) (ad := ad) (cI := cI) (cR := cR) (cJ := cJ) (cZ := cZ) (M := M') (List.getElem?_eq_getElem hn)
      rw [h2] at hq
      cases hq
      exact ⟨_, h1, rfl⟩
    · have hl : n < S.1.length + S.2.length := by
        have := (List.getElem?_eq_some_iff.mp hq).1
        unfold mj_w at this
        rw [List.length_append, List.length_mapIdx, List.length_mapIdx] at this
        exact this
      have e : n = S.1.length + (n - S.1.length) := by omega
      have hr : n - S.1.length < S.2.length := by omega
      have h1 := mj_w_row (S := S) (ad := ad) (cI := cI) (cR := cR) (cJ := cJ) (cZ := cZ) (M := M) (List.getElem?_eq_getElem hr)
      have h2 := mj_w_row (S := S) (ad := ad) (cI := cI) (cR := cR) (cJ := cJ) (cZ := cZ) (M := M') (List.getElem?_eq_getElem hr)
      rw [← e] at h1 h2
      rw [h2] at hq
      cases hq
      exact ⟨_, h1, rfl⟩
  refine ⟨fun i j x y hi hj hxy => ?_, fun n q hq => ?_⟩
  · obtain ⟨x0, h1, h2⟩ := key i x hi
    obtain ⟨y0, h3, h4⟩ := key j y hj
    exact h.1 i j x0 y0 h1 h3 (h2.trans (hxy.trans h4.symm))
  · obtain ⟨q0, h1, h2⟩ := key n q hq
    rw [← h2]
    exact h.2 n q0 h1
end
section
variable {S : mj_S} {ad : Nat → Nat} {nL : Nat} {lo : mj_L} {ls : Array Slot}
def mj_lv (S : mj_S) (ad : Nat → Nat) (nL : Nat) (lo : mj_L) (ls : Array Slot) : Prop := ls.size = nL ∧ lv_wf ls ∧ ∀ (i : Nat) (v : mj_V), lo i = some v → ls[i]? = some (.val (mj_c S ad v)) ∧ mj_one v = true
def mj_ll (S : mj_S) (ad : Nat → Nat) (nL : Nat) (lo : mj_L) : List (Nat × Value) := (List.range nL).filterMap (fun j => (lo j).map (fun v => (j, mj_c S ad v)))
theorem mj_lv.has (h : mj_lv S ad nL lo ls) : lv_has ls nL (mj_ll S ad nL lo) := by
  refine ⟨h.1, h.2.1, fun q hq => ?_⟩
  obtain ⟨j, -, hj⟩ := List.mem_filterMap.mp hq
  cases hl : lo j with
  | none => rw [hl] at hj; cases hj
  | some v =>
    rw [hl] at hj
    cases hj
    exact (h.2.2 j v hl).1
theorem mj_lv.mem (h : mj_lv S ad nL lo ls) {j : Nat} {v : mj_V} (hv : lo j = some v) : (j, mj_c S ad v) ∈ mj_ll S ad nL lo := by
  have h1 : j < ls.size := (Array.getElem?_eq_some_iff.mp (h.2.2 j v hv).1).1
  exact List.mem_filterMap.mpr ⟨j, List.mem_range.mpr (by rw [← h.1]; exact h1), by rw [hv]; rfl⟩
theorem mj_lv.up (h : mj_lv S ad nL lo ls) {ls' : Array Slot} {i : Nat} {v : mj_V} (h1 : mj_one v = true) (hs : lv_has ls' nL ((i, mj_c S ad v) :: (mj_ll S ad nL lo).filter (fun q => !(q.1 == i) && !(q.1 + 1 == i && q.2.category == 2)))) : mj_lv S ad nL (mj_up lo i v) ls' := by
  refine ⟨hs.1, hs.2.1, fun j w hw => ?_⟩
  unfold mj_up at hw
  by_cases e : j = i
  · subst e
    rw [if_pos rfl] at hw
    cases hw
    exact ⟨hs.2.2 (j, mj_c S ad v) List.mem_cons_self, h1⟩
  · rw [if_neg e] at hw
    obtain ⟨-, b⟩ := h.2.2 j w hw
    refine ⟨hs.2.2 (j, mj_c S ad w) (List.mem_cons_of_mem _ (List.mem_filter.mpr ⟨h.mem hw, ?_⟩)), b⟩
    simp [e, mj_c1 S ad b]
theorem mj_lv.del (h : mj_lv S ad nL lo ls) {ls' : Array Slot} {i : Nat} {x : Nat} (hs : lv_has ls' nL ((i, Value.ref x) :: (mj_ll S ad nL lo).filter (fun q => !(q.1 == i) && !(q.1 + 1 == i && q.2.category == 2)))) : mj_lv S ad nL (mj_dl lo i) ls' := by
  refine ⟨hs.1, hs.2.1, fun j w hw => ?_⟩
  unfold mj_dl at hw
  by_cases e : j = i
  · rw [if_pos e] at hw
    cases hw
  · rw [if_neg e] at hw
    obtain ⟨-, b⟩ := h.2.2 j w hw
    refine ⟨hs.2.2 (j, mj_c S ad w) (List.mem_cons_of_mem _ (List.mem_filter.mpr ⟨h.mem hw, ?_⟩)), b⟩
    simp [e, mj_c1 S ad b]
theorem mj_sl : ∀ (as : List mj_V), (∀ v ∈ as, mj_one v = true) → (lg_sl (as.map (mj_c S ad))).length = as.length
  | [], _ => rfl
  | v :: as, h => by
    have h1 := mj_sl as (fun w hw => h w (List.mem_cons_of_mem _ hw))
    have h2 := mj_c1 S ad (h v List.mem_cons_self)
    have e : lg_sl ((v :: as).map (mj_c S ad)) = (if (mj_c S ad v).category = 2 then [Slot.val (mj_c S ad v), .second] else [Slot.val (mj_c S ad v)]) ++ lg_sl (as.map (mj_c S ad)) := by
      simp [lg_sl]
    rw [e, if_neg (by rw [h2]; decide), List.length_append, h1, List.length_cons]
    simp only [List.length_cons, List.length_nil]
    omega
theorem mj_av : ∀ (as : List mj_V) (i j : Nat) (v : mj_V), (∀ v ∈ as, mj_one v = true) → as[j]? = some v → (i + j, mj_c S ad v) ∈ lv_args i (as.map (mj_c S ad))
  | [], i, j, v, _, h => by simp at h
  | w :: as, i, 0, v, _, h => by
    have e : w = v := by simpa using h
    subst e
    exact List.mem_cons_self
  | w :: as, i, j + 1, v, h1, h => by
    have h2 := mj_c1 S ad (h1 w List.mem_cons_self)
    have h3 : as[j]? = some v := by simpa using h
    have h4 := mj_av as (i + 1) j v (fun w hw => h1 w (List.mem_cons_of_mem _ hw)) h3
    show _ ∈ (i, mj_c S ad w) :: lv_args (if (mj_c S ad w).category = 2 then i + 2 else i + 1) (as.map (mj_c S ad))
    rw [if_neg (by rw [h2]; decide)]
    refine List.mem_cons_of_mem _ ?_
    rw [show i + (j + 1) = i + 1 + j by omega]
    exact h4
theorem mj_entry (as : List mj_V) (h1 : ∀ v ∈ as, mj_one v = true) (hn : as.length ≤ nL) : mj_lv S ad nL (fun j => as[j]?) ((lg_sl (as.map (mj_c S ad)) ++ List.replicate (nL - (lg_sl (as.map (mj_c S ad))).length) Slot.unset).toArray) := by
  have hl := lv_entry (as.map (mj_c S ad)) (n := nL) (by rw [mj_sl as h1]; exact hn)
  refine ⟨hl.1, hl.2.1, fun i v hv => ⟨?_, h1 v (List.mem_of_getElem? hv)⟩⟩
  have h2 := mj_av (S := S) (ad := ad) as 0 i v h1 hv
  rw [Nat.zero_add] at h2
  exact hl.2.2 (i, mj_c S ad v) h2
end
end
section
/-! each instruction of the small machine is one of the true machine -/
/-- how long an instruction is -/
def mj_il (i : Instr) : Nat := match i with
  | .bipush _ => 2
  | .ldc _ => 2
  | .iload _ => 2
  | .aload _ => 2
  | .istore _ => 2
  | .astore _ => 2
  | .sipush _ => 3
  | .iinc _ _ => 3
  | .ifCond _ _ => 3
  | .if_icmp _ _ => 3
  | .goto _ => 3
  | .getfield _ => 3
  | .putfield _ => 3
  | .invokestatic _ => 3
  | .invokevirtual _ => 3
  | .new _ => 3
  | _ => 1
/-- a class of the world: its fields' words, their types, their names apart -/
def mj_okC (q : vw_C) : Bool := (u_ws q.1 q.2.1 q.2.2).all (fun w => decide (w ∈ mj_wY)) && ((List.range q.2.2).all (fun k => (parseFieldDescriptor (q.2.1 k).2.2.1).isSome) && decide (∀ a, a < q.2.2 → ∀ b, b < q.2.2 → a ≠ b → (q.2.1 a).2.1 ≠ (q.2.1 b).2.1))
/-- the field b of place a, by the pool's number idx of class own -/
def mj_okF (S : mj_S) (own : String) (idx a b : Nat) : Bool := match S.1[a]? with
  | some (.inl (ci, fs)) => (match vwCl[ci]? with
      | some (C, F, N) => mj_okC (C, F, N) && (decide (b < N) && (decide (fs.length = N) && decide (Cond.fieldLink own idx (F b).1 (F b).2.1 (F b).2.2.1 ∈ mj_wF)))
      | none => false)
  | _ => false
/-- .. that may be written: an int (v = 0), a boolean (v = 1) -/
def mj_okP (S : mj_S) (own : String) (idx a b : Nat) (v : Int32) : Bool := mj_okF S own idx a b && (match S.1[a]? with
  | some (.inl (ci, _)) => (match vwCl[ci]? with
      | some (_, F, _) => decide ((F b).2.2.2 = false) && ((decide (v = 0) && decide ((F b).2.2.1 = "I")) || (decide (v = 1) && decide ((F b).2.2.1 = "Z")))
      | none => false)
  | _ => false)
def mj_okX (S : mj_S) (own : String) (nL pc : Nat) (i : Instr) (a b : Nat) (v : Int32) : Bool := match i with
  | .iconst n => decide (Int32.ofInt n = v)
  | .bipush n => decide ((Int8.ofInt n).toInt32 = v)
  | .sipush n => decide ((Int16.ofInt n).toInt32 = v)
  | .ldc idx => decide (Cond.constant own idx v ∈ mj_wK)
  | .istore_n j => decide (j.val < nL)
  | .istore j => decide (j < nL)
  | .astore_n j => decide (j.val < nL)
  | .astore j => decide (j < nL)
  | .iinc j n => decide (j < nL) && decide (Int32.ofInt n = v)
  | .ifCond _ off => decide ((pc : Int) + off = (a : Int))
  | .if_icmp _ off => decide ((pc : Int) + off = (a : Int))
  | .goto off => decide ((pc : Int) + off = (a : Int))
  | .getfield idx => mj_okF S own idx a b
  | .putfield idx => mj_okP S own idx a b v
  | .invokestatic idx => (decide (a = 1000) && (decide (Cond.methodLink own idx Lib.Math.abs.name ∈ mj_wM) && (decide (Cond.static Lib.Math.abs.name ∈ mj_wT) && (decide (Cond.initialized "java/lang/Math" ∈ mj_wN) && decide (Cond.code Lib.Math.abs.name Lib.Math.abs.code 1 (some .int) ∈ mj_wC))))) || ((decide (a = 1001) && (decide (Cond.methodLink own idx arraycopyName ∈ mj_wM) && (decide (Cond.native arraycopyName ∈ mj_wO) && (decide (Cond.static arraycopyName ∈ mj_wT) && decide (Cond.initialized "java/lang/System" ∈ mj_wN))))) || decide (a < 1000))
  | _ => true
def mj_sw (i : Instr) : Bool := match i with
  | .tableswitch _ _ _ _ => true
  | _ => false
/-- a row of a method's table -/
def mj_okI (S : mj_S) (T : mj_T) (e : mj_I) : Bool := decide (decode (mj_tb T) e.1 = .ok (e.2.1, e.2.2.1 - e.1)) && ((mj_sw e.2.1 || decide (e.2.2.1 = e.1 + mj_il e.2.1)) && mj_okX S (mj_tn T).cls (mj_tl T) e.1 e.2.1 e.2.2.2.1 e.2.2.2.2.1 e.2.2.2.2.2)
theorem mj_okS {S : mj_S} {T : mj_T} {pc : Nat} {i : Instr} {nx a b : Nat} {v : Int32} (h : mj_okI S T (pc, i, nx, a, b, v) = true) : decode (mj_tb T) pc = .ok (i, nx - pc) := by
  unfold mj_okI at h
  rw [Bool.and_eq_true, decide_eq_true_eq] at h
  exact h.1
theorem mj_okD {S : mj_S} {T : mj_T} {pc : Nat} {i : Instr} {nx a b : Nat} {v : Int32} (h : mj_okI S T (pc, i, nx, a, b, v) = true) (hs : mj_sw i = false) : decode (mj_tb T) pc = .ok (i, mj_il i) ∧ nx = pc + mj_il i ∧ mj_okX S (mj_tn T).cls (mj_tl T) pc i a b v = true := by
  have h1 := mj_okS h
  unfold mj_okI at h
  rw [Bool.and_eq_true, Bool.and_eq_true] at h
  have h2 : (mj_sw i || decide (nx = pc + mj_il i)) = true := h.2.1
  rw [hs, Bool.false_or, decide_eq_true_eq] at h2
  refine ⟨?_, h2, h.2.2⟩
  rw [h1, h2, Nat.add_sub_cancel_left]
section
variable {S : mj_S} {X : Nat × (Nat → Int32)} {ad : Nat → Nat} {cI cR cJ cZ : ClassId} {D : va_G} {A : Nat → Prop} {T : mj_T}
variable {p : Program} {l : Launch} {e : Env} {R : Room} {s : State} {m : MethodId} {args : Array Value} {below : List Frame} {meth : Method} {c : Code} {H : Heap} {locs : List Loc} {cells slots : Nat} {Q : State → Prop}
variable {pc : Nat} {i : Instr} {nx a b : Nat} {v : Int32} {lo lo' : mj_L} {st st' : List mj_V} {M M' : mj_M} {pc' : Nat} {ls : Array Slot}
/-- what a frame of method T stands on -/
def mj_Cx (S : mj_S) (X : Nat × (Nat → Int32)) (ad : Nat → Nat) (cI cR cJ cZ : ClassId) (D : va_G) (A : Nat → Prop) (T : mj_T) (p : Program) (s : State) (m : MethodId) (args : Array Value) (c : Code) : Prop :=
  (p.tables.exec = Jvm.exec ∧ c.code = mj_tb T ∧ c.maxLocals = mj_tl T ∧ s.vm.findClass (mj_tn T).cls = some m.cls ∧ (∀ w ∈ mj_tbl, w.before args s = true)) ∧
  (va_K D vwCl (mj_tys cI cR cJ cZ) s ∧ (∀ M, va_D A (mj_w S ad cI cR cJ cZ M)) ∧ va_X (ad S.1.length) X.1 X.2 s s.heap ∧ ad S.1.length < s.heap.size ∧ ¬ A (ad S.1.length)) ∧
  (∀ (g n k o : Nat), S.1[g]? = some (.inr (.inr (.inl (n, k, o)))) → ∀ r : Nat, r < n → S.2[o + r]? = some k) ∧ (∀ (g n g' n' : Nat), S.1[g]? = some (.inr (.inr (.inr (.inl n)))) → S.1[g']? = some (.inr (.inr (.inr (.inl n')))) → g = g' ∧ n = 1)
theorem mj_cats : ∀ (l : List mj_V), ((l.map (mj_c S ad)).map fun v => v.category).sum ≤ 2 * l.length
  | [] => Nat.le_refl _
  | v :: l => by
    have h := mj_cats l
    have h2 : (mj_c S ad v).category ≤ 2 := by
      match v with
      | .inl x => exact (by decide : 1 ≤ 2)
      | .inr (.inl y) => exact (by decide : 2 ≤ 2)
      | .inr (.inr (.inl q)) => exact (by decide : 1 ≤ 2)
      | .inr (.inr (.inr (g, r))) => exact (by decide : 1 ≤ 2)
    simp only [List.map_cons, List.sum_cons, List.length_cons] at h ⊢
    omega
theorem mj_okC1 {C : String} {F : u_T} {N : Nat} (h : mj_okC (C, F, N) = true) : (∀ w ∈ u_ws C F N, w ∈ mj_tbl) ∧ (∀ k, k < N → parseFieldDescriptor (F k).2.2.1 = some ((parseFieldDescriptor (F k).2.2.1).getD .int)) ∧ (∀ a, a < N → ∀ b, b < N → a ≠ b → (F a).2.1 ≠ (F b).2.1) := by
  unfold mj_okC at h
  rw [Bool.and_eq_true, Bool.and_eq_true, decide_eq_true_eq] at h
  obtain ⟨h1, h2, h3⟩ := h
  refine ⟨fun w hw => mj_inY (of_decide_eq_true (List.all_eq_true.mp h1 w hw)), fun k hk => ?_, h3⟩
  have h4 := List.all_eq_true.mp h2 k (List.mem_range.mpr hk)
  cases hp : parseFieldDescriptor (F k).2.2.1 with
  | none => rw [show (parseFieldDescriptor ((C, F, N).2.1 k).2.2.1).isSome = (parseFieldDescriptor (F k).2.2.1).isSome from rfl, hp] at h4; cases h4
  | some t => rfl
theorem mj_okF1 {idx : Nat} {own : String} {ci : Nat} {fs : List (Option Nat)} (h : mj_okF S own idx a b = true) (hsh : S.1[a]? = some (.inl (ci, fs))) : ∃ (C : String) (F : u_T) (N : Nat), vwCl[ci]? = some (C, F, N) ∧ mj_okC (C, F, N) = true ∧ b < N ∧ fs.length = N ∧ Cond.fieldLink own idx (F b).1 (F b).2.1 (F b).2.2.1 ∈ mj_wF := by
  unfold mj_okF at h
  rw [hsh] at h
  dsimp only at h
  cases hcl : vwCl[ci]? with
  | none => rw [hcl] at h; cases h
  | some w =>
    obtain ⟨C, F, N⟩ := w
    rw [hcl] at h
    dsimp only at h
    rw [Bool.and_eq_true, Bool.and_eq_true, Bool.and_eq_true, decide_eq_true_eq, decide_eq_true_eq, decide_eq_true_eq] at h
    exact ⟨C, F, N, rfl, h⟩
theorem mj_okP1 {idx : Nat} {own : String} {ci : Nat} {fs : List (Option Nat)} {C : String} {F : u_T} {N : Nat} (h : mj_okP S own idx a b v = true) (hsh : S.1[a]? = some (.inl (ci, fs))) (hcl : vwCl[ci]? = some (C, F, N)) : mj_okF S own idx a b = true ∧ (F b).2.2.2 = false ∧ ((v = 0 ∧ (F b).2.2.1 = "I") ∨ (v = 1 ∧ (F b).2.2.1 = "Z")) := by
  unfold mj_okP at h
  rw [Bool.and_eq_true, hsh] at h
  dsimp only at h
  rw [hcl] at h
  dsimp only at h
  rw [Bool.and_eq_true, Bool.or_eq_true, Bool.and_eq_true, Bool.and_eq_true] at h
  simp only [decide_eq_true_eq] at h
  exact h
theorem mj_fl_ref {k j q : Nat} {fs : List (Option Nat)} (h : fs[j]? = some (some q)) : (mj_fl ad M k fs)[j]? = some (.ref (ad q)) := by
  unfold mj_fl
  rw [List.getElem?_mapIdx, h]
  rfl
theorem mj_fl_int {k j : Nat} {fs : List (Option Nat)} (h : fs[j]? = some none) : (mj_fl ad M k fs)[j]? = some (.int (M.1 k j)) := by
  unfold mj_fl
  rw [List.getElem?_mapIdx, h]
  rfl
theorem mj_fl_set {k j : Nat} {x : Int32} {fs : List (Option Nat)} (h : fs[j]? = some none) : (mj_fl ad M k fs).set j (.int x) = mj_fl ad (mj_st M k j x) k fs := by
  unfold mj_fl
  apply mj_mi
  · exact (List.getElem?_eq_some_iff.mp h).1
  · intro n f hn
    cases f with
    | some q => rfl
    | none =>
      show Value.int (M.1 k n) = Value.int ((mj_st M k j x).1 k n)
      simp [mj_st, upd, hn]
  · intro f hf
    rw [h] at hf
    cases hf
    show Value.int x = Value.int ((mj_st M k j x).1 k j)
    simp [mj_st, upd]
theorem mj_st_ne {k j q : Nat} {x : Int32} (h : q ≠ k) : (mj_st M k j x).1 q = M.1 q := by simp [mj_st, h]
theorem mj_st_eq {k j : Nat} {x : Int32} : (mj_st M k j x).1 k = upd (M.1 k) j x := by simp [mj_st]
theorem mj_put_w {ci k j : Nat} {x : Int32} {fs : List (Option Nat)} (hsh : S.1[k]? = some (.inl (ci, fs))) (hf : fs[j]? = some none) : (mj_w S ad cI cR cJ cZ M).set k (ad k, .inr (ci, (mj_fl ad M k fs).set j (.int x))) = mj_w S ad cI cR cJ cZ (mj_st M k j x) := by
  rw [mj_fl_set hf]
  exact mj_w_set (M' := mj_st M k j x) hsh (fun q hq => mj_st_ne hq) (fun _ _ _ _ => rfl)
theorem mj_ast_w {k n j : Nat} {x : Int32} (hsh : S.1[k]? = some (.inr (.inl n))) : (mj_w S ad cI cR cJ cZ M).set k (ad k, .inl (cI, n, .inl (upd (M.1 k) j x))) = mj_w S ad cI cR cJ cZ (mj_st M k j x) := by
  rw [← mj_st_eq]
  exact mj_w_set (M' := mj_st M k j x) hsh (fun q hq => mj_st_ne hq) (fun _ _ _ _ => rfl)
theorem mj_zst_w {k n j : Nat} {x : Int32} (hsh : S.1[k]? = some (.inr (.inr (.inr (.inr n))))) : (mj_w S ad cI cR cJ cZ M).set k (ad k, .inl (cZ, n, .inl (upd (M.1 k) j x))) = mj_w S ad cI cR cJ cZ (mj_st M k j x) := by
  rw [← mj_st_eq]
  exact mj_w_set (M' := mj_st M k j x) hsh (fun q hq => mj_st_ne hq) (fun _ _ _ _ => rfl)
theorem mj_arw_w {r n j : Nat} {x : Int32} (hsh : S.2[r]? = some n) : (mj_w S ad cI cR cJ cZ M).set (S.1.length + r) (ad (S.1.length + 1 + r), .inl (cI, n, .inl (upd (M.1 (S.1.length + 1 + r)) j x))) = mj_w S ad cI cR cJ cZ (mj_st M (S.1.length + 1 + r) j x) := by
  rw [← mj_st_eq]
  exact mj_w_setr (M' := mj_st M (S.1.length + 1 + r) j x) hsh (fun q hq => mj_st_ne hq) rfl
theorem mj_cpy_w {k n : Nat} {f : Nat → Int32} (hsh : S.1[k]? = some (.inr (.inl n))) : (mj_w S ad cI cR cJ cZ M).set k (ad k, .inl (cI, n, .inl f)) = mj_w S ad cI cR cJ cZ (mj_sc M k f) := by
  have e : f = (mj_sc M k f).1 k := by simp [mj_sc]
  have h := mj_w_set (S := S) (ad := ad) (cI := cI) (cR := cR) (cJ := cJ) (cZ := cZ) (M := M) (M' := mj_sc M k f) hsh (fun q hq => by simp [mj_sc, hq]) (fun _ _ _ _ => rfl)
  rw [← h]
  show _ = (mj_w S ad cI cR cJ cZ M).set k (ad k, .inl (cI, n, .inl ((mj_sc M k f).1 k)))
  rw [← e]
theorem mj_lst_w {k n : Nat} {y : Int64} (hsh : S.1[k]? = some (.inr (.inr (.inr (.inl n))))) (h1 : ∀ (a n' : Nat), S.1[a]? = some (.inr (.inr (.inr (.inl n')))) → a = k) : (mj_w S ad cI cR cJ cZ M).set k (ad k, .inl (cJ, n, .inr (.inl (vp_updL (fun j => if j = 0 then M.2 else 0) 0 y)))) = mj_w S ad cI cR cJ cZ (M.1, y) := by
  have e : vp_updL (fun j => if j = 0 then M.2 else 0) 0 y = (fun j => if j = 0 then y else 0) := by
    funext j
    unfold vp_updL
    by_cases h : j = 0
    · rw [if_pos h, if_pos h]
    · rw [if_neg h, if_neg h]
      exact if_neg h
  rw [e]
  exact mj_w_set (M' := (M.1, y)) hsh (fun _ _ => rfl) (fun a n9 h8 h9 => absurd (h1 a n9 h9) h8)
theorem mj_s2 {α : Type} {x y : α} (h : some x = some y) : x = y := Option.some.inj h
set_option maxHeartbeats 4000000 in
set_option maxRecDepth 100000 in
theorem mj_step_ok (C : mj_Cx S X ad cI cR cJ cZ D A T p s m args c) (hR : 2 ≤ R.frames ∧ 60 ≤ R.locals ∧ cells ≤ R.cells ∧ slots ≤ R.slots)
    (ok : mj_okI S T (pc, i, nx, a, b, v) = true) (hP : va_P D vwCl (mj_w S ad cI cR cJ cZ M) H) (hS : va_S A s.heap H locs) (hl : mj_lv S ad (mj_tl T) lo ls)
    (hs : mj_step S X pc i nx a b v lo st M = some (pc', lo', st', M'))
    (kk : ∀ (H' : Heap) (locs' : List Loc) (ls' : Array Slot), va_P D vwCl (mj_w S ad cI cR cJ cZ M') H' → va_S A s.heap H' locs' → mj_lv S ad (mj_tl T) lo' ls' → W p l e R s m args below meth c H' locs' cells slots Q (F0 m pc' ls' (st'.map (mj_c S ad)))) :
    W p l e R s m args below meth c H locs cells slots Q (F0 m pc ls (st.map (mj_c S ad))) := by
  obtain ⟨⟨hx, hb, hml, hown, hts⟩, ⟨hK, hD, hX, hbl, hbA⟩, hgr, hlg⟩ := C
  unfold mj_step at hs
  split at hs
  · unfold mj_const at hs
    cases hs
    obtain ⟨hd, rfl, hv⟩ := mj_okD ok rfl
    exact lv_iconst hx hb hd (of_decide_eq_true hv) (kk _ _ _ hP hS hl)
  · unfold mj_const at hs
    cases hs
    obtain ⟨hd, rfl, hv⟩ := mj_okD ok rfl
    exact lv_bipush hx hb hd (of_decide_eq_true hv) (kk _ _ _ hP hS hl)
  · unfold mj_const at hs
    cases hs
    obtain ⟨hd, rfl, hv⟩ := mj_okD ok rfl
    exact lv_sipush hx hb hd (of_decide_eq_true hv) (kk _ _ _ hP hS hl)
  · unfold mj_const at hs
    cases hs
    obtain ⟨hd, rfl, hv⟩ := mj_okD ok rfl
    exact lv_ldc hx hb hown (hts _ (mj_inK (of_decide_eq_true hv))) hd (kk _ _ _ hP hS hl)
  · unfold mj_iload at hs
    split at hs
    · next x hq =>
      cases hs
      obtain ⟨hd, rfl, -⟩ := mj_okD ok rfl
      exact lv_iload_n hx hb hd rfl (hl.2.2 _ _ hq).1 (kk _ _ _ hP hS hl)
    · cases hs
  · unfold mj_iload at hs
    split at hs
    · next x hq =>
      cases hs
      obtain ⟨hd, rfl, -⟩ := mj_okD ok rfl
      exact lv_iload hx hb hd (hl.2.2 _ _ hq).1 (kk _ _ _ hP hS hl)
    · cases hs
  · unfold mj_aload at hs
    split at hs
    · next q hq =>
      cases hs
      obtain ⟨hd, rfl, -⟩ := mj_okD ok rfl
      match q, hq, kk with
      | .inl q, hq, kk => exact lv_aload_n hx hb hd rfl (hl.2.2 _ _ hq).1 (kk _ _ _ hP hS hl)
      | .inr (g, r), hq, kk => exact lv_aload_n hx hb hd rfl (hl.2.2 _ _ hq).1 (kk _ _ _ hP hS hl)
    · cases hs
  · unfold mj_aload at hs
    split at hs
    · next q hq =>
      cases hs
      obtain ⟨hd, rfl, -⟩ := mj_okD ok rfl
      match q, hq, kk with
      | .inl q, hq, kk => exact lv_aload hx hb hd (hl.2.2 _ _ hq).1 (kk _ _ _ hP hS hl)
      | .inr (g, r), hq, kk => exact lv_aload hx hb hd (hl.2.2 _ _ hq).1 (kk _ _ _ hP hS hl)
    · cases hs
  · unfold mj_istore at hs
    split at hs
    · cases hs
      obtain ⟨hd, rfl, hv⟩ := mj_okD ok rfl
      exact lv_istore_n hx hb hd rfl hl.has (of_decide_eq_true hv) rfl (fun ls' hl' => kk _ _ _ hP hS (hl.up rfl hl'))
    · cases hs
  · unfold mj_istore at hs
    split at hs
    · cases hs
      obtain ⟨hd, rfl, hv⟩ := mj_okD ok rfl
      exact lv_istore hx hb hd hl.has (of_decide_eq_true hv) rfl (fun ls' hl' => kk _ _ _ hP hS (hl.up rfl hl'))
    · cases hs
  · unfold mj_astore at hs
    split at hs
    · next q st9 =>
      cases hs
      obtain ⟨hd, rfl, hv⟩ := mj_okD ok rfl
      match q, kk with
      | .inl q, kk => exact lv_astore_n hx hb hd rfl hl.has (of_decide_eq_true hv) rfl (fun ls' hl' => kk _ _ _ hP hS (hl.up (v := .inr (.inr (.inl q))) rfl hl'))
      | .inr (g, r), kk => exact lv_astore_n hx hb hd rfl hl.has (of_decide_eq_true hv) rfl (fun ls' hl' => kk _ _ _ hP hS (hl.up (v := .inr (.inr (.inr (g, r)))) rfl hl'))
    · cases hs
  · unfold mj_astore at hs
    split at hs
    · next q st9 =>
      cases hs
      obtain ⟨hd, rfl, hv⟩ := mj_okD ok rfl
      match q, kk with
      | .inl q, kk => exact lv_astore hx hb hd hl.has (of_decide_eq_true hv) rfl (fun ls' hl' => kk _ _ _ hP hS (hl.up (v := .inr (.inr (.inl q))) rfl hl'))
      | .inr (g, r), kk => exact lv_astore hx hb hd hl.has (of_decide_eq_true hv) rfl (fun ls' hl' => kk _ _ _ hP hS (hl.up (v := .inr (.inr (.inr (g, r)))) rfl hl'))
    · cases hs
  · unfold mj_iinc at hs
    split at hs
    · next x hq =>
      cases hs
      obtain ⟨hd, rfl, hv⟩ := mj_okD ok rfl
      have hv : (decide _ && decide _) = true := hv
      rw [Bool.and_eq_true, decide_eq_true_eq, decide_eq_true_eq] at hv
      obtain ⟨k9, hk9⟩ := List.getElem?_of_mem (hl.mem hq)
      exact lv_iinc hx hb hd hl.has hk9 (by rw [hv.2]) hv.1 rfl (fun ls' hl' => kk _ _ _ hP hS (hl.up rfl hl'))
    · cases hs
  · unfold mj_bin at hs
    split at hs
    · cases hs
      obtain ⟨hd, rfl, -⟩ := mj_okD ok rfl
      exact lv_iadd hx hb hd (kk _ _ _ hP hS hl)
    · cases hs
  · unfold mj_bin at hs
    split at hs
    · cases hs
      obtain ⟨hd, rfl, -⟩ := mj_okD ok rfl
      exact lv_isub hx hb hd (kk _ _ _ hP hS hl)
    · cases hs
  · unfold mj_bin at hs
    split at hs
    · cases hs
      obtain ⟨hd, rfl, -⟩ := mj_okD ok rfl
      exact lv_imul hx hb hd (kk _ _ _ hP hS hl)
    · cases hs
  · unfold mj_bin at hs
    split at hs
    · cases hs
      obtain ⟨hd, rfl, -⟩ := mj_okD ok rfl
      exact lv_iand hx hb hd (kk _ _ _ hP hS hl)
    · cases hs
  · unfold mj_div at hs
    split at hs
    · split at hs
      · next h0 =>
        cases hs
        obtain ⟨hd, rfl, -⟩ := mj_okD ok rfl
        exact lv_idiv hx hb hd h0 (kk _ _ _ hP hS hl)
      · cases hs
    · cases hs
  · unfold mj_div at hs
    split at hs
    · split at hs
      · next h0 =>
        cases hs
        obtain ⟨hd, rfl, -⟩ := mj_okD ok rfl
        exact lv_irem hx hb hd h0 (kk _ _ _ hP hS hl)
      · cases hs
    · cases hs
  · unfold mj_ineg at hs
    split at hs
    · cases hs
      obtain ⟨hd, rfl, -⟩ := mj_okD ok rfl
      exact lv_ineg hx hb hd (kk _ _ _ hP hS hl)
    · cases hs
  · unfold mj_dup at hs
    split at hs
    · split at hs
      · next h0 =>
        cases hs
        obtain ⟨hd, rfl, -⟩ := mj_okD ok rfl
        exact lv_dup hx hb hd (mj_c1 S ad h0) (kk _ _ _ hP hS hl)
      · cases hs
    · cases hs
  · unfold mj_pop1 at hs
    split at hs
    · split at hs
      · next h0 =>
        cases hs
        obtain ⟨hd, rfl, -⟩ := mj_okD ok rfl
        exact lv_pop hx hb hd (mj_c1 S ad h0) (kk _ _ _ hP hS hl)
      · cases hs
    · cases hs
  · unfold mj_dup2 at hs
    split at hs
    · split at hs
      · next h0 =>
        cases hs
        obtain ⟨hd, rfl, -⟩ := mj_okD ok rfl
        exact lv_dup2_11 hx hb hd (mj_c1 S ad h0.1) (mj_c1 S ad h0.2) (kk _ _ _ hP hS hl)
      · cases hs
    · cases hs
  · unfold mj_dupx1 at hs
    split at hs
    · split at hs
      · next h0 =>
        cases hs
        obtain ⟨hd, rfl, -⟩ := mj_okD ok rfl
        exact lv_dup_x1 hx hb hd (mj_c1 S ad h0.1) (mj_c1 S ad h0.2) (kk _ _ _ hP hS hl)
      · cases hs
    · cases hs
  · unfold mj_i2l at hs
    split at hs
    · cases hs
      obtain ⟨hd, rfl, -⟩ := mj_okD ok rfl
      exact lv_i2l hx hb hd rfl (kk _ _ _ hP hS hl)
    · cases hs
  · unfold mj_lcmp at hs
    split at hs
    · cases hs
      obtain ⟨hd, rfl, -⟩ := mj_okD ok rfl
      exact W.lcmp hx hb hd (kk _ _ _ hP hS hl)
    · cases hs
  · next cnd off =>
    unfold mj_if0 at hs
    split at hs
    · obtain ⟨hd, rfl, hv⟩ := mj_okD ok rfl
      have ht : (pc : Int) + off = (a : Int) := of_decide_eq_true hv
      unfold mj_br at hs
      split at hs
      · refine lv_if_eq hx hb hd ht (fun h9 => ?_) (fun h9 => ?_)
        · rw [if_pos h9] at hs
          cases hs
          exact kk _ _ _ hP hS hl
        · rw [if_neg h9] at hs
          cases hs
          exact kk _ _ _ hP hS hl
      · refine lv_if_ne hx hb hd ht (fun h9 => ?_) (fun h9 => ?_)
        · rw [if_neg h9] at hs
          cases hs
          exact kk _ _ _ hP hS hl
        · rw [if_pos h9] at hs
          cases hs
          exact kk _ _ _ hP hS hl
      · refine lv_if_lt hx hb hd ht (fun h9 => ?_) (fun h9 => ?_)
        · rw [if_pos h9] at hs
          cases hs
          exact kk _ _ _ hP hS hl
        · rw [if_neg h9] at hs
          cases hs
          exact kk _ _ _ hP hS hl
      · refine lv_if_ge hx hb hd ht (fun h9 => ?_) (fun h9 => ?_)
        · rw [if_pos h9] at hs
          cases hs
          exact kk _ _ _ hP hS hl
        · rw [if_neg h9] at hs
          cases hs
          exact kk _ _ _ hP hS hl
      · refine lv_if_gt hx hb hd ht (fun h9 => ?_) (fun h9 => ?_)
        · rw [if_pos h9] at hs
          cases hs
          exact kk _ _ _ hP hS hl
        · rw [if_neg h9] at hs
          cases hs
          exact kk _ _ _ hP hS hl
      · refine lv_if_le hx hb hd ht (fun h9 => ?_) (fun h9 => ?_)
        · rw [if_pos h9] at hs
          cases hs
          exact kk _ _ _ hP hS hl
        · rw [if_neg h9] at hs
          cases hs
          exact kk _ _ _ hP hS hl
    · cases hs
  · next cnd off =>
    unfold mj_if2 at hs
    split at hs
    · obtain ⟨hd, rfl, hv⟩ := mj_okD ok rfl
      have ht : (pc : Int) + off = (a : Int) := of_decide_eq_true hv
      unfold mj_br at hs
      split at hs
      · refine lv_icmp_eq hx hb hd ht (fun h9 => ?_) (fun h9 => ?_)
        · rw [if_pos h9] at hs
          cases hs
          exact kk _ _ _ hP hS hl
        · rw [if_neg h9] at hs
          cases hs
          exact kk _ _ _ hP hS hl
      · refine lv_icmp_ne hx hb hd ht (fun h9 => ?_) (fun h9 => ?_)
        · rw [if_neg h9] at hs
          cases hs
          exact kk _ _ _ hP hS hl
        · rw [if_pos h9] at hs
          cases hs
          exact kk _ _ _ hP hS hl
      · refine lv_icmp_lt hx hb hd ht (fun h9 => ?_) (fun h9 => ?_)
        · rw [if_pos h9] at hs
          cases hs
          exact kk _ _ _ hP hS hl
        · rw [if_neg h9] at hs
          cases hs
          exact kk _ _ _ hP hS hl
      · refine lv_icmp_ge hx hb hd ht (fun h9 => ?_) (fun h9 => ?_)
        · rw [if_pos h9] at hs
          cases hs
          exact kk _ _ _ hP hS hl
        · rw [if_neg h9] at hs
          cases hs
          exact kk _ _ _ hP hS hl
      · refine lv_icmp_gt hx hb hd ht (fun h9 => ?_) (fun h9 => ?_)
        · rw [if_pos h9] at hs
          cases hs
          exact kk _ _ _ hP hS hl
        · rw [if_neg h9] at hs
          cases hs
          exact kk _ _ _ hP hS hl
      · refine lv_icmp_le hx hb hd ht (fun h9 => ?_) (fun h9 => ?_)
        · rw [if_pos h9] at hs
          cases hs
          exact kk _ _ _ hP hS hl
        · rw [if_neg h9] at hs
          cases hs
          exact kk _ _ _ hP hS hl
    · cases hs
  · cases hs
    obtain ⟨hd, rfl, hv⟩ := mj_okD ok rfl
    exact lv_goto hx hb hd (of_decide_eq_true hv) (kk _ _ _ hP hS hl)
  · next idx =>
    unfold mj_get at hs
    split at hs
    · next q st9 =>
      split at hs
      · next hqa =>
        subst hqa
        obtain ⟨hd, rfl, hv⟩ := mj_okD ok rfl
        split at hs
        · next ci fs hsh =>
          obtain ⟨C, F, N, hcl, hC, hbN, hlen, hlk⟩ := mj_okF1 (S := S) hv hsh
          split at hs
          · next q9 hfb =>
            cases hs
            exact va_get (ci := ci) (C := C) (T := F) (N := N) hx hb hts (mj_okC1 hC).1 hown hK hP q (mj_w_at hsh) hcl b hbN (hts _ (mj_inF hlk)) (fun _ h9 => h9) (mj_fl_ref hfb) hd (kk _ _ _ hP hS hl)
          · next hfb =>
            cases hs
            exact va_get (ci := ci) (C := C) (T := F) (N := N) hx hb hts (mj_okC1 hC).1 hown hK hP q (mj_w_at hsh) hcl b hbN (hts _ (mj_inF hlk)) (fun _ h9 => h9) (mj_fl_int hfb) hd (kk _ _ _ hP hS hl)
          · cases hs
        · cases hs
      · cases hs
    · cases hs
  · next idx =>
    unfold mj_put at hs
    split at hs
    · next x q st9 =>
      split at hs
      · next hqa =>
        subst hqa
        obtain ⟨hd, rfl, hv⟩ := mj_okD ok rfl
        split at hs
        · next ci fs hsh =>
          have hv : mj_okP S (mj_tn T).cls idx q b v = true := hv
          have hv0 : mj_okF S (mj_tn T).cls idx q b = true := by
            unfold mj_okP at hv
            rw [Bool.and_eq_true] at hv
            exact hv.1
          obtain ⟨C, F, N, hcl, hC, hbN, hlen, hlk⟩ := mj_okF1 (S := S) hv0 hsh
          obtain ⟨-, hfin, hty⟩ := mj_okP1 (S := S) hv hsh hcl
          split at hs
          · next hfb =>
            split at hs
            · next hz =>
              cases hs
              have hlb : b < (mj_fl ad M q fs).length := by
                unfold mj_fl
                rw [List.length_mapIdx, hlen]
                exact hbN
              rcases hty with ⟨hv0, hI⟩ | ⟨hv1, hZ⟩
              · exact va_put (ci := ci) (C := C) (T := F) (N := N) (ty := .int) (v := .int x) hx hb hts (mj_okC1 hC).1 _ (mj_okC1 hC).2.1 (mj_okC1 hC).2.2 hown hK hP (hD M) hS q (mj_w_at hsh) hcl b hbN (hts _ (mj_inF hlk)) (fun _ h9 => h9) hfin (by rw [hI]; decide +kernel) rfl rfl hlb hd (fun H1 locs1 hP1 _ hS1 => kk _ _ _ (by rw [← mj_put_w hsh hfb]; exact hP1) hS1 hl)
              · have hx01 : x = 0 ∨ x = 1 := by
                  rcases hz with h | h
                  · rw [hv1] at h; exact absurd h (by decide)
                  · exact h
                refine va_put (ci := ci) (C := C) (T := F) (N := N) (ty := .boolean) (v := .int x) hx hb hts (mj_okC1 hC).1 _ (mj_okC1 hC).2.1 (mj_okC1 hC).2.2 hown hK hP (hD M) hS q (mj_w_at hsh) hcl b hbN (hts _ (mj_inF hlk)) (fun _ h9 => h9) hfin (by rw [hZ]; decide +kernel) ?_ ?_ hlb hd (fun H1 locs1 hP1 _ hS1 => kk _ _ _ (by rw [← mj_put_w hsh hfb]; exact hP1) hS1 hl)
                · rcases hx01 with rfl | rfl <;> decide +kernel
                · rcases hx01 with rfl | rfl <;> decide +kernel
            · cases hs
          · cases hs
        · cases hs
      · cases hs
    · cases hs
  · unfold mj_iald at hs
    split at hs
    · next i9 q st9 =>
      obtain ⟨hd, rfl, -⟩ := mj_okD ok rfl
      split at hs
      · next n hsh =>
        split at hs
        · next hin =>
          cases hs
          exact va_iald hx hb hK hP q 0 (cA := cI) (mj_w_at hsh) rfl hin hd (kk _ _ _ hP hS hl)
        · cases hs
      · split at hs
        · next hq =>
          cases hs
          obtain ⟨rfl, hin⟩ := hq
          exact va_sld hx hb hX hbl hbA hS hin hd (kk _ _ _ hP hS hl)
        · cases hs
      · cases hs
    · next i9 g r st9 =>
      obtain ⟨hd, rfl, -⟩ := mj_okD ok rfl
      split at hs
      · next n k o hsh =>
        split at hs
        · next hq =>
          cases hs
          have e9 : mj_c S ad (.inr (.inr (.inr (g, r)))) = .ref (ad (S.1.length + 1 + (o + r))) := by simp only [mj_c, mj_ra, hsh, mj_rw]
          rw [List.map_cons, List.map_cons, e9]
          exact va_iald hx hb hK hP (S.1.length + (o + r)) 0 (cA := cI) (mj_w_row (hgr g n k o hsh r hq.1)) rfl hq.2 hd (kk _ _ _ hP hS hl)
        · cases hs
      · cases hs
    · cases hs
  · unfold mj_iast at hs
    split at hs
    · next x i9 q st9 =>
      obtain ⟨hd, rfl, -⟩ := mj_okD ok rfl
      split at hs
      · next n hsh =>
        split at hs
        · next hin =>
          cases hs
          exact va_iast hx hb hK hP (hD M) hS q 0 (cA := cI) (mj_w_at hsh) rfl hin hd (fun H1 locs1 hP1 _ hS1 => kk _ _ _ (by rw [← mj_ast_w hsh]; exact hP1) hS1 hl)
        · cases hs
      · cases hs
    · next x i9 g r st9 =>
      obtain ⟨hd, rfl, -⟩ := mj_okD ok rfl
      split at hs
      · next n k o hsh =>
        split at hs
        · next hq =>
          cases hs
          have e9 : mj_c S ad (.inr (.inr (.inr (g, r)))) = .ref (ad (S.1.length + 1 + (o + r))) := by simp only [mj_c, mj_ra, hsh, mj_rw]
          rw [List.map_cons, List.map_cons, List.map_cons, e9]
          exact va_iast hx hb hK hP (hD M) hS (S.1.length + (o + r)) 0 (cA := cI) (mj_w_row (hgr g n k o hsh r hq.1)) rfl hq.2 hd (fun H1 locs1 hP1 _ hS1 => kk _ _ _ (by rw [mj_rw, ← mj_arw_w (hgr g n k o hsh r hq.1)]; exact hP1) hS1 hl)
        · cases hs
      · cases hs
    · cases hs
  · unfold mj_aald at hs
    split at hs
    · next i9 q st9 =>
      obtain ⟨hd, rfl, -⟩ := mj_okD ok rfl
      split at hs
      · next n k o hsh =>
        split at hs
        · next hin =>
          cases hs
          have hlt : i9.toNatClampNeg < n := Nat.not_le.mp fun q => hin (Or.inr q)
          have e9 : mj_c S ad (.inr (.inr (.inr (q, i9.toNatClampNeg)))) = va_rf (if i9.toNatClampNeg < n then some (ad (mj_rw S o i9.toNatClampNeg)) else none) := by
            rw [if_pos hlt]
            simp only [mj_c, mj_ra, hsh, va_rf]
          have k9 := kk _ _ _ hP hS hl
          rw [List.map_cons, e9] at k9
          exact W.aald (v := va_rf (if i9.toNatClampNeg < n then some (ad (mj_rw S o i9.toNatClampNeg)) else none)) (ty := .array .int) hx hb (hP q _ (mj_w_at hsh)) ((hK.2 1 (cR, .array .int) rfl).1 n (fun j => va_rf (if j < n then some (ad (mj_rw S o j)) else none))) rfl (fun q => by cases q) (by show ¬ (i9 < 0 ∨ (arrV _ _ _).slots.size ≤ _); rw [arrV_size]; exact hin) (by show (arrV _ _ _).slots[_]? = _; rw [arrV_read _ _ hlt]) rfl rfl hd k9
        · cases hs
      · cases hs
    · cases hs
  · unfold mj_zald at hs
    split at hs
    · next i9 q st9 =>
      obtain ⟨hd, rfl, -⟩ := mj_okD ok rfl
      split at hs
      · next n hsh =>
        split at hs
        · next hin =>
          cases hs
          exact va_zald hx hb hK hP q 3 (cA := cZ) (mj_w_at hsh) rfl hin hd (kk _ _ _ hP hS hl)
        · cases hs
      · cases hs
    · cases hs
  · unfold mj_zast at hs
    split at hs
    · next x i9 q st9 =>
      obtain ⟨hd, rfl, -⟩ := mj_okD ok rfl
      split at hs
      · next n hsh =>
        split at hs
        · next hin =>
          cases hs
          have hnar : vp_nar .boolean x = x := by
            rcases hin.2 with rfl | rfl <;> decide +kernel
          exact va_zast hx hb hK hP (hD M) hS q 3 (cA := cZ) (mj_w_at hsh) rfl hin.1 hd (fun H1 locs1 hP1 _ hS1 => kk _ _ _ (by rw [← mj_zst_w hsh]; rw [hnar] at hP1; exact hP1) hS1 hl)
        · cases hs
      · cases hs
    · cases hs
  · unfold mj_lald at hs
    split at hs
    · next i9 q st9 =>
      obtain ⟨hd, rfl, -⟩ := mj_okD ok rfl
      split at hs
      · next n hsh =>
        split at hs
        · next h0 =>
          subst h0
          cases hs
          obtain ⟨-, rfl⟩ := hlg q n q n hsh hsh
          exact va_lald hx hb hK hP q 2 (cA := cJ) (mj_w_at hsh) rfl (i := 0) (by unfold vp_in; decide) hd (kk _ _ _ hP hS hl)
        · cases hs
      · cases hs
    · cases hs
  · unfold mj_last at hs
    split at hs
    · next y9 i9 q st9 =>
      obtain ⟨hd, rfl, -⟩ := mj_okD ok rfl
      split at hs
      · next n hsh =>
        split at hs
        · next h0 =>
          subst h0
          cases hs
          obtain ⟨-, rfl⟩ := hlg q n q n hsh hsh
          exact va_last hx hb hK hP (hD M) hS q 2 (cA := cJ) (mj_w_at hsh) rfl (i := 0) (by unfold vp_in; decide) hd (fun H1 locs1 hP1 _ hS1 => kk _ _ _ (by rw [← mj_lst_w hsh (fun a9 n9 h9 => (hlg a9 n9 q 1 h9 hsh).1)]; exact hP1) hS1 hl)
        · cases hs
      · cases hs
    · cases hs
  · unfold mj_alen at hs
    split at hs
    · next q st9 =>
      obtain ⟨hd, rfl, -⟩ := mj_okD ok rfl
      split at hs
      · next n hsh =>
        cases hs
        exact va_alen hx hb hK hP q 0 (cA := cI) (x := (n, .inl (M.1 q))) (mj_w_at hsh) (ty := .int) rfl rfl hd (kk _ _ _ hP hS hl)
      · split at hs
        · next hq =>
          cases hs
          subst hq
          exact va_slen hx hb hX hbl hbA hS hd (kk _ _ _ hP hS hl)
        · cases hs
      · cases hs
    · cases hs
  · next idx =>
    obtain ⟨hd, rfl, hv⟩ := mj_okD ok rfl
    have hv : mj_okX S (mj_tn T).cls (mj_tl T) pc (.invokestatic idx) a b v = true := hv
    simp only [mj_okX, Bool.or_eq_true, Bool.and_eq_true, decide_eq_true_eq] at hv
    unfold mj_nat at hs
    split at hs
    · next ha =>
      subst ha
      rcases hv with ⟨-, h1, h2, h3, h4⟩ | ⟨h9, -⟩ | h9
      · split at hs
        · next x st9 =>
          split at hs
          · next hlen =>
            cases hs
            have hc9 := mj_cats (S := S) (ad := ad) st9
            exact va_mabs hx hb (hml.trans hl.1.symm) hown (hts _ (mj_inM h1)) (hts _ (mj_inT h2)) (hts _ (mj_inN h3)) (hts _ (mj_inC h4)) (by omega) (by omega) hR.2.2.1 hR.2.2.2 hd (kk _ _ _ hP hS hl)
          · cases hs
        · cases hs
      · exact absurd h9 (by decide)
      · exact absurd h9 (by decide)
    · split at hs
      · next ha =>
        subst ha
        rcases hv with ⟨h9, -⟩ | ⟨-, h1, h2, h3, h4⟩ | h9
        · exact absurd h9 (by decide)
        · split at hs
          · next n9 dp q1 sp q0 st9 =>
            split at hs
            · next n0 n1 hs0 hs1 =>
              split at hs
              · next hc =>
                have hc9 := mj_cats (S := S) (ad := ad) st9
                cases hs
                obtain ⟨⟨c1, c2, c3, hlen⟩, c4, c5⟩ := hc
                have hnf : nativeFrameWords "java/lang/System" "arraycopy" 5 ≤ 30 := by decide +kernel
                exact va_copyi hx hb (hml.trans hl.1.symm) hown (hts _ (mj_inM h1)) (hts _ (mj_inO h2)) (hts _ (mj_inT h3)) (hts _ (mj_inN h4)) hK hP (hD M) hS q0 q1 0 0 (c0 := cI) (c1 := cI) (ty := .int) (mj_w_at hs0) (mj_w_at hs1) rfl rfl rfl c1 c2 c3 c4 c5 (fun _ _ => rfl) (by omega) (by omega) hd (fun H1 locs1 hP1 _ hS1 => kk _ _ _ (by rw [← mj_cpy_w hs1]; exact hP1) hS1 hl)
              · cases hs
            · cases hs
          · cases hs
        · exact absurd h9 (by decide)
      · cases hs
  · next dflt lw hi offs =>
    have hd := mj_okS ok
    unfold mj_tsw at hs
    split at hs
    · next x st9 =>
      split at hs
      · next hc =>
        split at hs
        · next h0 =>
          cases hs
          exact lv_tableOut hx hb hd hc (Int.toNat_of_nonneg h0).symm (kk _ _ _ hP hS hl)
        · cases hs
      · next hc =>
        split at hs
        · next off ho =>
          split at hs
          · next h0 =>
            cases hs
            exact lv_tableIn hx hb hd (fun h => hc (Or.inl h)) (fun h => hc (Or.inr h)) ho (Int.toNat_of_nonneg h0).symm (kk _ _ _ hP hS hl)
          · cases hs
        · cases hs
    · cases hs
  · cases hs
end
end
section
/-! 'throw new E(text)' where E's constructor hands on to its superclass by any number of the pool (after the library's ctorThrowS, whose chain has the number 7 throughout; and after vx_throwS) -/
def mj_atoms (own : String) (ic : Nat) (cls Y : String) (r : List String) (i1 : Nat) (b1 : ByteArray) : List Cond :=
  Bundle.throwableAtoms ++ (Bundle.throwableSAtoms ++ (Bundle.passSAtoms cls Y i1 b1 ++ (Bundle.chainSAtoms Y r ++
  [.methodLink own ic (Bundle.initS cls), .instantiable cls 6, .castable cls cls, .selects cls Bundle.tFill0 Bundle.tFill0, .selects cls Bundle.tFill Bundle.tFill,
   .lays cls Bundle.tN "cause" "Ljava/lang/Throwable;", .lays cls Bundle.tN "stackTrace" Bundle.steD, .lays cls Bundle.tN "suppressedExceptions" Bundle.listD, .lays cls Bundle.tN "detailMessage" "Ljava/lang/String;",
   .isRef (.static Bundle.tN "UNASSIGNED_STACK" Bundle.steD), .isRef (.static Bundle.tN "SUPPRESSED_SENTINEL" Bundle.listD),
   .fieldLink Bundle.tN 198 Bundle.tN "backtrace" "Ljava/lang/Object;", .lays Bundle.tN Bundle.tN "backtrace" "Ljava/lang/Object;", .lays cls Bundle.tN "backtrace" "Ljava/lang/Object;"])))
section
variable {p : Program} {l : Launch} {e : Env} {R : Room} {s : State} {m₀ : MethodId} {args : Array Value} {below : List Frame} {meth : Method} {c : Code} {W0 : State} {locs : List Loc} {cells slots : Nat}
set_option maxHeartbeats 2000000 in
theorem mj_ctor (X : Stand p l e R s m₀ args below meth c W0 locs cells slots) (hexec : p.tables.exec = Jvm.exec) (htr : e.platform.stackTraces = false) {own cls Y : String} {r : List String} {ic i1 : Nat} {b1 : ByteArray}
    (hb0 : decode b1 0 = .ok (.aload_n 0, 1)) (hb1 : decode b1 1 = .ok (.aload_n 1, 1)) (hb2 : decode b1 2 = .ok (.invokespecial i1, 3)) (hb5 : decode b1 5 = .ok (.return_, 1))
    (hown : s.vm.findClass own = some m₀.cls) (hcls : Bundle.fit cls = true) (hY : Bundle.fit Y = true) (hnames : ∀ n ∈ r, Bundle.fit n = true)
    (h : ∀ a ∈ mj_atoms own ic cls Y r i1 b1, a.before args s = true)
    (hlocs : ∀ x ∈ locs, ∀ cell, s.heap[x.base]? = some cell → cell.vm.isStatics = false)
    {a : Addr} {cX : ClassId} {kX : Class} (hfoundX : s.vm.findClass cls = some cX) (hkX : s.vm.classes[cX]? = some kX) (hcell : W0.heap[a]? = some (freshCell cX kX)) (hnew : s.heap.size ≤ a)
    {msg : Value} (hmsg : msg.isRef = true)
    {g : JFrame} (hg : g.method = m₀) (hsize : g.locals.size = c.maxLocals) (hlocked : g.locked = none) (hentered : g.entered = []) {rest : List Value} (hstack : g.stack = msg :: .ref a :: .ref a :: rest)
    (hd6 : decode c.code g.pc = .ok (.invokespecial ic, 3)) (hd9 : decode c.code (g.pc + 3) = .ok (.athrow, 1)) (hout : ∀ x ∈ c.exceptionTable.toList, covers x (g.pc + 3) = false)
    (hRframes : r.length + 4 < R.frames) (hRlocals : 2 * g.monitorRoom + ((Value.ref a :: rest).map fun v => v.category).sum + (13 * (r.length + 2) + 42) ≤ R.locals) (hlocks : meth.locks = false) :
    ∃ U : State, Steps p.tables e below (W0.setTop g) U ∧ U.status = .running ∧ Ended U below (.threw a) ∧ s.WarmedH U.vm ∧ s.sameButNew ({ U with vm := s.vm } : State) locs cells slots ∧
      ∃ ce, U.heap[a]? = some ce ∧ s.vm.findClass cls = some ce.cls ∧ ce.vm = .none := by
  have howns : e.platform.frameOwnsMonitors = true := by rw [X.admits.platform]
  have hfin : e.platform.finalization = false := by rw [X.admits.platform]
  have hpl : e.platform.magicAccessors = ({} : Platform).magicAccessors := by rw [X.admits.platform]
  have a' : ∀ x, x ∈ mj_atoms own ic cls Y r i1 b1 → x.holds args s none s [] = true := fun x hx => h x hx
  obtain ⟨T, Z0, L, -, Yk⟩ := ThrowableC.of_atoms (args := args) howns hfin hpl (fun x hx => h x (by simp [mj_atoms, hx]))
  obtain ⟨Z, M, LZ, LM, hnZ⟩ := Init0T.ofS_atoms (args := args) hpl L Yk (fun x hx => h x (by simp [mj_atoms, hx]))
  obtain ⟨P1, L1, hP1m, hs1⟩ := PassC.ofS_atoms (args := args) (s := s) hpl (X := cls) (Y := Y) (Bundle.fit_spec hcls).1 (Bundle.fit_spec hY).2 hb0 hb1 hb2 hb5 (fun x hx => h x (by simp [mj_atoms, hx]))
  obtain ⟨P2, Ps, hlen, L2, hL, hP2m, hlink2, hlink⟩ := Bundle.chainS (args := args) hpl hnZ r Y hY hnames (fun x hx => h x (by simp [mj_atoms, hx]))
  have hlink1 : P1.sup = P2.m := Option.some.inj (hs1.symm.trans hP2m)
  have hfound : s.vm.findClass cls = some P1.m.cls := findClass_of_methodNamed hP1m
  cases Option.some.inj (hfoundX.symm.trans hfound)
  obtain ⟨c1, kX', hc1, hk, hord, -, -, hn6⟩ := Cond.instantiable_spec (a' (.instantiable cls 6) (by simp [mj_atoms]))
  cases Option.some.inj (hc1.symm.trans hfound)
  cases Option.some.inj (hkX.symm.trans hk)
  have hsel0 : selectMethod e.platform s.vm P1.m.cls T.fill0 = .method T.fill0 := by
    obtain ⟨c2, r2, m2, q1, q2, q3, q4, -⟩ := Cond.selects_spec (a' (.selects cls Bundle.tFill0 Bundle.tFill0) (by simp [mj_atoms]))
    cases Option.some.inj (q1.symm.trans hfound)
    cases Option.some.inj (q2.symm.trans (State.methodFound?_of_named Yk.fill0 (by decide)))
    cases Option.some.inj (q3.symm.trans Yk.fill0)
    rw [Launch.admits_selectMethod X.admits]; exact q4
  have hselF : selectMethod e.platform s.vm P1.m.cls T.fill = .method T.fill := by
    obtain ⟨c2, r2, m2, q1, q2, q3, q4, -⟩ := Cond.selects_spec (a' (.selects cls Bundle.tFill Bundle.tFill) (by simp [mj_atoms]))
    cases Option.some.inj (q1.symm.trans hfound)
    cases Option.some.inj (q2.symm.trans (State.methodFound?_of_named Yk.fill (by decide)))
    cases Option.some.inj (q3.symm.trans Yk.fill)
    rw [Launch.admits_selectMethod X.admits]; exact q4
  obtain ⟨cellS0, hcS0, hiss⟩ := Yk.statics
  obtain ⟨u0, hu0⟩ := Cond.staticRefV Yk.unassigned L.unassignedStatic L.statics hcS0 hiss (a' (.isRef (.static Bundle.tN "UNASSIGNED_STACK" Bundle.steD)) (by simp [mj_atoms]))
  obtain ⟨sen, hsen⟩ := Cond.staticRefV Yk.sentinel L.sentinelStatic L.statics hcS0 hiss (a' (.isRef (.static Bundle.tN "SUPPRESSED_SENTINEL" Bundle.listD)) (by simp [mj_atoms]))
  obtain ⟨ci198, i198, fB, hk198, hg198, ha198, hsB, -, hnB, htB, hffB⟩ := Cond.ownField (t := .object "java/lang/Object") Yk.found L.cls (by decide +kernel) (a' (.fieldLink Bundle.tN 198 Bundle.tN "backtrace" "Ljava/lang/Object;") (by simp [mj_atoms])) (a' (.lays Bundle.tN Bundle.tN "backtrace" "Ljava/lang/Object;") (by simp [mj_atoms])) e.platform hpl
  obtain ⟨cellS, hcS', heS, -, hkeep⟩ := X.same.2.2.2.2.2 T.aS cellS0 hcS0
  have hcellS : W0.heap[T.aS]? = some cellS := hcS'
  have hout' : ∀ i, (⟨T.aS, i⟩ : Loc) ∉ locs := fun i hmem => by
    have := hlocs _ hmem cellS0 hcS0
    rw [hiss] at this; cases this
  have hknownS : cellS.vm ≠ .unknown := by
    rw [heS]; intro hu
    rw [show cellS0.vm = .unknown from hu] at hiss
    cases hiss
  have hneS : T.aS ≠ a := Nat.ne_of_lt (Nat.lt_of_lt_of_le (Array.getElem?_eq_some_iff.mp hcS0).1 hnew)
  obtain ⟨iM, hffM⟩ := Yk.msg
  obtain ⟨tyC, dC, hdC, hdnC⟩ := Cond.laysAt hfound hk Yk.cause (a' (.lays cls Bundle.tN "cause" "Ljava/lang/Throwable;") (by simp [mj_atoms]))
  obtain ⟨tyS, dS, hdS, hdnS⟩ := Cond.laysAt hfound hk Yk.stack (a' (.lays cls Bundle.tN "stackTrace" Bundle.steD) (by simp [mj_atoms]))
  obtain ⟨tyP, dP, hdP, hdnP⟩ := Cond.laysAt hfound hk Yk.supp (a' (.lays cls Bundle.tN "suppressedExceptions" Bundle.listD) (by simp [mj_atoms]))
  obtain ⟨tyM, dM, hdM, hdnM⟩ := Cond.laysAt hfound hk hffM (a' (.lays cls Bundle.tN "detailMessage" "Ljava/lang/String;") (by simp [mj_atoms]))
  obtain ⟨tyB, dB, hdB, hdnB⟩ := Cond.laysAt hfound hk hffB (a' (.lays cls Bundle.tN "backtrace" "Ljava/lang/Object;") (by simp [mj_atoms]))
  have bC := Cond.laysApart hdB hdC hdnB hdnC (by rw [hnB, Yk.causeName]; decide)
  have bS := Cond.laysApart hdB hdS hdnB hdnS (by rw [hnB, Yk.stackName]; decide)
  have bP := Cond.laysApart hdB hdP hdnB hdnP (by rw [hnB, Yk.suppName]; decide)
  have hskip : SkipFacts T e.platform s (fun u => u) u0 ((preparedCellV T.toThrowableT (freshCell P1.m.cls kX) a u0 sen).withEntry W0.cur) :=
    ⟨{ ci198 := ci198, i198 := i198, fBack := fB }, ⟨hk198, hg198, ha198, hsB⟩, by
      have := fresh_default (c := P1.m.cls) tyB
      rw [htB] at this
      simpa [preparedCellV, Cell.setSlot, Cell.withEntry, Array.getElem?_setIfInBounds, bC, bS, bP, bC.symm, bS.symm, bP.symm, defaultValue] using this, fun _ _ => rfl⟩
  obtain ⟨tm, methC, cdC, kC, vm₁, hnC, -, -, -, -, -, -, -, hW₁, st1⟩ := Steps.initColdS (tb := p.tables) (e := e) (below := below) (s := s) (U := W0) X.here hexec X.warmed hpl hown (t := Bundle.initS cls) rfl rfl (Bundle.fit_spec hcls).2
    (a' (.methodLink own ic (Bundle.initS cls)) (by simp [mj_atoms])) (h (.instanceMethod (Bundle.initS cls)) (by simp [mj_atoms, Bundle.passSAtoms])) (bytes := b1) (maxL := 2) (h (.code (Bundle.initS cls) b1 2 none) (by simp [mj_atoms, Bundle.passSAtoms]))
    (f := g) hg (a := a) (msg := msg) (rest := .ref a :: rest) hstack hd6
  cases Option.some.inj (hnC.symm.trans hP1m)
  have X₁ := X.noted hW₁
  obtain ⟨vm₂, X₂, st2⟩ := X₁.ctorMessageOffV hexec (g := { g with stack := .ref a :: rest }) hg hsize T L Z LZ M LM (P1 :: P2 :: Ps)
    (fun P hP => by
      rcases List.mem_cons.mp hP with rfl | hP
      · exact L1
      · rcases List.mem_cons.mp hP with rfl | hP
        · exact L2
        · exact hL P hP) ⟨hlink1, hlink2, hlink⟩ (u0 := u0) (sen := sen) (self := a) hmsg (cell := freshCell P1.m.cls kX) (cellS := cellS)
    hcell (fun _ => by simp) (by simp) rfl rfl hsel0 hselF hcellS hneS hknownS (by rw [hkeep _ (hout' _)]; exact hu0) (by rw [hkeep _ (hout' _)]; exact hsen)
    (Takes.of_laid hk hord tyC (by rw [Yk.causeType]; rfl)) (Takes.of_laid hk hord tyS (by rw [Yk.stackType]; exact fits_refV_array _ u0)) (Takes.of_laid hk hord tyP (by rw [Yk.suppType]; exact fits_refV_object _ sen))
    (Takes.of_laid hk hord tyM (by rw [Yk.msgType]; exact fits_refV_object _ ⟨msg, hmsg⟩)) Yk.objLocals hskip htr [] hd6
    (by simp only [List.length_cons, hlen]; omega) (by simp only [List.length_cons, hlen]; exact hRlocals)
  obtain ⟨hwalk, hrun, hended, hWU, hsame⟩ := X₂.athrowLeaves hexec (g := { g with stack := .ref a :: rest, pc := g.pc + 3 }) hg hlocked hentered hout (a := a) (rest := rest) rfl hd9
  have hlt : a < ((W0.setVm vm₁).setVm vm₂).heap.size := (Array.getElem?_eq_some_iff.mp hcell).1
  have hU := heapAt_setCell_self (s := (W0.setVm vm₁).setVm vm₂) (plainBareV T.toThrowableT (freshCell P1.m.cls kX) a u0 sen msg) hlt
  refine ⟨_, st1 _ (fun acts => ?_), hrun, hended, hWU, hsame.weaken (fun y hy hlt' => ?_) (Nat.le_refl _) (Nat.le_refl _), _, hU, hfound, rfl⟩
  · rw [doInvoke_state]
    exact st2 _ hwalk
  · rcases List.mem_append.mp hy with h1 | h1
    · exact h1
    · exfalso
      have hb : y.base = a := by
        simp only [List.mem_cons, List.not_mem_nil, or_false] at h1
        rcases h1 with rfl | rfl | rfl | rfl | rfl <;> rfl
      rw [hb] at hlt'
      exact Nat.not_lt.mpr hnew hlt'
end
section
variable {p : Program} {l : Launch} {e : Env} {R : Room} {s : State} {m : MethodId} {args : Array Value} {below : List Frame} {meth : Method} {c : Code} {H : Heap} {locs : List Loc} {cells slots : Nat}
variable {free : Addr → Prop} {ls : Array Slot} {rest : List Value} {Qc : Array Value → State → Outcome → State → Prop} {XC : String → State → State → Prop}
/-- 'throw new E(text)': new; dup; ldc; invokespecial; athrow -/
theorem mj_throw {cc : ByteArray} {pc : Nat} (hexec : p.tables.exec = Jvm.exec) (hb : c.code = cc) (hl : l.stackTraces = false) {own cls Y text : String} {r : List String} {ik is ic i1 mc ms sa : Nat} {b1 : ByteArray} {A : Nat → Prop}
    (hb0 : decode b1 0 = .ok (.aload_n 0, 1)) (hb1 : decode b1 1 = .ok (.aload_n 1, 1)) (hb2 : decode b1 2 = .ok (.invokespecial i1, 3)) (hb5 : decode b1 5 = .ok (.return_, 1))
    (hown : s.vm.findClass own = some m.cls) (hcls : Bundle.fit cls = true) (hY : Bundle.fit Y = true) (hnames : ∀ n ∈ r, Bundle.fit n = true)
    (hk : (Cond.classLink own ik cls).before args s = true) (hini : (Cond.initialized cls).before args s = true) (hstr : vk_R own is text sa s) (hat : ∀ w ∈ (mj_atoms own ic cls Y r i1 b1).filter vx_no, w.before args s = true)
    (hgood : ∀ w ∈ Cond.classLink own ik cls :: Cond.initialized cls :: (mj_atoms own ic cls Y r i1 b1).filter vx_no, vx_ot w = true)
    (hU : vx_Zq Bundle.tN "UNASSIGNED_STACK" Bundle.steD A s s.heap) (hN : vx_Zq Bundle.tN "SUPPRESSED_SENTINEL" Bundle.listD A s s.heap) (hS : va_S A s.heap H locs) (hsize : ls.size = c.maxLocals)
    (d0 : decode cc pc = .ok (.new ik, 3)) (d3 : decode cc (pc + 3) = .ok (.dup, 1)) (d4 : decode cc (pc + 4) = .ok (.ldc is, 2)) (d6 : decode cc (pc + 6) = .ok (.invokespecial ic, 3)) (d9 : decode cc (pc + 9) = .ok (.athrow, 1))
    (hout : ∀ x ∈ c.exceptionTable.toList, covers x (pc + 9) = false)
    (hRframes : r.length + 4 < R.frames) (hRlocals : (rest.map fun v => v.category).sum + (13 * (r.length + 2) + 43) ≤ R.locals) (hRcells : cells + 1 ≤ R.cells) (hRslots : slots + 6 ≤ R.slots) (hlocks : meth.locks = false)
    (hx : ∀ t : State, s.vm.Alike t.vm → H.size ≤ t.heap.size → (∀ q : Nat, q < H.size → t.heap[q]? = H[q]?) → XC cls s t)
    (hf : ∀ z ∈ locs, free z.base) (hc : cells + 1 ≤ mc) (hs : slots + 6 ≤ ms) :
    W p l e R s m args below meth c H locs cells slots (vx_MQ below Qc XC args s mc ms free) (F0 m pc ls rest) := by
  intro T hT X
  have htr : e.platform.stackTraces = false := (show e.platform.stackTraces = l.stackTraces by rw [X.admits.platform]).trans hl
  have Yk := vx_rebase X (R' := { frames := R.frames, locals := R.locals, cells := 1, slots := 6 }) (Nat.le_refl _) (Nat.le_refl _) hRcells hRslots
  obtain ⟨s', hA⟩ : ∃ z, z = (T.setVm s.vm).setFrames (.invoking m args :: below) := ⟨_, rfl⟩
  rw [← hA] at Yk
  have hvm : s'.vm = s.vm := by rw [hA]; rfl
  have hhp : s'.heap = H := by rw [hA]; exact hT
  have hW0 : s.WarmedH s'.vm := by rw [hvm]; exact State.WarmedH.refl s
  have hat' : ∀ w ∈ (mj_atoms own ic cls Y r i1 b1).filter vx_no, w.before args s' = true := fun w hw => vx_ot_at hW0 hvm.symm (hgood w (List.mem_cons_of_mem _ (List.mem_cons_of_mem _ hw))) (hat w hw)
  have hk' : (Cond.classLink own ik cls).before args s' = true := vx_ot_at hW0 hvm.symm (hgood _ List.mem_cons_self) hk
  have hini' : (Cond.initialized cls).before args s' = true := vx_ot_at hW0 hvm.symm (hgood _ (List.mem_cons_of_mem _ List.mem_cons_self)) hini
  have hU' : vx_Zq Bundle.tN "UNASSIGNED_STACK" Bundle.steD A s' s'.heap := by rw [hhp]; exact vx_Zq.moved hW0.alike (hU.kept hS.2.1)
  have hN' : vx_Zq Bundle.tN "SUPPRESSED_SENTINEL" Bundle.listD A s' s'.heap := by rw [hhp]; exact vx_Zq.moved hW0.alike (hN.kept hS.2.1)
  have h : ∀ w ∈ mj_atoms own ic cls Y r i1 b1, w.before args s' = true := vx_own hat' (vx_isRefq hU'.1) (vx_isRefq hN'.1) hU'.2.word hN'.2.word
  have hown' : s'.vm.findClass own = some m.cls := by rw [hvm]; exact hown
  have hins : (Cond.instantiable cls 6).before args s' = true := h _ (by simp [mj_atoms])
  obtain ⟨vm₁, cX, kX, hfX, hkX, -, -, X₁, st1⟩ := Yk.newCold hexec (own := own) (C := cls) (index := ik) (n := 6) hown' hk' hins hini'
    (g := F0 m pc ls rest) rfl (by rw [hb]; exact d0) (Nat.le_refl _) (Nat.le_refl _)
  generalize hT1 : (T.setVm vm₁).pushCell { cls := cX, slots := kX.instanceTypes.map defaultValue, vm := .none } = T1 at X₁ st1
  have hcat : (Value.ref T.heap.size).category = 1 := rfl
  have hcellA : T1.heap[T.heap.size]? = some (freshCell cX kX) := by rw [← hT1]; exact State.heap_pushCell_size _ _
  have d3' : decode c.code (pc + 3) = .ok (.dup, 1) := by rw [hb]; exact d3
  have d4' : decode c.code (pc + 4) = .ok (.ldc is, 2) := by rw [hb]; exact d4
  have hstr' : vk_R own is text sa s' := vk_R.warm hW0 hstr
  obtain ⟨U, hsteps, hrun, hend, hW, hsame, ce, hce, hO, hOv⟩ := mj_ctor X₁ hexec htr (own := own) (cls := cls) (Y := Y) (r := r) (ic := ic) hb0 hb1 hb2 hb5 hown' hcls hY hnames h (fun x hx => nomatch hx) hfX hkX hcellA (by rw [hhp, hT]; exact Nat.le_refl _) (msg := .ref sa) rfl
    (g := { method := m, pc := pc + 6, locals := ls, stack := .ref sa :: .ref T.heap.size :: .ref T.heap.size :: rest, locked := none }) rfl hsize rfl rfl (rest := rest) rfl
    (by rw [hb]; exact d6) (by rw [hb]; exact d9) hout hRframes (by simp only [List.map_cons, List.sum_cons, hcat]; show 2 * 0 + _ + _ ≤ R.locals; omega) hlocks
  obtain ⟨f1, f2⟩ := vx_frame hsame
  rw [hhp] at f1 f2
  have hWs : s.WarmedH U.vm := State.WarmedH.trans hW0 hW
  have hcl : s.vm.findClass cls = some ce.cls := by
    rw [hvm] at hO
    exact hO
  have hall : s.sameButNew ({ U with vm := s.vm } : State) locs mc ms := by
    subst hA
    obtain ⟨e1, e2⟩ := hsame
    rw [State.setFrames_setFrames] at e1
    have h2 : (T.setVm s.vm).sameButNew ({ U with vm := s.vm } : State) [] (0 + 1) (0 + 6) := ⟨e1, e2⟩
    have h3 := X.same.trans h2
    rw [List.append_nil] at h3
    exact h3.mono hc hs
  refine ⟨U, ?_, .threw T.heap.size, hrun, hend, Or.inr ⟨T.heap.size, rfl, cls, ce, locs, hx U hWs.alike f1 (fun q hq => f2 q hq (fun z hz => nomatch hz)), hce, hOv, hcl, hWs, hall, hf⟩⟩
  refine st1 _ ?_
  show Steps p.tables e below (T1.setTop { method := m, pc := pc + 3, locals := ls, stack := .ref T.heap.size :: rest, locked := none }) _
  jvm_step X₁.here [X₁.here.top, hexec, d3', Value.category]
  exact X₁.ldcString hexec (own := own) (text := text) (index := is) (a := sa) hown' hstr'.1 hstr'.2
    (g := { method := m, pc := pc + 4, locals := ls, stack := .ref T.heap.size :: .ref T.heap.size :: rest, locked := none }) rfl d4' _ hsteps
end
end
section
/-! what a run of the small machine says is so of the true machine -/
section
variable {S : mj_S} {X : Nat × (Nat → Int32)} {P : List mj_T} {d : Nat}
/-- the exceptions of a run are counted upward -/
theorem mj_kle : ∀ (n d : Nat) (T : mj_T) (pc : Nat) (lo : mj_L) (st : List mj_V) (M : mj_M) (k : Nat) (r : mj_R), mj_run S X P n d T pc lo st M k = some r → k ≤ r.2.2 := by
  intro n
  induction n with
  | zero =>
    intro d T pc lo st M k r h
    rw [mj_run_0] at h
    cases h
  | succ n ih =>
    intro d T pc lo st M k r h
    rw [mj_run_s] at h
    unfold mj_body at h
    cases hg : mj_go S X T pc lo st M with
    | some c =>
      obtain ⟨pc', lo', st', M'⟩ := c
      rw [hg] at h
      exact ih _ _ _ _ _ _ _ _ h
    | none =>
      rw [hg] at h
      dsimp only at h
      cases he : mj_end T pc st M k with
      | some r' =>
        rw [he] at h
        cases h
        unfold mj_end at he
        split at he
        · split at he
          · split at he
            · cases he; exact Nat.le_refl _
            · split at he
              · cases he; exact Nat.le_refl _
              · cases he
            · cases he
          · cases he
        · split at he
          · cases he; exact Nat.le_refl _
          · cases he
        · split at he
          · cases he; exact Nat.le_succ _
          · cases he
        · cases he
      | none =>
        rw [he] at h
        dsimp only at h
        cases d with
        | zero => cases h
        | succ d' =>
          cases hc : mj_callee P T pc st with
          | none =>
            rw [hc] at h
            cases h
          | some q =>
            obtain ⟨T', as, rest, nx, ns⟩ := q
            rw [hc] at h
            dsimp only at h
            cases hr : mj_run S X P n d' T' 0 (fun j => as[j]?) [] M 0 with
            | none => rw [hr] at h; cases h
            | some q =>
              rw [hr] at h
              obtain ⟨o, M', k'⟩ := q
              cases o with
              | inl E =>
                dsimp only at h
                by_cases hns : ns = true
                · rw [if_pos hns] at h
                  cases h
                · rw [if_neg hns] at h
                  cases hx : mj_cat (mj_th T) pc E with
                  | none =>
                    rw [hx] at h
                    cases h
                    exact Nat.le_add_right _ _
                  | some q =>
                    obtain ⟨h9, j⟩ := q
                    rw [hx] at h
                    exact Nat.le_trans (Nat.le_add_right _ _) (ih _ _ _ _ _ _ _ _ h)
              | inr o =>
                cases o with
                | none => exact Nat.le_trans (Nat.le_add_right _ _) (ih _ _ _ _ _ _ _ _ h)
                | some v => exact Nat.le_trans (Nat.le_add_right _ _) (ih _ _ _ _ _ _ _ _ h)
end
theorem mj_pop_eq : ∀ (n : Nat) (st acc as rest : List mj_V), mj_pop n st acc = some (as, rest) → ∃ p, as = p.reverse ++ acc ∧ st = p ++ rest ∧ p.length = n
  | 0, st, acc, as, rest, h => by
    cases h
    exact ⟨[], rfl, rfl, rfl⟩
  | n + 1, [], acc, as, rest, h => by cases h
  | n + 1, v :: st, acc, as, rest, h => by
    obtain ⟨p, h1, h2, h3⟩ := mj_pop_eq n st (v :: acc) as rest h
    refine ⟨v :: p, ?_, ?_, ?_⟩
    · rw [h1, List.reverse_cons, List.append_assoc]
      rfl
    · rw [h2]
      rfl
    · rw [List.length_cons, h3]
theorem mj_pop_0 {n : Nat} {st as rest : List mj_V} (h : mj_pop n st [] = some (as, rest)) : st = as.reverse ++ rest ∧ as.length = n := by
  obtain ⟨p, h1, h2, h3⟩ := mj_pop_eq n st [] as rest h
  rw [List.append_nil] at h1
  rw [h1, List.reverse_reverse, List.length_reverse]
  exact ⟨h2, h3⟩
theorem mj_at_ok {T : mj_T} {pc : Nat} {e : mj_I} {f : mj_I → Bool} (h : mj_at T pc = some e) (hf : (mj_tc T).all (fun ch => ch.all f) = true) : f e = true ∧ e.1 = pc := by
  unfold mj_at at h
  cases hc : (mj_tc T)[pc / 16]? with
  | none => rw [hc] at h; cases h
  | some ch =>
    rw [hc] at h
    dsimp only at h
    have h1 := List.all_eq_true.mp hf ch (List.mem_of_getElem? hc)
    have h2 := List.all_eq_true.mp h1 e (List.mem_of_find?_eq_some h)
    have h3 := List.find?_some h
    exact ⟨h2, by simpa using h3⟩
/-- a method's own word -/
def mj_cw (T : mj_T) : Cond := match mj_th T with
  | [] => .code (mj_tn T) (mj_tb T) (mj_tl T) (mj_tr T)
  | q :: hh => .codeWith (mj_tn T) (mj_tb T) (mj_tl T) (mj_tr T) ((q :: hh).map (fun q => (q.1, q.2.1, q.2.2.1, q.2.2.2.1)))
def mj_ws (T : mj_T) : List Cond := mj_cw T :: mj_tbl
def mj_tab (T : mj_T) : List ExceptionTableEntry := tableOf ((mj_th T).map (fun q => (q.1, q.2.1, q.2.2.1, q.2.2.2.1)))
theorem mj_goodT {T : mj_T} (h : mj_cw T ∈ mj_tbl) : GoodIn mj_tbl (mj_ws T) := by
  intro w hw
  rcases List.mem_cons.mp hw with rfl | hw
  · exact ⟨h, good_of_word (mj_tbl_ok _ h).2⟩
  · exact ⟨hw, good_of_word (mj_tbl_ok _ hw).2⟩
/-- a throw's words: new (pool ik) of exception a, the text (pool b), the constructor (pool v) -/
def mj_okT (T : mj_T) (pc ik a b : Nat) (v : Int32) : Bool :=
  (decide (decode (mj_tb T) (pc + 3) = .ok (.dup, 1)) && (decide (decode (mj_tb T) (pc + 4) = .ok (.ldc b, 2)) && (decide (decode (mj_tb T) (pc + 6) = .ok (.invokespecial v.toNatClampNeg, 3)) && decide (decode (mj_tb T) (pc + 9) = .ok (.athrow, 1))))) &&
  (((match mj_xs[a]? with
    | some (_, _, _, ic) => decide (ic = v.toNatClampNeg)
    | none => false) && decide ((mj_tn T).cls = "ExplainDifference")) && (decide (Cond.classLink (mj_tn T).cls ik (mj_xn a) ∈ mj_wL) && (mj_strs.any (fun q => decide (q.1 = (mj_tn T).cls ∧ q.2.1 = b)) && decide (mj_th T = []))))
/-- a word of an exception's constructors: of the tables, or told apart -/
def mj_kin (w : Cond) : Bool := match w with
  | .fieldLink _ _ _ _ _ => decide (w ∈ mj_wF)
  | .methodLink _ _ _ => decide (w ∈ mj_wM)
  | .instanceMethod _ => decide (w ∈ mj_wI)
  | .selects _ _ _ => decide (w ∈ mj_wS)
  | .code _ _ _ _ => decide (w ∈ mj_wC)
  | .initialized _ => decide (w ∈ mj_wN)
  | .lays _ _ _ _ => decide (w ∈ mj_wY)
  | .native _ => decide (w ∈ mj_wO)
  | .codeSync _ _ _ _ => decide (w ∈ mj_wO)
  | .superclass _ _ => decide (w ∈ mj_wO)
  | .instantiable _ _ => decide (w ∈ mj_wO)
  | .castable C C' => decide (C = C') && mj_xs.any (fun q => decide (q.1 = C))
  | .declares x => decide (x ∈ mj_dcl)
  | _ => false
def mj_atx (q : String × Nat × ByteArray × Nat) : Bool := ((mj_atoms "ExplainDifference" q.2.2.2 q.1 "java/lang/RuntimeException" ["java/lang/Exception"] q.2.1 q.2.2.1).filter vx_no).all (fun w => mj_kin w && vx_ot w) &&
  ((decide (decode q.2.2.1 0 = .ok (.aload_n 0, 1)) && (decide (decode q.2.2.1 1 = .ok (.aload_n 1, 1)) && (decide (decode q.2.2.1 2 = .ok (.invokespecial q.2.1, 3)) && decide (decode q.2.2.1 5 = .ok (.return_, 1))))) && (Bundle.fit q.1 && decide (Cond.initialized q.1 ∈ mj_wN)))
def mj_par (T : mj_T) : Option Nat := (parseMethodDescriptor (mj_tn T).desc).map (fun d => d.parameters.length)
/-- a call's words -/
def mj_okL (S : mj_S) (P : List mj_T) (T : mj_T) (e : mj_I) : Bool := match e.2.1 with
  | .invokevirtual idx => (match P[e.2.2.2.1]? with
      | some T' => (decide (Cond.methodLink (mj_tn T).cls idx (mj_tn T') ∈ mj_wM) && (decide (Cond.instanceMethod (mj_tn T') ∈ mj_wI) && decide (Cond.selects (mj_tn T').cls (mj_tn T') (mj_tn T') ∈ mj_wS))) &&
          ((decide (mj_th T' = []) && (decide (mj_par T' = some (e.2.2.2.2.1 - 1)) && (decide (1 ≤ e.2.2.2.2.1) && decide (e.2.2.2.2.1 ≤ mj_tl T')))) && (match S.1[mj_tp T']? with
            | some (.inl (ci, _)) => decide ((vwCl[ci]?).map (fun q => q.1) = some (mj_tn T').cls)
            | _ => false))
      | none => false)
  | .invokestatic idx => if e.2.2.2.1 < 1000 then (match P[e.2.2.2.1]? with
      | some T' => (decide (Cond.methodLink (mj_tn T).cls idx (mj_tn T') ∈ mj_wM) || (decide (mj_th T' = []) && (decide (e.2.2.2.2.2 = 7) && mj_nest.any (fun q => decide (q.1 = (mj_tn T).cls ∧ q.2.1 = idx ∧ q.2.2.1 = mj_tn T'))))) && (decide (Cond.static (mj_tn T') ∈ mj_wT) && (decide (mj_par T' = some e.2.2.2.2.1) && decide (e.2.2.2.2.1 ≤ mj_tl T')))
      | none => false) else true
  | .new ik => mj_okT T e.1 ik e.2.2.2.1 e.2.2.2.2.1 e.2.2.2.2.2
  | _ => true
/-- a handler: what it names, the store that it begins with -/
def mj_okH (T : mj_T) (q : Nat × Nat × Nat × Nat × Nat × Nat × Nat) : Bool :=
  ((decide (q.2.2.2.1 ≠ 0) && decide (Cond.classLink (mj_tn T).cls q.2.2.2.1 (mj_xn q.2.2.2.2.1) ∈ mj_wL)) && (List.range mj_xs.length).all (fun E => decide (q.2.2.2.2.1 = E) || decide ((mj_xn E, mj_xn q.2.2.2.2.1) ∈ mj_ncs))) && (decide (q.2.2.2.2.2.2 < mj_tl T) && ((decide (decode (mj_tb T) q.2.2.1 = .ok (.astore q.2.2.2.2.2.2, 2)) && decide (q.2.2.2.2.2.1 = q.2.2.1 + 2)) || (decide (decode (mj_tb T) q.2.2.1 = .ok (.astore_n (Fin.ofNat 4 q.2.2.2.2.2.2), 1)) && (decide (q.2.2.2.2.2.2 < 4) && decide (q.2.2.2.2.2.1 = q.2.2.1 + 1)))))
/-- a method's body -/
def mj_okB (S : mj_S) (P : List mj_T) (T : mj_T) : Bool := (mj_th T).all (mj_okH T) && (mj_tc T).all (fun ch => ch.all (fun e => mj_okI S T e && mj_okL S P T e))
/-- a method of the program -/
def mj_okM (S : mj_S) (P : List mj_T) (T : mj_T) : Bool :=
  (decide (mj_cw T ∈ mj_wC) && (decide (Cond.initialized (mj_tn T).cls ∈ mj_wN) && (decide ((mj_tn T).cls ≠ "java/lang/invoke/MethodHandle") && (decide ((mj_tn T).cls ≠ "java/lang/invoke/VarHandle") && (plainName (mj_tn T).cls && decide (mj_tl T ≤ 40)))))) && mj_okB S P T
theorem mj_okMB {S : mj_S} {P : List mj_T} {T : mj_T} (h : mj_okM S P T = true) : mj_okB S P T = true := by
  unfold mj_okM at h
  rw [Bool.and_eq_true] at h
  exact h.2
theorem mj_kin_ok {w : Cond} (h : mj_kin w = true) : w ∈ mj_tbl ∨ (∃ q ∈ mj_xs, w = .castable q.1 q.1) ∨ (∃ x ∈ mj_dcl, w = .declares x) := by
  unfold mj_kin at h
  split at h
  · exact Or.inl (mj_inF (of_decide_eq_true h))
  · exact Or.inl (mj_inM (of_decide_eq_true h))
  · exact Or.inl (mj_inI (of_decide_eq_true h))
  · exact Or.inl (mj_inS (of_decide_eq_true h))
  · exact Or.inl (mj_inC (of_decide_eq_true h))
  · exact Or.inl (mj_inN (of_decide_eq_true h))
  · exact Or.inl (mj_inY (of_decide_eq_true h))
  · exact Or.inl (mj_inO (of_decide_eq_true h))
  · exact Or.inl (mj_inO (of_decide_eq_true h))
  · exact Or.inl (mj_inO (of_decide_eq_true h))
  · exact Or.inl (mj_inO (of_decide_eq_true h))
  · next C C' =>
    rw [Bool.and_eq_true, decide_eq_true_eq] at h
    obtain ⟨rfl, h2⟩ := h
    obtain ⟨q, hq, h3⟩ := List.any_eq_true.mp h2
    rw [decide_eq_true_eq] at h3
    exact Or.inr (Or.inl ⟨q, hq, by rw [h3]⟩)
  · next x => exact Or.inr (Or.inr ⟨x, of_decide_eq_true h, rfl⟩)
  · cases h
theorem mj_ats : mj_xs.all mj_atx = true := by decide +kernel
end
section
section
variable (S : mj_S) (X : Nat × (Nat → Int32)) (ad : Nat → Nat) (cI cR cJ cZ : ClassId) (D : va_G) (A : Nat → Prop)
/-- what of a state the methods stand on, beside their worlds -/
def mj_En (U : State) : Prop :=
  va_K D vwCl (mj_tys cI cR cJ cZ) U ∧ va_X (ad S.1.length) X.1 X.2 U U.heap ∧ vx_Zq Bundle.tN "UNASSIGNED_STACK" Bundle.steD A U U.heap ∧ vx_Zq Bundle.tN "SUPPRESSED_SENTINEL" Bundle.listD A U U.heap ∧
  (∀ q ∈ mj_strs, ∃ sa, vk_R q.1 q.2.1 q.2.2 sa U) ∧ (∀ q ∈ mj_ncs, va_Nc q.1 q.2 U) ∧ (∀ q ∈ mj_nest, va_Nw (.methodLinkNest q.1 q.2.1 q.2.2.1 q.2.2.2) U) ∧ (∀ q ∈ mj_xs, va_Nw (.castable q.1 q.1) U) ∧ (∀ x ∈ mj_dcl, va_Nw (.declares x) U)
theorem mj_En.moved {s U : State} (h : mj_En S X ad cI cR cJ cZ D A s) (hW : s.WarmedH U.vm) (hh : ∀ q : Nat, q < s.heap.size → ¬ A q → U.heap[q]? = s.heap[q]?) (hbl : ad S.1.length < s.heap.size) (hbA : ¬ A (ad S.1.length)) : mj_En S X ad cI cR cJ cZ D A U := by
  obtain ⟨h1, h2, h3, h4, h5, h6, h7, h8, h9⟩ := h
  refine ⟨va_K.moved hW.alike h1, va_X.moved hW.alike (h2.kept (hh _ hbl hbA)), vx_Zq.moved hW.alike (h3.kept hh), vx_Zq.moved hW.alike (h4.kept hh), fun q hq => ?_, fun q hq => va_Nc.moved hW.alike (h6 q hq), fun q hq => va_Nw.warmM hW (h7 q hq), fun q hq => va_Nw.warmC hW (h8 q hq), fun x hx => va_Nw.warmD hW (h9 x hx)⟩
  obtain ⟨sa, h0⟩ := h5 q hq
  exact ⟨sa, vk_R.warm hW h0⟩
/-- a frame of method T -/
def mj_Fm (T : mj_T) (p : Program) (s : State) (m : MethodId) (args : Array Value) (meth : Method) (c : Code) : Prop :=
  p.tables.exec = Jvm.exec ∧ c.code = mj_tb T ∧ c.maxLocals = mj_tl T ∧ s.vm.findClass (mj_tn T).cls = some m.cls ∧ (∀ w ∈ mj_tbl, w.before args s = true) ∧ c.exceptionTable.toList = mj_tab T ∧ meth.locks = false ∧ meth.sig.returnType = mj_tr T
def mj_rm (d k : Nat) : Room := { frames := d + 12, cells := k, slots := 6 * k, locals := 60 * d + 240 }
/-- nothing of T's table takes E at pc -/
def mj_np (T : mj_T) (pc : Nat) (E : String) (args : Array Value) (s : State) : Prop := ∀ z ∈ mj_tab T, covers z pc = false ∨ (z.catchType ≠ 0 ∧ ∃ nm : String, (Cond.classLink (mj_tn T).cls z.catchType nm).before args s = true ∧ va_Nc E nm s)
/-- what is owed at a run's end -/
def mj_Fin (T : mj_T) (p : Program) (l : Launch) (e : Env) (R : Room) (s : State) (m : MethodId) (args : Array Value) (below : List Frame) (meth : Method) (c : Code) (c0 s0 : Nat) (Q : State → Prop) (r : mj_R) : Prop :=
  ∀ (H : Heap) (locs : List Loc) (ls : Array Slot) (pc : Nat), va_P D vwCl (mj_w S ad cI cR cJ cZ r.2.1) H → va_S A s.heap H locs → ls.size = mj_tl T →
    (r.1 = .inr none → mj_tr T = none → decode (mj_tb T) pc = .ok (.return_, 1) → W p l e R s m args below meth c H locs (c0 + r.2.2) (s0 + 6 * r.2.2) Q (F0 m pc ls [])) ∧
    (∀ x ty, r.1 = .inr (some (.inl x)) → mj_tr T = some ty → narrow ty (.int x) = .int x → decode (mj_tb T) pc = .ok (.ireturn, 1) → W p l e R s m args below meth c H locs (c0 + r.2.2) (s0 + 6 * r.2.2) Q (F0 m pc ls [.int x])) ∧
    (∀ E, r.1 = .inl E → ∀ (rest : List Value) (q : Addr) (ce : Cell), H[q]? = some ce → ce.vm = .none → s.vm.findClass (mj_xn E) = some ce.cls → mj_np T pc (mj_xn E) args s → vx_W p l e R s m args below meth c H locs (c0 + r.2.2) (s0 + 6 * r.2.2) Q (F0 m pc ls rest) q) ∧
    (∀ E k ik b v, r.1 = .inl E → r.2.2 = k + 1 → decode (mj_tb T) pc = .ok (.new ik, 3) → mj_okT T pc ik E b v = true → W p l e R s m args below meth c H locs (c0 + k) (s0 + 6 * k) Q (F0 m pc ls []))
def mj_Pc (B : Nat) (as : List mj_V) (M : mj_M) : Array Value → State → Prop := va_Pc (as.map (mj_c S ad)) (fun U => mj_En S X ad cI cR cJ cZ D A U ∧ va_P D vwCl (mj_w S ad cI cR cJ cZ M) U.heap ∧ B ≤ U.heap.size)
def mj_Qc (r : mj_R) : Array Value → State → Outcome → State → Prop := fun _ st o t => (∃ v : Option mj_V, r.1 = .inr v ∧ o = .returned (v.map (mj_c S ad))) ∧ va_P D vwCl (mj_w S ad cI cR cJ cZ r.2.1) t.heap ∧ va_F A st t
def mj_XC (r : mj_R) : String → State → State → Prop := fun E st t => (∃ x, r.1 = .inl x ∧ E = mj_xn x) ∧ va_P D vwCl (mj_w S ad cI cR cJ cZ r.2.1) t.heap ∧ va_F A st t
end
theorem mj_cat_some : ∀ (hh : List (Nat × Nat × Nat × Nat × Nat × Nat × Nat)) (pc E h j : Nat), mj_cat hh pc E = some (h, j) → ∃ pre q suf, hh = pre ++ q :: suf ∧ (q.1 ≤ pc ∧ pc < q.2.1 ∧ q.2.2.2.2.1 = E) ∧ q.2.2.2.2.2.1 = h ∧ q.2.2.2.2.2.2 = j ∧ ∀ z ∈ pre, ¬ (z.1 ≤ pc ∧ pc < z.2.1 ∧ z.2.2.2.2.1 = E)
  | [], pc, E, h, j, hc => by cases hc
  | (f, t, x1, x2, E', h', j') :: r, pc, E, h, j, hc => by
    unfold mj_cat at hc
    split at hc
    · next hq =>
      cases hc
      exact ⟨[], (f, t, x1, x2, E', h', j'), r, rfl, hq, rfl, rfl, fun z hz => by cases hz⟩
    · next hq =>
      obtain ⟨pre, q, suf, h1, h2, h3, h4, h5⟩ := mj_cat_some r pc E h j hc
      refine ⟨(f, t, x1, x2, E', h', j') :: pre, q, suf, by rw [h1]; rfl, h2, h3, h4, fun z hz => ?_⟩
      rcases List.mem_cons.mp hz with rfl | hz
      · exact hq
      · exact h5 z hz
theorem mj_cat_none : ∀ (hh : List (Nat × Nat × Nat × Nat × Nat × Nat × Nat)) (pc E : Nat), mj_cat hh pc E = none → ∀ z ∈ hh, ¬ (z.1 ≤ pc ∧ pc < z.2.1 ∧ z.2.2.2.2.1 = E)
  | [], pc, E, hc => fun z hz => by cases hz
  | (f, t, x1, x2, E', h', j') :: r, pc, E, hc => by
    unfold mj_cat at hc
    split at hc
    · cases hc
    · next hq =>
      intro z hz
      rcases List.mem_cons.mp hz with rfl | hz
      · exact hq
      · exact mj_cat_none r pc E hc z hz
section
variable {S : mj_S} {X : Nat × (Nat → Int32)} {P : List mj_T} {ad : Nat → Nat} {cI cR cJ cZ : ClassId} {D : va_G} {A : Nat → Prop} {B : Nat} {l : Launch}
theorem mj_blind {as : List mj_V} {M : mj_M} (hsp : ad S.1.length < B) (hbA : ¬ A (ad S.1.length)) : FrameBlind (mj_Pc S X ad cI cR cJ cZ D A B as M) := fun a U g mk q => by
  obtain ⟨q0, qE, qP, qB⟩ := q
  exact ⟨q0, mj_En.moved S X ad cI cR cJ cZ D A (U := U.calling g mk a) qE (State.WarmedH.refl U) (fun _ _ _ => rfl) (Nat.lt_of_lt_of_le hsp qB) hbA, qP, qB⟩
/-- a method's end, by its contract -/
theorem mj_fin {T : mj_T} {p : Program} {e : Env} {s : State} {m : MethodId} {args : Array Value} {below : List Frame} {meth : Method} {c : Code} {d : Nat} {r : mj_R} (hl : l.stackTraces = false) (Fm : mj_Fm T p s m args meth c) (hE : mj_En S X ad cI cR cJ cZ D A s):
    mj_Fin S ad cI cR cJ cZ D A T p l e (mj_rm d r.2.2) s m args below meth c 0 0 (vx_MQ below (mj_Qc S ad cI cR cJ cZ D A r) (mj_XC S ad cI cR cJ cZ D A r) args s r.2.2 (6 * r.2.2) A) r := by
  obtain ⟨hx, hb, hml, hown, hts, htab, hlocks, hr⟩ := Fm
  intro H locs ls pc hP hS hsz
  refine ⟨fun h1 h2 hd => ?_, fun x ty h1 ht hn hd => ?_, fun E h1 rest q ce hce hcv hcl hnp => ?_, fun E k ik b v h1 hk hd hok => ?_⟩
  · rw [Nat.zero_add, Nat.zero_add]
    exact vx_ret (W.vret hx hb (hr.trans h2) (fun t ht hW => ⟨⟨none, h1, rfl⟩, by rw [ht]; exact hP, hS.F ht⟩) hS.2.2 hd hlocks)
  · rw [Nat.zero_add, Nat.zero_add]
    exact vx_ret (W.zret hx hb (hr.trans ht) hn (fun t ht hW => ⟨⟨some (.inl x), h1, rfl⟩, by rw [ht]; exact hP, hS.F ht⟩) hS.2.2 hd hlocks)
  · rw [Nat.zero_add, Nat.zero_add]
    exact vx_outP hown hlocks (by rw [htab]; exact hnp) hce hcv hcl (fun t ht ha => ⟨⟨E, h1, rfl⟩, by rw [ht]; exact hP, hS.F ht⟩) hS.2.2 (Nat.le_refl _) (Nat.le_refl _)
  · rw [Nat.zero_add, Nat.zero_add]
    unfold mj_okT at hok
    cases hxs : mj_xs[E]? with
    | none => rw [hxs] at hok; simp at hok
    | some q =>
      obtain ⟨cls, i1, b1, ic⟩ := q
      rw [hxs] at hok
      dsimp only at hok
      simp only [Bool.and_eq_true, decide_eq_true_eq] at hok
      obtain ⟨⟨d3, d4, d6, d9⟩, ⟨f0, f1⟩, f4, f7, f8⟩ := hok
      have hxn : mj_xn E = cls := by unfold mj_xn; rw [hxs]; rfl
      have hax := List.all_eq_true.mp mj_ats _ (List.mem_of_getElem? hxs)
      unfold mj_atx at hax
      simp only [Bool.and_eq_true, decide_eq_true_eq] at hax
      obtain ⟨g1, ⟨g2, g3, g4, g5⟩, g6, g7⟩ := hax
      obtain ⟨q9, hq9, hq8⟩ := List.any_eq_true.mp f7
      rw [decide_eq_true_eq] at hq8
      obtain ⟨sa, hsa⟩ := hE.2.2.2.2.1 q9 hq9
      rw [hq8.1, hq8.2] at hsa
      rw [hxn] at f4
      rw [← f0] at d6
      rw [f1] at hown f4 hsa
      have htb : c.exceptionTable.toList = [] := by rw [htab]; unfold mj_tab; rw [f8]; rfl
      have hg : ∀ w ∈ mj_tbl, vx_ot w = true := fun w hw => by
        unfold vx_ot
        rw [(mj_tbl_ok w hw).2, Bool.or_true]
      have hat : ∀ w ∈ (mj_atoms "ExplainDifference" ic cls "java/lang/RuntimeException" ["java/lang/Exception"] i1 b1).filter vx_no, w.before args s = true ∧ vx_ot w = true := fun w hw => by
        have h9 := List.all_eq_true.mp g1 w hw
        rw [Bool.and_eq_true] at h9
        refine ⟨?_, h9.2⟩
        rcases mj_kin_ok h9.1 with h8 | ⟨q8, h8, rfl⟩ | ⟨x8, h8, rfl⟩
        · exact hts w h8
        · exact va_Nw.use rfl (hE.2.2.2.2.2.2.2.1 q8 h8)
        · exact va_Nw.use rfl (hE.2.2.2.2.2.2.2.2 x8 h8)
      refine mj_throw (A := A) hx hb hl (own := "ExplainDifference") (cls := cls) (Y := "java/lang/RuntimeException") (r := ["java/lang/Exception"]) (text := q9.2.2) (sa := sa) (ik := ik) (is := b) (ic := ic) g2 g3 g4 g5 hown g6 (by decide +kernel) (fun n hn => by rw [List.mem_singleton.mp hn]; decide +kernel) (hts _ (mj_inL f4)) (hts _ (mj_inN g7)) hsa (fun w hw => (hat w hw).1) (fun w hw => ?_) hE.2.2.1 hE.2.2.2.1 hS (hsz.trans hml.symm) hd d3 d4 d6 d9 (fun x hx => by rw [htb] at hx; cases hx) ?_ ?_ ?_ ?_ hlocks (fun t ha hz hk9 => ?_) hS.2.2 ?_ ?_
      · rcases List.mem_cons.mp hw with rfl | hw
        · exact hg _ (mj_inL f4)
        · rcases List.mem_cons.mp hw with rfl | hw
          · exact hg _ (mj_inN g7)
          · exact (hat w hw).2
      · show 1 + 4 < d + 12
        omega
      · show 0 + (13 * (1 + 2) + 43) ≤ 60 * d + 240
        omega
      · show k + 1 ≤ r.2.2
        omega
      · show 6 * k + 6 ≤ 6 * r.2.2
        omega
      · refine ⟨⟨E, h1, hxn.symm⟩, hP.kept (fun k9 q9 h9 => hk9 _ (hP k9 q9 h9).lt), ?_, fun q hq hn => ?_⟩
        · exact Nat.le_trans hS.1 hz
        · rw [hk9 q (Nat.lt_of_lt_of_le hq hS.1)]
          exact hS.2.1 q hq hn
      · omega
      · omega
end
end
section
section
variable {S : mj_S} {X : Nat × (Nat → Int32)} {P : List mj_T} {ad : Nat → Nat} {cI cR cJ cZ : ClassId} {D : va_G} {A : Nat → Prop} {B : Nat} {l : Launch}
/-- what the program, its shape and its addresses are held to -/
def mj_Ok (S : mj_S) (P : List mj_T) (ad : Nat → Nat) (cI cR cJ cZ : ClassId) (A : Nat → Prop) (B : Nat) (l : Launch) : Prop :=
  l.stackTraces = false ∧ (∀ T ∈ P, mj_okM S P T = true) ∧ (∀ (g n k o : Nat), S.1[g]? = some (.inr (.inr (.inl (n, k, o)))) → ∀ r : Nat, r < n → S.2[o + r]? = some k) ∧ (∀ (g n g' n' : Nat), S.1[g]? = some (.inr (.inr (.inr (.inl n)))) → S.1[g']? = some (.inr (.inr (.inr (.inl n')))) → g = g' ∧ n = 1) ∧ (∀ M, va_D A (mj_w S ad cI cR cJ cZ M)) ∧ ad S.1.length < B ∧ ¬ A (ad S.1.length) ∧ P.length ≤ 1000
theorem mj_cx {T : mj_T} {p : Program} {s : State} {m : MethodId} {args : Array Value} {meth : Method} {c : Code} (ok : mj_Ok S P ad cI cR cJ cZ A B l) (Fm : mj_Fm T p s m args meth c) (hE : mj_En S X ad cI cR cJ cZ D A s) (hB : B ≤ s.heap.size) : mj_Cx S X ad cI cR cJ cZ D A T p s m args c := by
  obtain ⟨-, -, hgr, hlg, hD, hsp, hbA, -⟩ := ok
  obtain ⟨hx, hb, hml, hown, hts, -, -, -⟩ := Fm
  exact ⟨⟨hx, hb, hml, hown, hts⟩, ⟨hE.1, hD, hE.2.1, Nat.lt_of_lt_of_le hsp hB, hbA⟩, hgr, hlg⟩
/-- a method's contract out of the walk of its body -/
theorem mj_met {T : mj_T} {as : List mj_V} {M : mj_M} {r : mj_R} {d : Nat} (ok : mj_Ok S P ad cI cR cJ cZ A B l) (hT : mj_okM S P T = true) (ha : ∀ v ∈ as, mj_one v = true) (hn : as.length ≤ mj_tl T)
    (body : ∀ (p : Program) (e : Env) (s : State) (m : MethodId) (args : Array Value) (below : List Frame) (meth : Method) (c : Code) (ls : Array Slot), mj_Fm T p s m args meth c → mj_En S X ad cI cR cJ cZ D A s → B ≤ s.heap.size → va_P D vwCl (mj_w S ad cI cR cJ cZ M) s.heap → mj_lv S ad (mj_tl T) (fun j => as[j]?) ls →
      W p l e (mj_rm d r.2.2) s m args below meth c s.heap [] 0 0 (vx_MQ below (mj_Qc S ad cI cR cJ cZ D A r) (mj_XC S ad cI cR cJ cZ D A r) args s r.2.2 (6 * r.2.2) A) (F0 m 0 ls [])) :
    vx_Met l (mj_tn T) (mj_ws T) (mj_rm d r.2.2) (mj_Pc S X ad cI cR cJ cZ D A B as M) (mj_Qc S ad cI cR cJ cZ D A r) (mj_XC S ad cI cR cJ cZ D A r) r.2.2 (6 * r.2.2) A := by
  have hT' := hT
  unfold mj_okM at hT'
  simp only [Bool.and_eq_true, decide_eq_true_eq] at hT'
  obtain ⟨⟨h1, h2, h3, h4, h5, h6⟩, h7⟩ := hT'
  cases hh : mj_th T with
  | nil =>
    refine vx_ofW (cc := mj_tb T) (maxL := mj_tl T) (ret := mj_tr T) (ws' := mj_tbl) h5 (by unfold mj_ws mj_cw; rw [hh]) ?_
    intro p e s m args below meth c s₁ Bd hml htab hv
    obtain ⟨rfl, hE, hP, hB⟩ := hv
    have hts := atoms_spec (ws := mj_ws T) Bd.pre
    rw [lg_entry_eq]
    refine body p e s m _ below meth c _ ⟨Bd.exec, Bd.bytes, hml, findClass_of_methodNamed Bd.named, fun w hw => hts w (List.mem_cons_of_mem _ hw), ?_, Bd.notSynchronized, Bd.returns⟩ hE hB hP (mj_entry as ha hn)
    unfold mj_tab
    rw [hh]
    exact List.eq_nil_iff_forall_not_mem.mpr htab
  | cons q hh9 =>
    have hw : mj_ws T = Cond.codeWith (mj_tn T) (mj_tb T) (mj_tl T) (mj_tr T) ((mj_th T).map (fun q => (q.1, q.2.1, q.2.2.1, q.2.2.2.1))) :: mj_tbl := by
      unfold mj_ws mj_cw
      rw [hh]
    refine vx_ofWH (cc := mj_tb T) (maxL := mj_tl T) (ret := mj_tr T) (ws' := mj_tbl) h5 hw ?_
    intro p e s m args below meth c s₁ Bd hml hv
    obtain ⟨rfl, hE, hP, hB⟩ := hv
    have hts := atoms_spec (ws := mj_ws T) Bd.pre
    have htb := vx_table (x := mj_tn T) Bd (hts _ (by rw [hw]; exact List.mem_cons_self))
    rw [lg_entry_eq]
    exact body p e s m _ below meth c _ ⟨Bd.exec, Bd.bytes, hml, findClass_of_methodNamed Bd.named, fun w hw => hts w (List.mem_cons_of_mem _ hw), htb, Bd.notSynchronized, Bd.returns⟩ hE hB hP (mj_entry as ha hn)
end
section
variable {S : mj_S} {X : Nat × (Nat → Int32)} {P : List mj_T} {ad : Nat → Nat} {cI cR cJ cZ : ClassId} {D : va_G} {A : Nat → Prop} {B : Nat} {l : Launch}
theorem mj_toMet {y : MethodName} {ws : List Cond} {rm : Room} {Pc : Array Value → State → Prop} {r : mj_R} {mc ms : Nat} {v : Option mj_V} (h : vx_Met l y ws rm Pc (mj_Qc S ad cI cR cJ cZ D A r) (mj_XC S ad cI cR cJ cZ D A r) mc ms A) (hr : r.1 = .inr v) : Met l y ws rm Pc (mj_Qc S ad cI cR cJ cZ D A r) mc ms A := by
  intro p e ha hc hk s m args below hf happ hP hK
  obtain ⟨n, o, a1, a2, a3, hq⟩ := h p e ha hc hk s m args below hf happ hP hK
  refine ⟨n, o, a1, a2, a3, ?_⟩
  rcases hq with hq | ⟨q, -, E, ce, L, ⟨⟨x, hx, -⟩, -⟩, -⟩
  · exact hq
  · rw [hr] at hx
    cases hx
variable {T T' : mj_T} {p : Program} {e : Env} {R : Room} {s : State} {m : MethodId} {args : Array Value} {below : List Frame} {meth : Method} {c : Code} {H : Heap} {locs : List Loc} {cells slots : Nat} {ls : Array Slot} {pc : Nat} {st as rest : List mj_V} {M : mj_M} {r : mj_R} {d nx : Nat} {ns : Bool}
theorem mj_ln {n : Nat} (h : mj_par T' = some n) : ∀ sig, parseMethodDescriptor (mj_tn T').desc = some sig → n = sig.parameters.length := by
  intro sig hs
  unfold mj_par at h
  rw [hs] at h
  exact (Option.some.inj h).symm
set_option maxRecDepth 100000 in
/-- a call, by the callee's contract -/
theorem mj_call (ok : mj_Ok S P ad cI cR cJ cZ A B l) (hTB : mj_okB S P T = true) (Fm : mj_Fm T p s m args meth c) (hE : mj_En S X ad cI cR cJ cZ D A s) (hB : B ≤ s.heap.size) (hP : va_P D vwCl (mj_w S ad cI cR cJ cZ M) H) (hS : va_S A s.heap H locs) (hsz : ls.size = mj_tl T)
    (hc : mj_callee P T pc st = some (T', as, rest, nx, ns)) (hns : ns = true → ∃ v, r.1 = .inr v)
    (hM : vx_Met l (mj_tn T') (mj_ws T') (mj_rm d r.2.2) (mj_Pc S X ad cI cR cJ cZ D A B as M) (mj_Qc S ad cI cR cJ cZ D A r) (mj_XC S ad cI cR cJ cZ D A r) r.2.2 (6 * r.2.2) A)
    (hf : (d + 1) + 12 ≤ R.frames) (hlo : 60 * (d + 1) + 240 ≤ R.locals) (hcl : cells + r.2.2 ≤ R.cells) (hsl : slots + 6 * r.2.2 ≤ R.slots) :
    nx = pc + 3 ∧ vx_Run p l e R s m args below meth c H locs cells slots r.2.2 (6 * r.2.2) (F0 m pc ls (st.map (mj_c S ad))) (rest.map (mj_c S ad)) (mj_Qc S ad cI cR cJ cZ D A r (as.map (mj_c S ad)).toArray) (mj_XC S ad cI cR cJ cZ D A r) A := by
  have hbA : ¬ A (ad S.1.length) := ok.2.2.2.2.2.2.1
  have hsp : ad S.1.length < B := ok.2.2.2.2.2.1
  have hfb := mj_blind (S := S) (X := X) (ad := ad) (cI := cI) (cR := cR) (cJ := cJ) (cZ := cZ) (D := D) (A := A) (as := as) (M := M) hsp hbA
  have hpre : ∀ U : State, U.heap = H → s.WarmedH U.vm → mj_Pc S X ad cI cR cJ cZ D A B as M (as.map (mj_c S ad)).toArray U := fun U hU hW => by
    refine ⟨rfl, mj_En.moved S X ad cI cR cJ cZ D A hE hW (fun q h1 h2 => by rw [hU]; exact hS.2.1 q h1 h2) (Nat.lt_of_lt_of_le hsp hB) hbA, by rw [hU]; exact hP, ?_⟩
    rw [hU]
    exact Nat.le_trans hB hS.1
  obtain ⟨hx, hb, hml, hown, hts, -, -, -⟩ := Fm
  have Fx : CallFix p m c (mj_tb T) (mj_tl T) s args mj_tbl (mj_tn T).cls := ⟨hx, hb, hml, hown, hts⟩
  have hTok := hTB
  unfold mj_okB at hTok
  rw [Bool.and_eq_true] at hTok
  have hcode := hTok.2
  unfold mj_callee at hc
  cases hat : mj_at T pc with
  | none => rw [hat] at hc; cases hc
  | some en =>
    obtain ⟨pc9, i, nx9, a, b, v⟩ := en
    rw [hat] at hc
    dsimp only at hc
    obtain ⟨hok, hpc9⟩ := mj_at_ok hat hcode
    have hpc9 : pc9 = pc := hpc9
    subst hpc9
    rw [Bool.and_eq_true] at hok
    obtain ⟨hokI, hokL⟩ := hok
    split at hc
    · next hisc =>
      split at hc
      · next T9 as9 rest9 hPa hpop =>
        split at hc
        · next hcond =>
          cases hc
          obtain ⟨hrcv, hrl, hone⟩ := hcond
          have hT' : T' ∈ P := List.mem_of_getElem? hPa
          have hTk := ok.2.1 T' hT'
          unfold mj_okM at hTk
          simp only [Bool.and_eq_true, decide_eq_true_eq] at hTk
          obtain ⟨⟨k1, k2, k3, k4, k5, k6⟩, -⟩ := hTk
          obtain ⟨hst, has⟩ := mj_pop_0 hpop
          have hcat : ((rest.map (mj_c S ad)).map fun v => v.category).sum ≤ 8 := by
            have := mj_cats (S := S) (ad := ad) rest
            omega
          have hroom : 8 + (mj_tl T' + 11) + (mj_rm d r.2.2).locals ≤ R.locals := by
            show 8 + (mj_tl T' + 11) + (60 * d + 240) ≤ R.locals
            omega
          have hfr : (mj_rm d r.2.2).frames + 1 ≤ R.frames := by
            show d + 12 + 1 ≤ R.frames
            omega
          have k1 := mj_inC k1
          have k2 := mj_inN k2
          have hpay := pay_in hts (mj_goodT k1)
          have hW9 : 2 * (F0 m pc9 ls (st.map (mj_c S ad))).monitorRoom + ((rest.map (mj_c S ad)).map fun v => v.category).sum ≤ 8 := lv_room hcat
          match i, hisc, hokI, hokL, hrcv with
          | .invokevirtual idx, _, hokI, hokL, hrcv =>
            obtain ⟨hd, hnx, -⟩ := mj_okD hokI rfl
            refine ⟨hnx, ?_⟩
            simp only [mj_okL] at hokL
            rw [hPa] at hokL
            dsimp only at hokL
            simp only [Bool.and_eq_true, decide_eq_true_eq] at hokL
            obtain ⟨⟨g1, g2, g3⟩, ⟨g4, g5, g6, g7⟩, g8⟩ := hokL
            cases hsh : S.1[mj_tp T']? with
            | none => rw [hsh] at g8; cases g8
            | some K =>
              match K, hsh, g8 with
              | .inl (ci, fs), hsh, g8 =>
                rw [hsh] at g8
                dsimp only at g8
                rw [decide_eq_true_eq] at g8
                cases hcl9 : vwCl[ci]? with
                | none => rw [hcl9] at g8; cases g8
                | some w =>
                  rw [hcl9] at g8
                  have hw1 : w.1 = (mj_tn T').cls := Option.some.inj g8
                  match as, hrcv, has, hst, hone, hM, hfb, hpre with
                  | .inr (.inr (.inl q)) :: as', hrcv, has, hst, hone, hM, hfb, hpre =>
                    have hq : q = mj_tp T' := by simpa [mj_rcv] using hrcv
                    subst hq
                    have hrec := va_recv hE.1 hP hcl9 (mj_w_at (S := S) (ad := ad) (cI := cI) (cR := cR) (cJ := cJ) (cZ := cZ) (M := M) hsh)
                    rw [hw1] at hrec
                    have hcode9 : mj_cw T' = Cond.code (mj_tn T') (mj_tb T') (mj_tl T') (mj_tr T') := by unfold mj_cw; rw [g4]
                    refine vx_runV (As := as'.map (mj_c S ad)) (n := b - 1) (C := (mj_tn T').cls) (bytes := mj_tb T') (maxL := mj_tl T') (ret := mj_tr T') Fx hM ⟨⟨rfl, rfl, hfr, hroom, hpay, ?_, ?_, hts _ k2, ⟨k3, k4⟩, mj_ln g5, hts _ (mj_inM g1)⟩, hts _ (mj_inI g2), hts _ (mj_inS g3)⟩ ⟨hfb, hrec, hpre⟩ rfl ?_ hsz ?_ hW9 hd ⟨hcl, hsl⟩
                    · rw [← hcode9]; exact List.mem_cons_self
                    · rw [← hcode9]; exact hts _ k1
                    · rw [List.length_map]
                      rw [List.length_cons] at has
                      omega
                    · show st.map (mj_c S ad) = _
                      rw [hst]
                      simp [mj_c]
                  | .inl _ :: _, hrcv, _, _, _, _, _, _ => simp [mj_rcv] at hrcv
                  | .inr (.inl _) :: _, hrcv, _, _, _, _, _, _ => simp [mj_rcv] at hrcv
                  | .inr (.inr (.inr _)) :: _, hrcv, _, _, _, _, _, _ => simp [mj_rcv] at hrcv
                  | [], hrcv, _, _, _, _, _, _ => simp [mj_rcv] at hrcv
              | .inr _, hsh, g8 =>
                rw [hsh] at g8
                cases g8
          | .invokestatic idx, _, hokI, hokL, hrcv =>
            obtain ⟨hd, hnx, -⟩ := mj_okD hokI rfl
            refine ⟨hnx, ?_⟩
            simp only [mj_okL] at hokL
            split at hokL
            · rw [hPa] at hokL
              dsimp only at hokL
              simp only [Bool.and_eq_true, Bool.or_eq_true, decide_eq_true_eq] at hokL
              obtain ⟨g1, g2, g3, g4⟩ := hokL
              have hstk : (F0 m pc9 ls (st.map (mj_c S ad))).stack = (as.map (mj_c S ad)).reverse ++ rest.map (mj_c S ad) := by
                show st.map (mj_c S ad) = _
                rw [hst]
                simp
              have hlen : (as.map (mj_c S ad)).length = b := by rw [List.length_map]; exact has
              rcases g1 with g1 | ⟨g5, g6, g7⟩
              · cases hh : mj_th T' with
                | nil =>
                  have hcode9 : mj_cw T' = Cond.code (mj_tn T') (mj_tb T') (mj_tl T') (mj_tr T') := by unfold mj_cw; rw [hh]
                  refine vx_runS (As := as.map (mj_c S ad)) (n := b) (bytes := mj_tb T') (maxL := mj_tl T') (ret := mj_tr T') Fx hM ⟨⟨rfl, rfl, hfr, hroom, hpay, ?_, ?_, hts _ k2, ⟨k3, k4⟩, mj_ln g3, hts _ (mj_inM g1)⟩, hts _ (mj_inT g2)⟩ ⟨hfb, hpre⟩ rfl hlen hsz hstk hW9 hd ⟨hcl, hsl⟩
                  · rw [← hcode9]; exact List.mem_cons_self
                  · rw [← hcode9]; exact hts _ k1
                | cons q9 hh9 =>
                  have hcode9 : mj_cw T' = Cond.codeWith (mj_tn T') (mj_tb T') (mj_tl T') (mj_tr T') ((q9 :: hh9).map (fun q => (q.1, q.2.1, q.2.2.1, q.2.2.2.1))) := by unfold mj_cw; rw [hh]
                  refine vx_runSX (As := as.map (mj_c S ad)) (n := b) (bytes := mj_tb T') (maxL := mj_tl T') (ret := mj_tr T') (hh := (q9 :: hh9).map (fun q => (q.1, q.2.1, q.2.2.1, q.2.2.2.1))) Fx hM ⟨⟨rfl, rfl, hfr, hroom, hpay, ?_⟩, ?_, hts _ k2, ⟨k3, k4⟩, mj_ln g3, hts _ (mj_inM g1), hts _ (mj_inT g2)⟩ ⟨hfb, hpre⟩ rfl hlen hsz hstk hW9 hd ⟨hcl, hsl⟩
                  · rw [← hcode9]; exact List.mem_cons_self
                  · rw [← hcode9]; exact hts _ k1
              · obtain ⟨q9, hq9, hq8⟩ := List.any_eq_true.mp g7
                rw [decide_eq_true_eq] at hq8
                have hnw := hE.2.2.2.2.2.2.1 q9 hq9
                rw [hq8.1, hq8.2.1, hq8.2.2] at hnw
                have hcode9 : mj_cw T' = Cond.code (mj_tn T') (mj_tb T') (mj_tl T') (mj_tr T') := by unfold mj_cw; rw [g5]
                obtain ⟨v9, hv9⟩ := hns (by rw [g6]; rfl)
                have hr9 := va_runSN (As := as.map (mj_c S ad)) (n := b) (bytes := mj_tb T') (maxL := mj_tl T') (ret := mj_tr T') (host := q9.2.2.2) (p := p) (e := e) (R := R) (m := m) (below := below) (meth := meth) (c := c) (H := H) (locs := locs) (cells := cells) (slots := slots) (rest := rest.map (mj_c S ad)) (g := F0 m pc9 ls (st.map (mj_c S ad))) Fx (mj_toMet hM hv9) ⟨⟨⟨rfl, rfl, hfr, hroom, hpay, by rw [← hcode9]; exact List.mem_cons_self⟩, by rw [← hcode9]; exact hts _ k1, hts _ k2, ⟨k3, k4⟩, mj_ln g3, va_Nw.use rfl hnw⟩, hts _ (mj_inT g2), trivial⟩ ⟨hfb, hpre⟩ rfl hlen hsz hstk hW9 hd ⟨hcl, hsl⟩
                intro T8 hT8 X8
                exact Or.inl (hr9 T8 hT8 X8)
            · next hge =>
              exfalso
              have h9 : P[a]? = none := List.getElem?_eq_none (Nat.le_trans ok.2.2.2.2.2.2.2 (Nat.le_of_not_lt hge))
              rw [h9] at hPa
              cases hPa
        · cases hc
      · cases hc
    · cases hc
end
end
section
section
variable {S : mj_S} {X : Nat × (Nat → Int32)} {P : List mj_T} {ad : Nat → Nat} {cI cR cJ cZ : ClassId} {D : va_G} {A : Nat → Prop} {B : Nat} {l : Launch}
theorem mj_nps {T : mj_T} {pc E : Nat} {args : Array Value} {s : State} {hh : List (Nat × Nat × Nat × Nat × Nat × Nat × Nat)} (hts : ∀ w ∈ mj_tbl, w.before args s = true) (hE : mj_En S X ad cI cR cJ cZ D A s) (hok : ∀ q ∈ hh, mj_okH T q = true) (hx : E < mj_xs.length) (hn : ∀ z ∈ hh, ¬ (z.1 ≤ pc ∧ pc < z.2.1 ∧ z.2.2.2.2.1 = E)) :
    ∀ z ∈ tableOf (hh.map (fun q => (q.1, q.2.1, q.2.2.1, q.2.2.2.1))), covers z pc = false ∨ (z.catchType ≠ 0 ∧ ∃ nm : String, (Cond.classLink (mj_tn T).cls z.catchType nm).before args s = true ∧ va_Nc (mj_xn E) nm s) := by
  intro z hz
  unfold tableOf at hz
  rw [List.map_map] at hz
  obtain ⟨q, hq, rfl⟩ := List.mem_map.mp hz
  have h1 := hok q hq
  unfold mj_okH at h1
  simp only [Bool.and_eq_true, decide_eq_true_eq] at h1
  by_cases hc : q.1 ≤ pc ∧ pc < q.2.1
  · have hne : q.2.2.2.2.1 ≠ E := fun h => hn q hq ⟨hc.1, hc.2, h⟩
    have h2 := List.all_eq_true.mp h1.1.2 E (List.mem_range.mpr hx)
    rw [Bool.or_eq_true, decide_eq_true_eq, decide_eq_true_eq] at h2
    rcases h2 with h2 | h2
    · exact absurd h2 hne
    · exact Or.inr ⟨h1.1.1.1, mj_xn q.2.2.2.2.1, hts _ (mj_inL h1.1.1.2), hE.2.2.2.2.2.1 _ h2⟩
  · refine Or.inl ?_
    show (decide (q.1 ≤ pc) && decide (pc < q.2.1)) = false
    by_cases h2 : q.1 ≤ pc
    · rw [decide_eq_false (fun h3 => hc ⟨h2, h3⟩), Bool.and_false]
    · rw [decide_eq_false h2, Bool.false_and]
theorem mj_cast {s : State} {args : Array Value} {E : Nat} (hE : mj_En S X ad cI cR cJ cZ D A s) (hx : E < mj_xs.length) : (Cond.castable (mj_xn E) (mj_xn E)).before args s = true := by
  have h1 : mj_xn E = (mj_xs[E]).1 := by unfold mj_xn; rw [List.getElem?_eq_getElem hx]; rfl
  rw [h1]
  exact va_Nw.use rfl (hE.2.2.2.2.2.2.2.1 _ (List.getElem_mem hx))
theorem mj_okT_lt {T : mj_T} {pc ik a b : Nat} {v : Int32} (h : mj_okT T pc ik a b v = true) : a < mj_xs.length := by
  unfold mj_okT at h
  cases hxs : mj_xs[a]? with
  | none => rw [hxs] at h; simp at h
  | some q => exact (List.getElem?_eq_some_iff.mp hxs).1
theorem mj_callee_ok {T T' : mj_T} {pc nx : Nat} {st as rest : List mj_V} {ns : Bool} (hTB : mj_okB S P T = true) (hP : P.length ≤ 1000) (hc : mj_callee P T pc st = some (T', as, rest, nx, ns)) : T' ∈ P ∧ (∀ v ∈ as, mj_one v = true) ∧ as.length ≤ mj_tl T' := by
  have hTok := hTB
  unfold mj_okB at hTok
  rw [Bool.and_eq_true] at hTok
  have hcode := hTok.2
  unfold mj_callee at hc
  cases hat : mj_at T pc with
  | none => rw [hat] at hc; cases hc
  | some en =>
    obtain ⟨pc9, i, nx9, a, b, v⟩ := en
    rw [hat] at hc
    dsimp only at hc
    obtain ⟨hok9, -⟩ := mj_at_ok hat hcode
    rw [Bool.and_eq_true] at hok9
    obtain ⟨-, hokL⟩ := hok9
    split at hc
    · next hisc =>
      split at hc
      · next T9 as9 rest9 hPa hpop =>
        split at hc
        · next hcond =>
          cases hc
          obtain ⟨-, has⟩ := mj_pop_0 hpop
          refine ⟨List.mem_of_getElem? hPa, fun v hv => List.all_eq_true.mp hcond.2.2 v hv, ?_⟩
          match i, hisc, hokL with
          | .invokevirtual idx, _, hokL =>
            simp only [mj_okL] at hokL
            rw [hPa] at hokL
            dsimp only at hokL
            simp only [Bool.and_eq_true, decide_eq_true_eq] at hokL
            rw [has]
            exact hokL.2.1.2.2.2
          | .invokestatic idx, _, hokL =>
            simp only [mj_okL] at hokL
            split at hokL
            · rw [hPa] at hokL
              dsimp only at hokL
              simp only [Bool.and_eq_true, decide_eq_true_eq] at hokL
              rw [has]
              exact hokL.2.2.2
            · next hge =>
              have h9 : P[a]? = none := List.getElem?_eq_none (Nat.le_trans hP (Nat.le_of_not_lt hge))
              rw [h9] at hPa
              cases hPa
        · cases hc
      · cases hc
    · cases hc
theorem mj_xlt (hok : ∀ T ∈ P, mj_okM S P T = true) (hP : P.length ≤ 1000) : ∀ (n d : Nat) (T : mj_T) (pc : Nat) (lo : mj_L) (st : List mj_V) (M : mj_M) (k : Nat) (r : mj_R), mj_okB S P T = true → mj_run S X P n d T pc lo st M k = some r → ∀ E, r.1 = .inl E → E < mj_xs.length := by
  intro n
  induction n with
  | zero =>
    intro d T pc lo st M k r _ h
    rw [mj_run_0] at h
    cases h
  | succ n ih =>
    intro d T pc lo st M k r hTP h E hE
    have hTok := hTP
    unfold mj_okB at hTok
    rw [Bool.and_eq_true] at hTok
    have hcode := hTok.2
    rw [mj_run_s] at h
    unfold mj_body at h
    cases hg : mj_go S X T pc lo st M with
    | some c =>
      obtain ⟨pc', lo', st', M'⟩ := c
      rw [hg] at h
      exact ih _ _ _ _ _ _ _ _ hTP h E hE
    | none =>
      rw [hg] at h
      dsimp only at h
      cases he : mj_end T pc st M k with
      | some r' =>
        rw [he] at h
        cases h
        unfold mj_end at he
        cases hat : mj_at T pc with
        | none => rw [hat] at he; cases he
        | some en =>
          obtain ⟨pc9, i, nx, a, b, v⟩ := en
          rw [hat] at he
          obtain ⟨hok9, -⟩ := mj_at_ok hat hcode
          rw [Bool.and_eq_true] at hok9
          obtain ⟨-, hokL⟩ := hok9
          split at he
          · split at he
            · split at he
              · cases he; cases hE
              · split at he
                · cases he; cases hE
                · cases he
              · cases he
            · cases he
          · split at he
            · cases he; cases hE
            · cases he
          · next ik nx8 a8 b8 v8 h9 =>
            cases h9
            split at he
            · cases he
              cases hE
              exact mj_okT_lt hokL
            · cases he
          · cases he
      | none =>
        rw [he] at h
        dsimp only at h
        cases d with
        | zero => cases h
        | succ d' =>
          cases hc : mj_callee P T pc st with
          | none =>
            rw [hc] at h
            cases h
          | some q =>
            obtain ⟨T', as, rest, nx, ns⟩ := q
            rw [hc] at h
            dsimp only at h
            obtain ⟨hT', -, -⟩ := mj_callee_ok hTP hP hc
            cases hr : mj_run S X P n d' T' 0 (fun j => as[j]?) [] M 0 with
            | none => rw [hr] at h; cases h
            | some q =>
              rw [hr] at h
              obtain ⟨o, M', k'⟩ := q
              cases o with
              | inl E' =>
                dsimp only at h
                by_cases hns : ns = true
                · rw [if_pos hns] at h
                  cases h
                · rw [if_neg hns] at h
                  cases hx : mj_cat (mj_th T) pc E' with
                  | none =>
                    rw [hx] at h
                    cases h
                    cases hE
                    exact ih _ _ _ _ _ _ _ _ (mj_okMB (hok T' hT')) hr _ rfl
                  | some q =>
                    obtain ⟨h9, j⟩ := q
                    rw [hx] at h
                    exact ih _ _ _ _ _ _ _ _ hTP h E hE
              | inr o =>
                cases o with
                | none => exact ih _ _ _ _ _ _ _ _ hTP h E hE
                | some v => exact ih _ _ _ _ _ _ _ _ hTP h E hE
set_option maxHeartbeats 4000000 in
set_option maxRecDepth 100000 in
theorem mj_sound (ok : mj_Ok S P ad cI cR cJ cZ A B l) :
    ∀ (n d : Nat) (T : mj_T) (pc : Nat) (lo : mj_L) (st : List mj_V) (M : mj_M) (k : Nat) (r : mj_R), mj_okB S P T = true → mj_run S X P n d T pc lo st M k = some r →
    ∀ (p : Program) (e : Env) (R : Room) (s : State) (m : MethodId) (args : Array Value) (below : List Frame) (meth : Method) (c : Code) (H : Heap) (locs : List Loc) (c0 s0 : Nat) (Q : State → Prop) (ls : Array Slot),
      mj_Fm T p s m args meth c → mj_En S X ad cI cR cJ cZ D A s → B ≤ s.heap.size → d + 12 ≤ R.frames → 60 * d + 240 ≤ R.locals → c0 + r.2.2 ≤ R.cells → s0 + 6 * r.2.2 ≤ R.slots →
      va_P D vwCl (mj_w S ad cI cR cJ cZ M) H → va_S A s.heap H locs → mj_lv S ad (mj_tl T) lo ls → mj_Fin S ad cI cR cJ cZ D A T p l e R s m args below meth c c0 s0 Q r →
      W p l e R s m args below meth c H locs (c0 + k) (s0 + 6 * k) Q (F0 m pc ls (st.map (mj_c S ad))) := by
  intro n
  induction n with
  | zero =>
    intro d T pc lo st M k r _ h
    rw [mj_run_0] at h
    cases h
  | succ n ih =>
    intro d T pc lo st M k r hTP h p e R s m args below meth c H locs c0 s0 Q ls Fm hE hB hRf hRl hRc hRs hP hS hlv hFin
    have hk := mj_kle _ _ _ _ _ _ _ _ _ h
    have hTok := hTP
    unfold mj_okB at hTok
    rw [Bool.and_eq_true] at hTok
    have hcode := hTok.2
    have hhok : ∀ q ∈ mj_th T, mj_okH T q = true := List.all_eq_true.mp hTok.1
    rw [mj_run_s] at h
    unfold mj_body at h
    cases hg : mj_go S X T pc lo st M with
    | some c9 =>
      obtain ⟨pc', lo', st', M'⟩ := c9
      rw [hg] at h
      dsimp only at h
      unfold mj_go at hg
      cases hat : mj_at T pc with
      | none => rw [hat] at hg; cases hg
      | some en =>
        obtain ⟨pc9, i, nx, a, b, v⟩ := en
        rw [hat] at hg
        dsimp only at hg
        obtain ⟨hok, hpc9⟩ := mj_at_ok hat hcode
        have hpc9 : pc9 = pc := hpc9
        subst hpc9
        rw [Bool.and_eq_true] at hok
        exact mj_step_ok (mj_cx ok Fm hE hB) ⟨by omega, by omega, by omega, by omega⟩ hok.1 hP hS hlv hg (fun H' locs' ls' hP' hS' hl' => ih d T pc' lo' st' M' k r hTP h p e R s m args below meth c H' locs' c0 s0 Q ls' Fm hE hB hRf hRl hRc hRs hP' hS' hl' hFin)
    | none =>
      rw [hg] at h
      dsimp only at h
      cases he : mj_end T pc st M k with
      | some r' =>
        rw [he] at h
        cases h
        unfold mj_end at he
        cases hat : mj_at T pc with
        | none => rw [hat] at he; cases he
        | some en =>
          obtain ⟨pc9, i, nx, a, b, v⟩ := en
          rw [hat] at he
          obtain ⟨hok, hpc9⟩ := mj_at_ok hat hcode
          have hpc9 : pc9 = pc := hpc9
          subst hpc9
          rw [Bool.and_eq_true] at hok
          obtain ⟨hokI, hokL⟩ := hok
          split at he
          · next q9 h9 =>
            cases h9
            obtain ⟨hd, -, -⟩ := mj_okD hokI rfl
            split at he
            · next x =>
              split at he
              · next hty =>
                cases he
                exact (hFin H locs ls pc9 hP hS hlv.1).2.1 x .int rfl hty rfl hd
              · next hty =>
                split at he
                · next h01 =>
                  cases he
                  refine (hFin H locs ls pc9 hP hS hlv.1).2.1 x .boolean rfl hty ?_ hd
                  rcases h01 with rfl | rfl <;> decide +kernel
                · cases he
              · cases he
            · cases he
          · next q9 h9 =>
            cases h9
            obtain ⟨hd, -, -⟩ := mj_okD hokI rfl
            split at he
            · next hty =>
              cases he
              exact (hFin H locs ls pc9 hP hS hlv.1).1 rfl hty hd
            · cases he
          · next ik nx8 a8 b8 v8 h9 =>
            cases h9
            obtain ⟨hd, -, -⟩ := mj_okD hokI rfl
            split at he
            · cases he
              exact (hFin H locs ls pc9 hP hS hlv.1).2.2.2 _ k _ _ _ rfl rfl hd hokL
            · cases he
          · cases he
      | none =>
        rw [he] at h
        dsimp only at h
        cases d with
        | zero => cases h
        | succ d' =>
          cases hc : mj_callee P T pc st with
          | none =>
            rw [hc] at h
            cases h
          | some q =>
            obtain ⟨T', as, rest, nx, ns⟩ := q
            rw [hc] at h
            dsimp only at h
            cases hr : mj_run S X P n d' T' 0 (fun j => as[j]?) [] M 0 with
            | none => rw [hr] at h; cases h
            | some r' =>
              rw [hr] at h
              obtain ⟨hT'P, hone, hlen⟩ := mj_callee_ok hTP ok.2.2.2.2.2.2.2 hc
              have hM : vx_Met l (mj_tn T') (mj_ws T') (mj_rm d' r'.2.2) (mj_Pc S X ad cI cR cJ cZ D A B as M) (mj_Qc S ad cI cR cJ cZ D A r') (mj_XC S ad cI cR cJ cZ D A r') r'.2.2 (6 * r'.2.2) A :=
                mj_met ok (ok.2.1 T' hT'P) hone hlen (fun p e s m args below meth c ls Fm hE hB hP hl =>
                  ih d' T' 0 (fun j => as[j]?) [] M 0 r' (mj_okMB (ok.2.1 T' hT'P)) hr p e (mj_rm d' r'.2.2) s m args below meth c s.heap [] 0 0 _ ls Fm hE hB (Nat.le_refl _) (Nat.le_refl _) (by rw [Nat.zero_add]; exact Nat.le_refl _) (by rw [Nat.zero_add]; exact Nat.le_refl _) hP va_S.rf hl (mj_fin ok.1 Fm hE))
              have hsum : k + r'.2.2 ≤ r.2.2 := by
                obtain ⟨o, M', k'⟩ := r'
                cases o with
                | inl E =>
                  dsimp only at h
                  by_cases hns : ns = true
                  · rw [if_pos hns] at h
                    cases h
                  · rw [if_neg hns] at h
                    cases hx : mj_cat (mj_th T) pc E with
                    | none =>
                      rw [hx] at h
                      cases h
                      exact Nat.le_refl _
                    | some q =>
                      obtain ⟨h9, j⟩ := q
                      rw [hx] at h
                      exact mj_kle _ _ _ _ _ _ _ _ _ h
                | inr o =>
                  cases o with
                  | none => exact mj_kle _ _ _ _ _ _ _ _ _ h
                  | some v => exact mj_kle _ _ _ _ _ _ _ _ _ h
              have hns9 : ns = true → ∃ v, r'.1 = .inr v := by
                intro hns
                obtain ⟨o, M', k'⟩ := r'
                cases o with
                | inl E =>
                  dsimp only at h
                  rw [if_pos hns] at h
                  cases h
                | inr o => exact ⟨o, rfl⟩
              obtain ⟨hnx, hrun⟩ := mj_call (e := e) (below := below) (cells := c0 + k) (slots := s0 + 6 * k) (R := R) (ls := ls) ok hTP Fm hE hB hP hS hlv.1 hc hns9 hM (by omega) (by omega) (by omega) (by omega)
              subst hnx
              intro T8 hT8 X8
              rcases hrun T8 hT8 X8 with ⟨v, st₀, t, T9, L, h0, X9, hL, e1, e2, ⟨⟨v9, hv9, ho⟩, hP9, hF9⟩, go⟩ | ⟨q, st₀, t, T9, L, E, ce, h0, X9, hL, e1, e2, ⟨⟨x9, hx9, hE9⟩, hP9, hF9⟩, hce, hcv, hcl, go⟩
              · obtain ⟨k1, k2, k3⟩ := vx_keep h0 e1 hS (fun _ _ h => h) (fun _ h => h) hL hF9
                obtain ⟨o, M', k'⟩ := r'
                cases hv9
                cases ho
                dsimp only at X9 hP9 h
                rw [Nat.add_assoc, show s0 + 6 * k + 6 * k' = s0 + 6 * (k + k') by omega] at X9
                rw [← e1] at hP9
                cases v9 with
                | none =>
                  obtain ⟨t2, a1, b1⟩ := ih (d' + 1) T (pc + 3) lo rest M' (k + k') r hTP h p e R s m args below meth c T9.heap (locs ++ L) c0 s0 Q ls Fm hE hB hRf hRl hRc hRs hP9 k3 hlv hFin T9 rfl X9
                  exact ⟨t2, go t2 a1, b1⟩
                | some v =>
                  obtain ⟨t2, a1, b1⟩ := ih (d' + 1) T (pc + 3) lo (v :: rest) M' (k + k') r hTP h p e R s m args below meth c T9.heap (locs ++ L) c0 s0 Q ls Fm hE hB hRf hRl hRc hRs hP9 k3 hlv hFin T9 rfl X9
                  exact ⟨t2, go t2 a1, b1⟩
              · obtain ⟨k1, k2, k3⟩ := vx_keep h0 e1 hS (fun _ _ h => h) (fun _ h => h) hL hF9
                have hxl := mj_xlt ok.2.1 ok.2.2.2.2.2.2.2 _ _ _ _ _ _ _ _ _ (mj_okMB (ok.2.1 T' hT'P)) hr x9 hx9
                obtain ⟨o, M', k'⟩ := r'
                cases hx9
                subst hE9
                dsimp only at X9 hP9 h
                rw [Nat.add_assoc, show s0 + 6 * k + 6 * k' = s0 + 6 * (k + k') by omega] at X9
                rw [← e1] at hP9 hce
                by_cases hns : ns = true
                · rw [if_pos hns] at h
                  cases h
                · rw [if_neg hns] at h
                  cases hx : mj_cat (mj_th T) pc x9 with
                  | none =>
                    rw [hx] at h
                    cases h
                    obtain ⟨t2, a1, b1⟩ := (hFin T9.heap (locs ++ L) ls pc hP9 k3 hlv.1).2.2.1 x9 rfl (rest.map (mj_c S ad)) q ce hce hcv hcl (mj_nps Fm.2.2.2.2.1 hE hhok hxl (mj_cat_none _ _ _ hx)) T9 rfl X9
                    exact ⟨t2, go.trans a1, b1⟩
                  | some q9 =>
                    obtain ⟨h9, j⟩ := q9
                    rw [hx] at h
                    obtain ⟨pre, qh, suf, hs1, hs2, rfl, rfl, hs5⟩ := mj_cat_some _ _ _ _ _ hx
                    have hmem : ∀ q ∈ pre, q ∈ mj_th T := fun q hq => by rw [hs1]; exact List.mem_append_left _ hq
                    have hqm : qh ∈ mj_th T := by rw [hs1]; exact List.mem_append_right _ List.mem_cons_self
                    have hqk := hhok qh hqm
                    unfold mj_okH at hqk
                    simp only [Bool.and_eq_true, Bool.or_eq_true, decide_eq_true_eq] at hqk
                    obtain ⟨⟨⟨q1, q2⟩, -⟩, q3, q4⟩ := hqk
                    have kk : W p l e R s m args below meth c T9.heap (locs ++ L) (c0 + (k + k')) (s0 + 6 * (k + k')) Q (F0 m qh.2.2.1 ls [.ref q]) := by
                      rcases q4 with ⟨d1, d2⟩ | ⟨d1, d2, d3⟩
                      · refine lv_astore Fm.1 Fm.2.1 d1 hlv.has q3 rfl (fun ls' hl' => ?_)
                        rw [← d2]
                        exact ih (d' + 1) T _ (mj_dl lo qh.2.2.2.2.2.2) [] M' (k + k') r hTP h p e R s m args below meth c T9.heap (locs ++ L) c0 s0 Q ls' Fm hE hB hRf hRl hRc hRs hP9 k3 (hlv.del hl') hFin
                      · refine lv_astore_n Fm.1 Fm.2.1 d1 (Nat.mod_eq_of_lt d2) hlv.has q3 rfl (fun ls' hl' => ?_)
                        rw [← d3]
                        exact ih (d' + 1) T _ (mj_dl lo qh.2.2.2.2.2.2) [] M' (k + k') r hTP h p e R s m args below meth c T9.heap (locs ++ L) c0 s0 Q ls' Fm hE hB hRf hRl hRc hRs hP9 k3 (hlv.del hl') hFin
                    have htab : c.exceptionTable.toList = tableOf (pre.map (fun q => (q.1, q.2.1, q.2.2.1, q.2.2.2.1))) ++ (⟨qh.1, qh.2.1, qh.2.2.1, qh.2.2.2.1⟩ : ExceptionTableEntry) :: tableOf (suf.map (fun q => (q.1, q.2.1, q.2.2.1, q.2.2.2.1))) := by
                      rw [Fm.2.2.2.2.2.1]
                      unfold mj_tab tableOf
                      rw [hs1]
                      simp
                    have hvw := vx_catch (rest := rest.map (mj_c S ad)) (pc := pc) (ls := ls) (E := mj_xn x9) (name := mj_xn x9) Fm.2.2.2.1 _ (⟨qh.1, qh.2.1, qh.2.2.1, qh.2.2.2.1⟩ : ExceptionTableEntry) _ htab (mj_nps Fm.2.2.2.2.1 hE (fun q hq => hhok q (hmem q hq)) hxl hs5) (by show (decide (qh.1 ≤ pc) && decide (pc < qh.2.1)) = true; rw [decide_eq_true hs2.1, decide_eq_true hs2.2.1]; rfl) q1 (Fm.2.2.2.2.1 _ (by rw [← hs2.2.2]; exact mj_inL q2)) (mj_cast hE hxl) hce hcv hcl kk
                    obtain ⟨t2, a1, b1⟩ := hvw T9 rfl X9
                    exact ⟨t2, go.trans a1, b1⟩
end
end
section
theorem ok_mt_L_add : mj_okM mj_S0 mj_P mt_L_add = true := by decide +kernel
theorem ok_mt_L_lastTime : mj_okM mj_S0 mj_P mt_L_lastTime = true := by decide +kernel
theorem ok_mt_L_turn : mj_okM mj_S0 mj_P mt_L_turn = true := by decide +kernel
theorem ok_mt_L_carry : mj_okM mj_S0 mj_P mt_L_carry = true := by decide +kernel
theorem ok_mt_L_shift : mj_okM mj_S0 mj_P mt_L_shift = true := by decide +kernel
theorem ok_mt_L_tell : mj_okM mj_S0 mj_P mt_L_tell = true := by decide +kernel
theorem ok_mt_L_isCounted : mj_okM mj_S0 mj_P mt_L_isCounted = true := by decide +kernel
theorem ok_mt_L_differs : mj_okM mj_S0 mj_P mt_L_differs = true := by decide +kernel
theorem ok_mt_L_gap : mj_okM mj_S0 mj_P mt_L_gap = true := by decide +kernel
theorem ok_mt_L_differingCell : mj_okM mj_S0 mj_P mt_L_differingCell = true := by decide +kernel
theorem ok_mt_L_piecesOfDifferences : mj_okM mj_S0 mj_P mt_L_piecesOfDifferences = true := by decide +kernel
theorem ok_mt_L_countedCells : mj_okM mj_S0 mj_P mt_L_countedCells = true := by decide +kernel
theorem ok_mt_L_isCandidate : mj_okM mj_S0 mj_P mt_L_isCandidate = true := by decide +kernel
theorem ok_mt_L_isAtCountedCell : mj_okM mj_S0 mj_P mt_L_isAtCountedCell = true := by decide +kernel
theorem ok_mt_L_candidates : mj_okM mj_S0 mj_P mt_L_candidates = true := by decide +kernel
theorem ok_mt_L_actsWith : mj_okM mj_S0 mj_P mt_L_actsWith = true := by decide +kernel
theorem ok_mt_L_actAt : mj_okM mj_S0 mj_P mt_L_actAt = true := by decide +kernel
theorem ok_mt_L_isAt : mj_okM mj_S0 mj_P mt_L_isAt = true := by decide +kernel
theorem ok_mt_K_seek : mj_okM mj_S0 mj_P mt_K_seek = true := by decide +kernel
theorem ok_mt_K_begin : mj_okM mj_S0 mj_P mt_K_begin = true := by decide +kernel
theorem ok_mt_K_gatherChoices : mj_okM mj_S0 mj_P mt_K_gatherChoices = true := by decide +kernel
theorem ok_mt_K_extend : mj_okM mj_S0 mj_P mt_K_extend = true := by decide +kernel
theorem ok_mt_K_attempt : mj_okM mj_S0 mj_P mt_K_attempt = true := by decide +kernel
theorem ok_mt_K_note : mj_okM mj_S0 mj_P mt_K_note = true := by decide +kernel
theorem ok_mt_K_isOfPlainActs : mj_okM mj_S0 mj_P mt_K_isOfPlainActs = true := by decide +kernel
theorem ok_mt_K_settle : mj_okM mj_S0 mj_P mt_K_settle = true := by decide +kernel
theorem ok_mt_E_put : mj_okM mj_S0 mj_P mt_E_put = true := by decide +kernel
theorem ok_mt_E_take : mj_okM mj_S0 mj_P mt_E_take = true := by decide +kernel
theorem ok_mt_E_move : mj_okM mj_S0 mj_P mt_E_move = true := by decide +kernel
theorem ok_mt_E_closed : mj_okM mj_S0 mj_P mt_E_closed = true := by decide +kernel
theorem ok_mt_E_window : mj_okM mj_S0 mj_P mt_E_window = true := by decide +kernel
theorem ok_mt_E_counted : mj_okM mj_S0 mj_P mt_E_counted = true := by decide +kernel
theorem ok_mt_E_expected : mj_okM mj_S0 mj_P mt_E_expected = true := by decide +kernel
theorem ok_mt_E_differ : mj_okM mj_S0 mj_P mt_E_differ = true := by decide +kernel
theorem ok_mt_E_search : mj_okM mj_S0 mj_P mt_E_search = true := by decide +kernel
theorem ok_mt_E_exact : mj_okM mj_S0 mj_P mt_E_exact = true := by decide +kernel
theorem ok_mt_E_steps : mj_okM mj_S0 mj_P mt_E_steps = true := by decide +kernel
theorem ok_mt_E_ties : mj_okM mj_S0 mj_P mt_E_ties = true := by decide +kernel
theorem ok_mt_E_often : mj_okM mj_S0 mj_P mt_E_often = true := by decide +kernel
theorem ok_mt_E_found : mj_okM mj_S0 mj_P mt_E_found = true := by decide +kernel
theorem ok_mt_E_accept : mj_okM mj_S0 mj_P mt_E_accept = true := by decide +kernel
theorem ok_mt_E_back : mj_okM mj_S0 mj_P mt_E_back = true := by decide +kernel
theorem ok_mt_E_share : mj_okM mj_S0 mj_P mt_E_share = true := by decide +kernel
theorem ok_mt_E_told : mj_okM mj_S0 mj_P mt_E_told = true := by decide +kernel
theorem ok_mt_E_of : mj_okM mj_S0 mj_P mt_E_of = true := by decide +kernel
theorem ok_mt_E_count : mj_okM mj_S0 mj_P mt_E_count = true := by decide +kernel
theorem ok_mt_E_needAct : mj_okM mj_S0 mj_P mt_E_needAct = true := by decide +kernel
theorem ok_mt_E_needRoom : mj_okM mj_S0 mj_P mt_E_needRoom = true := by decide +kernel
theorem ok_mt_E_needCell : mj_okM mj_S0 mj_P mt_E_needCell = true := by decide +kernel
theorem ok_mt_E_needThere : mj_okM mj_S0 mj_P mt_E_needThere = true := by decide +kernel
theorem ok_mt_E_need : mj_okM mj_S0 mj_P mt_E_need = true := by decide +kernel
theorem ok_mt_E_isWithin : mj_okM mj_S0 mj_P mt_E_isWithin = true := by decide +kernel
theorem ok_mt_E_cellOf : mj_okM mj_S0 mj_P mt_E_cellOf = true := by decide +kernel
theorem ok_mt_E_timesDone : mj_okM mj_S0 mj_P mt_E_timesDone = true := by decide +kernel
end
section
theorem ok_mt_M_not : mj_okM mj_S0 mj_P mt_M_not = true := by decide +kernel
theorem ok_mt_M_adds : mj_okM mj_S0 mj_P mt_M_adds = true := by decide +kernel
theorem ok_mt_M_times : mj_okM mj_S0 mj_P mt_M_times = true := by decide +kernel
theorem ok_mt_M_expectedOf : mj_okM mj_S0 mj_P mt_M_expectedOf = true := by decide +kernel
theorem ok_mt_M_differenceOf : mj_okM mj_S0 mj_P mt_M_differenceOf = true := by decide +kernel
theorem ok_mt_M_differences : mj_okM mj_S0 mj_P mt_M_differences = true := by decide +kernel
theorem ok_mt_M_touches : mj_okM mj_S0 mj_P mt_M_touches = true := by decide +kernel
theorem ok_mt_M_isCandidate : mj_okM mj_S0 mj_P mt_M_isCandidate = true := by decide +kernel
theorem ok_mt_M_howMany : mj_okM mj_S0 mj_P mt_M_howMany = true := by decide +kernel
theorem ok_mt_M_add : mj_okM mj_S0 mj_P mt_M_add = true := by decide +kernel
theorem ok_mt_M_apply : mj_okM mj_S0 mj_P mt_M_apply = true := by decide +kernel
theorem ok_mt_M_foundOne : mj_okM mj_S0 mj_P mt_M_foundOne = true := by decide +kernel
theorem ok_mt_M_goThrough : mj_okM mj_S0 mj_P mt_M_goThrough = true := by decide +kernel
theorem ok_mt_M_thrown : mj_okM mj_S0 mj_P mt_M_thrown = true := by decide +kernel
theorem ok_mt_M_newAct : mj_okM mj_S0 mj_P mt_M_newAct = true := by decide +kernel
theorem ok_mt_M_put : mj_okM mj_S0 mj_P mt_M_put = true := by decide +kernel
theorem ok_mt_M_take : mj_okM mj_S0 mj_P mt_M_take = true := by decide +kernel
theorem ok_mt_M_move : mj_okM mj_S0 mj_P mt_M_move = true := by decide +kernel
theorem ok_mt_M_noAct : mj_okM mj_S0 mj_P mt_M_noAct = true := by decide +kernel
theorem ok_mt_M_closed : mj_okM mj_S0 mj_P mt_M_closed = true := by decide +kernel
theorem ok_mt_M_window : mj_okM mj_S0 mj_P mt_M_window = true := by decide +kernel
theorem ok_mt_M_counted : mj_okM mj_S0 mj_P mt_M_counted = true := by decide +kernel
theorem ok_mt_M_expected : mj_okM mj_S0 mj_P mt_M_expected = true := by decide +kernel
theorem ok_mt_M_differ : mj_okM mj_S0 mj_P mt_M_differ = true := by decide +kernel
theorem ok_mt_M_search : mj_okM mj_S0 mj_P mt_M_search = true := by decide +kernel
theorem ok_mt_M_exact : mj_okM mj_S0 mj_P mt_M_exact = true := by decide +kernel
theorem ok_mt_M_steps : mj_okM mj_S0 mj_P mt_M_steps = true := by decide +kernel
theorem ok_mt_M_ties : mj_okM mj_S0 mj_P mt_M_ties = true := by decide +kernel
theorem ok_mt_M_often : mj_okM mj_S0 mj_P mt_M_often = true := by decide +kernel
theorem ok_mt_M_found : mj_okM mj_S0 mj_P mt_M_found = true := by decide +kernel
theorem ok_mt_M_accept : mj_okM mj_S0 mj_P mt_M_accept = true := by decide +kernel
theorem ok_mt_M_back : mj_okM mj_S0 mj_P mt_M_back = true := by decide +kernel
theorem ok_mt_M_share : mj_okM mj_S0 mj_P mt_M_share = true := by decide +kernel
theorem ok_mt_M_told : mj_okM mj_S0 mj_P mt_M_told = true := by decide +kernel
theorem ok_mt_M_of : mj_okM mj_S0 mj_P mt_M_of = true := by decide +kernel
theorem ok_mt_M_count : mj_okM mj_S0 mj_P mt_M_count = true := by decide +kernel
theorem ok_mt_W_put : mj_okM mj_S0 mj_P mt_W_put = true := by decide +kernel
theorem ok_mt_W_take : mj_okM mj_S0 mj_P mt_W_take = true := by decide +kernel
theorem ok_mt_W_move : mj_okM mj_S0 mj_P mt_W_move = true := by decide +kernel
theorem ok_mt_W_closed : mj_okM mj_S0 mj_P mt_W_closed = true := by decide +kernel
theorem ok_mt_W_window : mj_okM mj_S0 mj_P mt_W_window = true := by decide +kernel
theorem ok_mt_W_counted : mj_okM mj_S0 mj_P mt_W_counted = true := by decide +kernel
theorem ok_mt_W_expected : mj_okM mj_S0 mj_P mt_W_expected = true := by decide +kernel
theorem ok_mt_W_differ : mj_okM mj_S0 mj_P mt_W_differ = true := by decide +kernel
theorem ok_mt_W_search : mj_okM mj_S0 mj_P mt_W_search = true := by decide +kernel
theorem ok_mt_W_often : mj_okM mj_S0 mj_P mt_W_often = true := by decide +kernel
theorem ok_mt_W_found : mj_okM mj_S0 mj_P mt_W_found = true := by decide +kernel
theorem ok_mt_W_accept : mj_okM mj_S0 mj_P mt_W_accept = true := by decide +kernel
theorem ok_mt_W_back : mj_okM mj_S0 mj_P mt_W_back = true := by decide +kernel
theorem ok_mt_W_share : mj_okM mj_S0 mj_P mt_W_share = true := by decide +kernel
theorem ok_mt_W_told : mj_okM mj_S0 mj_P mt_W_told = true := by decide +kernel
theorem ok_mt_W_of : mj_okM mj_S0 mj_P mt_W_of = true := by decide +kernel
theorem ok_mt_J_fill : mj_okM mj_S0 mj_P mt_J_fill = true := by decide +kernel
end
section
theorem mj_asp {α : Type} (f : α → Bool) (n : Nat) (l : List α) (h1 : (l.take n).all f = true) (h2 : (l.drop n).all f = true) : l.all f = true := by
  rw [← List.take_append_drop n l, List.all_append, h1, h2]
  rfl
set_option maxRecDepth 100000 in
theorem okw_0 : ((mj_tc mt_W_law).take 12).all (fun ch => ch.all (fun e => mj_okI mj_S0 mt_W_law e && mj_okL mj_S0 mj_P mt_W_law e)) = true := by decide +kernel
set_option maxRecDepth 100000 in
theorem okw_1 : (((mj_tc mt_W_law).drop 12).take 12).all (fun ch => ch.all (fun e => mj_okI mj_S0 mt_W_law e && mj_okL mj_S0 mj_P mt_W_law e)) = true := by decide +kernel
set_option maxRecDepth 100000 in
theorem okw_2 : ((((mj_tc mt_W_law).drop 12).drop 12).take 12).all (fun ch => ch.all (fun e => mj_okI mj_S0 mt_W_law e && mj_okL mj_S0 mj_P mt_W_law e)) = true := by decide +kernel
set_option maxRecDepth 100000 in
theorem okw_3 : (((((mj_tc mt_W_law).drop 12).drop 12).drop 12).take 12).all (fun ch => ch.all (fun e => mj_okI mj_S0 mt_W_law e && mj_okL mj_S0 mj_P mt_W_law e)) = true := by decide +kernel
set_option maxRecDepth 100000 in
theorem okw_4 : ((((((mj_tc mt_W_law).drop 12).drop 12).drop 12).drop 12).take 12).all (fun ch => ch.all (fun e => mj_okI mj_S0 mt_W_law e && mj_okL mj_S0 mj_P mt_W_law e)) = true := by decide +kernel
set_option maxRecDepth 100000 in
theorem okw_5 : (((((((mj_tc mt_W_law).drop 12).drop 12).drop 12).drop 12).drop 12).take 12).all (fun ch => ch.all (fun e => mj_okI mj_S0 mt_W_law e && mj_okL mj_S0 mj_P mt_W_law e)) = true := by decide +kernel
set_option maxRecDepth 100000 in
theorem okw_6 : (((((((mj_tc mt_W_law).drop 12).drop 12).drop 12).drop 12).drop 12).drop 12).all (fun ch => ch.all (fun e => mj_okI mj_S0 mt_W_law e && mj_okL mj_S0 mj_P mt_W_law e)) = true := by decide +kernel
theorem ok_mt_W_law : mj_okB mj_S0 mj_P mt_W_law = true := by
  unfold mj_okB
  rw [Bool.and_eq_true]
  exact ⟨rfl, mj_asp _ 12 (mj_tc mt_W_law) okw_0 (mj_asp _ 12 ((mj_tc mt_W_law).drop 12) okw_1 (mj_asp _ 12 (((mj_tc mt_W_law).drop 12).drop 12) okw_2 (mj_asp _ 12 ((((mj_tc mt_W_law).drop 12).drop 12).drop 12) okw_3 (mj_asp _ 12 (((((mj_tc mt_W_law).drop 12).drop 12).drop 12).drop 12) okw_4 (mj_asp _ 12 ((((((mj_tc mt_W_law).drop 12).drop 12).drop 12).drop 12).drop 12) okw_5 (okw_6))))))⟩
set_option maxRecDepth 100000 in
theorem mj_P_ok : ∀ T ∈ mj_P, mj_okM mj_S0 mj_P T = true := List.forall_mem_cons.mpr ⟨ok_mt_L_add, List.forall_mem_cons.mpr ⟨ok_mt_L_lastTime, List.forall_mem_cons.mpr ⟨ok_mt_L_turn, List.forall_mem_cons.mpr ⟨ok_mt_L_carry, List.forall_mem_cons.mpr ⟨ok_mt_L_shift, List.forall_mem_cons.mpr ⟨ok_mt_L_tell, List.forall_mem_cons.mpr ⟨ok_mt_L_isCounted, List.forall_mem_cons.mpr ⟨ok_mt_L_differs, List.forall_mem_cons.mpr ⟨ok_mt_L_gap, List.forall_mem_cons.mpr ⟨ok_mt_L_differingCell, List.forall_mem_cons.mpr ⟨ok_mt_L_piecesOfDifferences, List.forall_mem_cons.mpr ⟨ok_mt_L_countedCells, List.forall_mem_cons.mpr ⟨ok_mt_L_isCandidate, List.forall_mem_cons.mpr ⟨ok_mt_L_isAtCountedCell, List.forall_mem_cons.mpr ⟨ok_mt_L_candidates, List.forall_mem_cons.mpr ⟨ok_mt_L_actsWith, List.forall_mem_cons.mpr ⟨ok_mt_L_actAt, List.forall_mem_cons.mpr ⟨ok_mt_L_isAt, List.forall_mem_cons.mpr ⟨ok_mt_K_seek, List.forall_mem_cons.mpr ⟨ok_mt_K_begin, List.forall_mem_cons.mpr ⟨ok_mt_K_gatherChoices, List.forall_mem_cons.mpr ⟨ok_mt_K_extend, List.forall_mem_cons.mpr ⟨ok_mt_K_attempt, List.forall_mem_cons.mpr ⟨ok_mt_K_note, List.forall_mem_cons.mpr ⟨ok_mt_K_isOfPlainActs, List.forall_mem_cons.mpr ⟨ok_mt_K_settle, List.forall_mem_cons.mpr ⟨ok_mt_E_put, List.forall_mem_cons.mpr ⟨ok_mt_E_take, List.forall_mem_cons.mpr ⟨ok_mt_E_move, List.forall_mem_cons.mpr ⟨ok_mt_E_closed, List.forall_mem_cons.mpr ⟨ok_mt_E_window, List.forall_mem_cons.mpr ⟨ok_mt_E_counted, List.forall_mem_cons.mpr ⟨ok_mt_E_expected, List.forall_mem_cons.mpr ⟨ok_mt_E_differ, List.forall_mem_cons.mpr ⟨ok_mt_E_search, List.forall_mem_cons.mpr ⟨ok_mt_E_exact, List.forall_mem_cons.mpr ⟨ok_mt_E_steps, List.forall_mem_cons.mpr ⟨ok_mt_E_ties, List.forall_mem_cons.mpr ⟨ok_mt_E_often, List.forall_mem_cons.mpr ⟨ok_mt_E_found, List.forall_mem_cons.mpr ⟨ok_mt_E_accept, List.forall_mem_cons.mpr ⟨ok_mt_E_back, List.forall_mem_cons.mpr ⟨ok_mt_E_share, List.forall_mem_cons.mpr ⟨ok_mt_E_told, List.forall_mem_cons.mpr ⟨ok_mt_E_of, List.forall_mem_cons.mpr ⟨ok_mt_E_count, List.forall_mem_cons.mpr ⟨ok_mt_E_needAct, List.forall_mem_cons.mpr ⟨ok_mt_E_needRoom, List.forall_mem_cons.mpr ⟨ok_mt_E_needCell, List.forall_mem_cons.mpr ⟨ok_mt_E_needThere, List.forall_mem_cons.mpr ⟨ok_mt_E_need, List.forall_mem_cons.mpr ⟨ok_mt_E_isWithin, List.forall_mem_cons.mpr ⟨ok_mt_E_cellOf, List.forall_mem_cons.mpr ⟨ok_mt_E_timesDone, List.forall_mem_cons.mpr ⟨ok_mt_M_not, List.forall_mem_cons.mpr ⟨ok_mt_M_adds, List.forall_mem_cons.mpr ⟨ok_mt_M_times, List.forall_mem_cons.mpr ⟨ok_mt_M_expectedOf, List.forall_mem_cons.mpr ⟨ok_mt_M_differenceOf, List.forall_mem_cons.mpr ⟨ok_mt_M_differences, List.forall_mem_cons.mpr ⟨ok_mt_M_touches, List.forall_mem_cons.mpr ⟨ok_mt_M_isCandidate, List.forall_mem_cons.mpr ⟨ok_mt_M_howMany, List.forall_mem_cons.mpr ⟨ok_mt_M_add, List.forall_mem_cons.mpr ⟨ok_mt_M_apply, List.forall_mem_cons.mpr ⟨ok_mt_M_foundOne, List.forall_mem_cons.mpr ⟨ok_mt_M_goThrough, List.forall_mem_cons.mpr ⟨ok_mt_M_thrown, List.forall_mem_cons.mpr ⟨ok_mt_M_newAct, List.forall_mem_cons.mpr ⟨ok_mt_M_put, List.forall_mem_cons.mpr ⟨ok_mt_M_take, List.forall_mem_cons.mpr ⟨ok_mt_M_move, List.forall_mem_cons.mpr ⟨ok_mt_M_noAct, List.forall_mem_cons.mpr ⟨ok_mt_M_closed, List.forall_mem_cons.mpr ⟨ok_mt_M_window, List.forall_mem_cons.mpr ⟨ok_mt_M_counted, List.forall_mem_cons.mpr ⟨ok_mt_M_expected, List.forall_mem_cons.mpr ⟨ok_mt_M_differ, List.forall_mem_cons.mpr ⟨ok_mt_M_search, List.forall_mem_cons.mpr ⟨ok_mt_M_exact, List.forall_mem_cons.mpr ⟨ok_mt_M_steps, List.forall_mem_cons.mpr ⟨ok_mt_M_ties, List.forall_mem_cons.mpr ⟨ok_mt_M_often, List.forall_mem_cons.mpr ⟨ok_mt_M_found, List.forall_mem_cons.mpr ⟨ok_mt_M_accept, List.forall_mem_cons.mpr ⟨ok_mt_M_back, List.forall_mem_cons.mpr ⟨ok_mt_M_share, List.forall_mem_cons.mpr ⟨ok_mt_M_told, List.forall_mem_cons.mpr ⟨ok_mt_M_of, List.forall_mem_cons.mpr ⟨ok_mt_M_count, List.forall_mem_cons.mpr ⟨ok_mt_W_put, List.forall_mem_cons.mpr ⟨ok_mt_W_take, List.forall_mem_cons.mpr ⟨ok_mt_W_move, List.forall_mem_cons.mpr ⟨ok_mt_W_closed, List.forall_mem_cons.mpr ⟨ok_mt_W_window, List.forall_mem_cons.mpr ⟨ok_mt_W_counted, List.forall_mem_cons.mpr ⟨ok_mt_W_expected, List.forall_mem_cons.mpr ⟨ok_mt_W_differ, List.forall_mem_cons.mpr ⟨ok_mt_W_search, List.forall_mem_cons.mpr ⟨ok_mt_W_often, List.forall_mem_cons.mpr ⟨ok_mt_W_found, List.forall_mem_cons.mpr ⟨ok_mt_W_accept, List.forall_mem_cons.mpr ⟨ok_mt_W_back, List.forall_mem_cons.mpr ⟨ok_mt_W_share, List.forall_mem_cons.mpr ⟨ok_mt_W_told, List.forall_mem_cons.mpr ⟨ok_mt_W_of, List.forall_mem_cons.mpr ⟨ok_mt_J_fill, fun _ h => absurd h List.not_mem_nil⟩⟩⟩⟩⟩⟩⟩⟩⟩⟩⟩⟩⟩⟩⟩⟩⟩⟩⟩⟩⟩⟩⟩⟩⟩⟩⟩⟩⟩⟩⟩⟩⟩⟩⟩⟩⟩⟩⟩⟩⟩⟩⟩⟩⟩⟩⟩⟩⟩⟩⟩⟩⟩⟩⟩⟩⟩⟩⟩⟩⟩⟩⟩⟩⟩⟩⟩⟩⟩⟩⟩⟩⟩⟩⟩⟩⟩⟩⟩⟩⟩⟩⟩⟩⟩⟩⟩⟩⟩⟩⟩⟩⟩⟩⟩⟩⟩⟩⟩⟩⟩⟩⟩⟩⟩⟩⟩
end
section
/-! pure walks: the leaves of the class -/
abbrev mv_i (x : Int32) : mj_V := .inl x
abbrev mv_p (q : Nat) : mj_V := .inr (.inr (.inl q))
abbrev mv_r (r : Nat) : mj_V := .inr (.inr (.inr (3, r)))
abbrev mv_R (x : Int32) (M : mj_M) : mj_R := (.inr (some (.inl x)), M, 0)
abbrev mv_V (M : mj_M) : mj_R := (.inr none, M, 0)
abbrev mv_X (E : Nat) (M : mj_M) : mj_R := (.inl E, M, 1)
/-- a call of T with these arguments comes to r -/
abbrev mj_C0 (X : Nat × (Nat → Int32)) (d : Nat) (T : mj_T) (as : List mj_V) (M : mj_M) (r : mj_R) : Prop := mj_Ev mj_S0 X mj_P d T 0 (fun j => as[j]?) [] M 0 r
section
variable {X : Nat × (Nat → Int32)} {d : Nat} {M : mj_M}
def pd_wi (n a b : Int32) : Int32 := if n < a then 0 else if b < n then 0 else 1
theorem pe_isWithin {n a b : Int32} : mj_C0 X d mt_E_isWithin [mv_i n, mv_i a, mv_i b] M (mv_R (pd_wi n a b) M) := by
  iterate 2 refine ev_go rfl ?_
  refine ev_if rfl (fun h2 => ?_) (fun h2 => ?_)
  · refine ev_go rfl ?_
    refine ev_end rfl ?_
    show some _ = some _
    simp [pd_wi, *]
  · iterate 2 refine ev_go rfl ?_
    refine ev_if rfl (fun h7 => ?_) (fun h7 => ?_)
    · refine ev_go rfl ?_
      refine ev_end rfl ?_
      show some _ = some _
      simp [pd_wi, *]
    · iterate 2 refine ev_go rfl ?_
      refine ev_end rfl ?_
      show some _ = some _
      simp [pd_wi, *]
theorem pe_cellOf {p g : Int32} : mj_C0 X d mt_E_cellOf [mv_i p, mv_i g] M (mv_R (p * 6 + g) M) := by
  iterate 5 refine ev_go rfl ?_
  refine ev_end rfl ?_
  rfl
def pd_td (s : Int32) : Int32 := if s = 1 then 0 else if s = 2 then 2 else 1
theorem pe_timesDone {s : Int32} : mj_C0 X d mt_E_timesDone [mv_i s] M (mv_R (pd_td s) M) := by
  iterate 2 refine ev_go rfl ?_
  refine ev_if rfl (fun h2 => ?_) (fun h2 => ?_)
  · refine ev_go rfl ?_
    refine ev_end rfl ?_
    show some _ = some _
    simp [pd_td, *]
  · iterate 2 refine ev_go rfl ?_
    refine ev_if rfl (fun h9 => ?_) (fun h9 => ?_)
    · iterate 2 refine ev_go rfl ?_
      refine ev_end rfl ?_
      show some _ = some _
      simp [pd_td, *]
    · refine ev_go rfl ?_
      refine ev_end rfl ?_
      show some _ = some _
      simp [pd_td, *]
/-- 1 where something is counted -/
def pd_ct (M : mj_M) (c : Nat) : Int32 := if M.1 5 c = -1 then 0 else 1
theorem pl_isCounted {c : Nat} (hc : c < 60) : mj_C0 X d mt_L_isCounted [mv_p 1, mv_i (nI c)] M (mv_R (pd_ct M c) M) := by
  have h1 : mj_in (nI c) 60 := nI_in hc (by decide)
  have h2 : (nI c).toNatClampNeg = c := nI_clamp (by omega)
  iterate 3 refine ev_go rfl ?_
  refine ev_ok h1 rfl ?_
  rw [h2]
  refine ev_go rfl ?_
  refine ev_if rfl (fun h7 => ?_) (fun h7 => ?_)
  · refine ev_go rfl ?_
    refine ev_end rfl ?_
    show some _ = some _
    simp [pd_ct, *]
  · iterate 2 refine ev_go rfl ?_
    refine ev_end rfl ?_
    show some _ = some _
    simp [pd_ct, *]
def pd_dif (M : mj_M) (c : Nat) : Int32 := if M.1 5 c = -1 then 0 else if M.1 5 c = M.1 4 c then 0 else 1
theorem pl_differs {c : Nat} (hc : c < 60) : mj_C0 X d mt_L_differs [mv_p 1, mv_i (nI c)] M (mv_R (pd_dif M c) M) := by
  have h1 : mj_in (nI c) 60 := nI_in hc (by decide)
  have h2 : (nI c).toNatClampNeg = c := nI_clamp (by omega)
  iterate 3 refine ev_go rfl ?_
  refine ev_ok h1 rfl ?_
  rw [h2]
  refine ev_go rfl ?_
  refine ev_if rfl (fun h7 => ?_) (fun h7 => ?_)
  · refine ev_go rfl ?_
    refine ev_end rfl ?_
    show some _ = some _
    simp [pd_dif, *]
  · iterate 3 refine ev_go rfl ?_
    refine ev_ok h1 rfl ?_
    iterate 3 refine ev_go rfl ?_
    refine ev_ok h1 rfl ?_
    rw [h2]
    refine ev_if rfl (fun h22 => ?_) (fun h22 => ?_)
    · refine ev_go rfl ?_
      refine ev_end rfl ?_
      show some _ = some _
      simp [pd_dif, *]
    · iterate 2 refine ev_go rfl ?_
      refine ev_end rfl ?_
      show some _ = some _
      simp [pd_dif, *]
theorem pl_gap {c : Nat} (hc : c < 60) : mj_C0 X d mt_L_gap [mv_p 1, mv_i (nI c)] M (mv_R (M.1 5 c - M.1 4 c) M) := by
  have h1 : mj_in (nI c) 60 := nI_in hc (by decide)
  have h2 : (nI c).toNatClampNeg = c := nI_clamp (by omega)
  iterate 3 refine ev_go rfl ?_
  refine ev_ok h1 rfl ?_
  iterate 3 refine ev_go rfl ?_
  refine ev_ok h1 rfl ?_
  rw [h2]
  refine ev_go rfl ?_
  refine ev_end rfl ?_
  rfl
/-- pieces come to a cell -/
def pm_sh (M : mj_M) (c : Nat) (v : Int32) : mj_M := mj_st (mj_st M 4 c (M.1 4 c + v)) 1 4 (M.1 1 4 + (pd_dif (mj_st M 4 c (M.1 4 c + v)) c - pd_dif M c))
theorem pl_shift {c : Nat} {v : Int32} (hc : c < 60) : mj_C0 X (d + 1) mt_L_shift [mv_p 1, mv_i (nI c), mv_i v] M (mv_V (pm_sh M c v)) := by
  have h1 : mj_in (nI c) 60 := nI_in hc (by decide)
  have h2 : (nI c).toNatClampNeg = c := nI_clamp (by omega)
  iterate 2 refine ev_go rfl ?_
  refine ev_callr rfl rfl rfl (pl_differs hc) ?_
  iterate 5 refine ev_go rfl ?_
  refine ev_ok h1 rfl ?_
  rw [h2]
  iterate 2 refine ev_go rfl ?_
  refine ev_ok h1 rfl ?_
  rw [h2]
  iterate 5 refine ev_go rfl ?_
  refine ev_callr rfl rfl rfl (pl_differs hc) ?_
  iterate 4 refine ev_go rfl ?_
  refine ev_end rfl ?_
  rfl
end
end
section
/-! pure walks: rows of acts -/
abbrev pr_ (a : Nat) : Nat := mj_rw mj_S0 0 a
theorem pr_e (a : Nat) : pr_ a = 30 + a := by
  show 29 + 1 + (0 + a) = 30 + a
  omega
theorem mj_upn {lo : mj_L} {i j : Nat} {a b c e : mj_V} (h : i ≠ j) : mj_up (mj_up (mj_up (mj_up lo i a) j b) i c) j e = mj_up (mj_up lo i c) j e := by
  funext k
  unfold mj_up
  by_cases h1 : k = j
  · simp [h1]
  · by_cases h2 : k = i
    · simp [h2, h]
    · simp [h1, h2]
theorem mj_upo {lo : mj_L} {j : Nat} {b e : mj_V} : mj_up (mj_up lo j b) j e = mj_up lo j e := by
  funext k
  unfold mj_up
  by_cases h1 : k = j
  · simp [h1]
  · simp [h1]
theorem pm_st1 {M : mj_M} {k j k' j' : Nat} {x : Int32} (h : k' ≠ k ∨ j' ≠ j) : (mj_st M k j x).1 k' j' = M.1 k' j' := by
  unfold mj_st upd
  by_cases h1 : k' = k
  · rcases h with h | h
    · exact absurd h1 h
    · simp [h1, h]
  · simp [h1]
theorem pm_st0 {M : mj_M} {k j : Nat} {x : Int32} : (mj_st M k j x).1 k j = x := by simp [mj_st, upd]
theorem pm_st2 {M : mj_M} {k j : Nat} {x : Int32} : (mj_st M k j x).2 = M.2 := rfl
theorem tn_0 : Int32.toNatClampNeg 0 = 0 := rfl
theorem tn_1 : Int32.toNatClampNeg 1 = 1 := rfl
theorem tn_2 : Int32.toNatClampNeg 2 = 2 := rfl
theorem tn_3 : Int32.toNatClampNeg 3 = 3 := rfl
theorem tn_4 : Int32.toNatClampNeg 4 = 4 := rfl
theorem tn_5 : Int32.toNatClampNeg 5 = 5 := rfl
theorem tn_6 : Int32.toNatClampNeg 6 = 6 := rfl
theorem tn_7 : Int32.toNatClampNeg 7 = 7 := rfl
theorem tn_8 : Int32.toNatClampNeg 8 = 8 := rfl
theorem tn_9 : Int32.toNatClampNeg 9 = 9 := rfl
/-- a row that can be used: its cells are cells -/
def pv_row (M : mj_M) (a : Nat) : Prop := ∃ p g, p < 10 ∧ g < 6 ∧ M.1 (pr_ a) 1 = nI p ∧ M.1 (pr_ a) 3 = nI g ∧ (M.1 (pr_ a) 0 = 2 → ∃ t, t < 10 ∧ M.1 (pr_ a) 2 = nI t)
def pd_c1 (M : mj_M) (a : Nat) : Nat := (M.1 (pr_ a) 1 * 6 + M.1 (pr_ a) 3).toNatClampNeg
def pd_c2 (M : mj_M) (a : Nat) : Nat := (M.1 (pr_ a) 2 * 6 + M.1 (pr_ a) 3).toNatClampNeg
theorem pd_cell {p g : Nat} (hp : p < 10) (hg : g < 6) : nI p * 6 + nI g = nI (p * 6 + g) ∧ (nI p * 6 + nI g).toNatClampNeg = p * 6 + g ∧ p * 6 + g < 60 := by
  have e : nI p * 6 + nI g = nI (p * 6 + g) := by
    rw [show (6 : Int32) = nI 6 from rfl, pk_mul, nI_add]
  refine ⟨e, ?_, by omega⟩
  rw [e, nI_clamp (by omega)]
theorem pv_row.c1 {M : mj_M} {a : Nat} (h : pv_row M a) : M.1 (pr_ a) 1 * 6 + M.1 (pr_ a) 3 = nI (pd_c1 M a) ∧ pd_c1 M a < 60 := by
  obtain ⟨p, g, hp, hg, e1, e2, -⟩ := h
  obtain ⟨h1, h2, h3⟩ := pd_cell hp hg
  unfold pd_c1
  rw [e1, e2, h2]
  exact ⟨h1, h3⟩
theorem pv_row.c2 {M : mj_M} {a : Nat} (h : pv_row M a) (hk : M.1 (pr_ a) 0 = 2) : M.1 (pr_ a) 2 * 6 + M.1 (pr_ a) 3 = nI (pd_c2 M a) ∧ pd_c2 M a < 60 := by
  obtain ⟨p, g, hp, hg, e1, e2, e3⟩ := h
  obtain ⟨t, ht, e4⟩ := e3 hk
  obtain ⟨h1, h2, h3⟩ := pd_cell ht hg
  unfold pd_c2
  rw [e4, e2, h2]
  exact ⟨h1, h3⟩
theorem pm_sh_r {M : mj_M} {c a j : Nat} {v : Int32} : (pm_sh M c v).1 (pr_ a) j = M.1 (pr_ a) j := by
  unfold pm_sh
  rw [pm_st1 (Or.inl (by rw [pr_e]; omega)), pm_st1 (Or.inl (by rw [pr_e]; omega))]
section
variable {X : Nat × (Nat → Int32)} {d : Nat} {M : mj_M}
/-- an act's pieces, so many times -/
def pm_ca1 (M : mj_M) (a : Nat) (t : Int32) : mj_M := pm_sh M (pd_c1 M a) (if M.1 (pr_ a) 0 = 0 then M.1 (pr_ a) 4 * t else -(M.1 (pr_ a) 4 * t))
def pm_ca (M : mj_M) (a : Nat) (t : Int32) : mj_M := if M.1 (pr_ a) 0 = 2 then pm_sh (pm_ca1 M a t) (pd_c2 M a) (M.1 (pr_ a) 4 * t) else pm_ca1 M a t
theorem pl_carry {a : Nat} {t : Int32} (ha : a < 24) (hr : pv_row M a) : mj_C0 X (d + 2) mt_L_carry [mv_p 1, mv_i (nI a), mv_i t] M (mv_V (pm_ca M a t)) := by
  have h1 : mj_in (nI a) 24 := nI_in ha (by decide)
  have h2 : (nI a).toNatClampNeg = a := nI_clamp (by omega)
  obtain ⟨e1, l1⟩ := hr.c1
  iterate 3 refine ev_go rfl ?_
  refine ev_ok h1 rfl ?_
  rw [h2]
  iterate 3 refine ev_go rfl ?_
  refine ev_ok ⟨ha, by decide⟩ rfl ?_
  iterate 6 refine ev_go rfl ?_
  refine ev_ok ⟨ha, by decide⟩ rfl ?_
  iterate 2 refine ev_go rfl ?_
  refine ev_ok ⟨ha, by decide⟩ rfl ?_
  refine ev_callr rfl rfl rfl pe_cellOf ?_
  simp only [tn_1, tn_3, tn_4]
  rw [e1]
  iterate 2 refine ev_go rfl ?_
  refine ev_ok ⟨ha, by decide⟩ rfl ?_
  refine ev_if rfl (fun h27 => ?_) (fun h27 => ?_)
  · iterate 2 refine ev_go rfl ?_
    refine ev_callv rfl rfl rfl (pl_shift l1) ?_
    iterate 2 refine ev_go rfl ?_
    refine ev_ok ⟨ha, by decide⟩ rfl ?_
    refine ev_go rfl ?_
    refine ev_if rfl (fun h45 => ?_) (fun h45 => ?_)
    · iterate 3 refine ev_go rfl ?_
      refine ev_ok ⟨ha, by decide⟩ rfl ?_
      iterate 2 refine ev_go rfl ?_
      refine ev_ok ⟨ha, by decide⟩ rfl ?_
      refine ev_callr rfl rfl rfl pe_cellOf ?_
      simp only [tn_2, tn_3, pm_sh_r]
      rw [(hr.c2 (by rw [pm_sh_r] at h45; exact h45)).1]
      refine ev_go rfl ?_
      refine ev_callv rfl rfl rfl (pl_shift (hr.c2 (by rw [pm_sh_r] at h45; exact h45)).2) ?_
      refine ev_end rfl ?_
      have k2 := h45
      rw [pm_sh_r] at k2
      have k0 := h27
      simp only [tn_0] at k0 k2
      first
        | exact absurd (k0.symm.trans k2) (by decide)
        | (show some _ = some _; unfold pm_ca pm_ca1; rw [if_pos k2, if_pos k0])
        | (show some _ = some _; unfold pm_ca pm_ca1; rw [if_pos k2, if_neg k0])
        | (show some _ = some _; unfold pm_ca pm_ca1; rw [if_neg k2, if_pos k0])
        | (show some _ = some _; unfold pm_ca pm_ca1; rw [if_neg k2, if_neg k0])
    · refine ev_end rfl ?_
      have k2 := h45
      rw [pm_sh_r] at k2
      have k0 := h27
      simp only [tn_0] at k0 k2
      first
        | exact absurd (k0.symm.trans k2) (by decide)
        | (show some _ = some _; unfold pm_ca pm_ca1; rw [if_pos k2, if_pos k0])
        | (show some _ = some _; unfold pm_ca pm_ca1; rw [if_pos k2, if_neg k0])
        | (show some _ = some _; unfold pm_ca pm_ca1; rw [if_neg k2, if_pos k0])
        | (show some _ = some _; unfold pm_ca pm_ca1; rw [if_neg k2, if_neg k0])
  · iterate 2 refine ev_go rfl ?_
    refine ev_callv rfl rfl rfl (pl_shift l1) ?_
    iterate 2 refine ev_go rfl ?_
    refine ev_ok ⟨ha, by decide⟩ rfl ?_
    refine ev_go rfl ?_
    refine ev_if rfl (fun h45 => ?_) (fun h45 => ?_)
    · iterate 3 refine ev_go rfl ?_
      refine ev_ok ⟨ha, by decide⟩ rfl ?_
      iterate 2 refine ev_go rfl ?_
      refine ev_ok ⟨ha, by decide⟩ rfl ?_
      refine ev_callr rfl rfl rfl pe_cellOf ?_
      simp only [tn_2, tn_3, pm_sh_r]
      rw [(hr.c2 (by rw [pm_sh_r] at h45; exact h45)).1]
      refine ev_go rfl ?_
      refine ev_callv rfl rfl rfl (pl_shift (hr.c2 (by rw [pm_sh_r] at h45; exact h45)).2) ?_
      refine ev_end rfl ?_
      have k2 := h45
      rw [pm_sh_r] at k2
      have k0 := h27
      simp only [tn_0] at k0 k2
      first
        | exact absurd (k0.symm.trans k2) (by decide)
        | (show some _ = some _; unfold pm_ca pm_ca1; rw [if_pos k2, if_pos k0])
        | (show some _ = some _; unfold pm_ca pm_ca1; rw [if_pos k2, if_neg k0])
        | (show some _ = some _; unfold pm_ca pm_ca1; rw [if_neg k2, if_pos k0])
        | (show some _ = some _; unfold pm_ca pm_ca1; rw [if_neg k2, if_neg k0])
    · refine ev_end rfl ?_
      have k2 := h45
      rw [pm_sh_r] at k2
      have k0 := h27
      simp only [tn_0] at k0 k2
      first
        | exact absurd (k0.symm.trans k2) (by decide)
        | (show some _ = some _; unfold pm_ca pm_ca1; rw [if_pos k2, if_pos k0])
        | (show some _ = some _; unfold pm_ca pm_ca1; rw [if_pos k2, if_neg k0])
        | (show some _ = some _; unfold pm_ca pm_ca1; rw [if_neg k2, if_pos k0])
        | (show some _ = some _; unfold pm_ca pm_ca1; rw [if_neg k2, if_neg k0])
theorem pm_ca_r {a b j : Nat} {t : Int32} : (pm_ca M b t).1 (pr_ a) j = M.1 (pr_ a) j := by
  unfold pm_ca pm_ca1
  split
  · rw [pm_sh_r, pm_sh_r]
  · rw [pm_sh_r]
/-- an act is turned into another state -/
def pm_tu (M : mj_M) (a : Nat) (s : Int32) : mj_M := pm_ca (mj_st M (pr_ a) 6 s) a (pd_td s - pd_td (M.1 (pr_ a) 6))
theorem pv_row.st {a b j : Nat} {x : Int32} (h : pv_row M a) (hj : 6 ≤ j) : pv_row (mj_st M (pr_ b) j x) a := by
  obtain ⟨p, g, hp, hg, e1, e2, e3⟩ := h
  refine ⟨p, g, hp, hg, ?_, ?_, fun h => ?_⟩
  · rw [pm_st1 (Or.inr (by omega))]; exact e1
  · rw [pm_st1 (Or.inr (by omega))]; exact e2
  · rw [pm_st1 (Or.inr (by omega))] at h ⊢
    exact e3 h
theorem pl_turn {a : Nat} {s : Int32} (ha : a < 24) (hr : pv_row M a) : mj_C0 X (d + 3) mt_L_turn [mv_p 1, mv_i (nI a), mv_i s] M (mv_V (pm_tu M a s)) := by
  have h1 : mj_in (nI a) 24 := nI_in ha (by decide)
  have h2 : (nI a).toNatClampNeg = a := nI_clamp (by omega)
  refine ev_go rfl ?_
  refine ev_callr rfl rfl rfl pe_timesDone ?_
  iterate 3 refine ev_go rfl ?_
  refine ev_ok h1 rfl ?_
  rw [h2]
  refine ev_go rfl ?_
  refine ev_ok ⟨ha, by decide⟩ rfl ?_
  refine ev_callr rfl rfl rfl pe_timesDone ?_
  iterate 5 refine ev_go rfl ?_
  refine ev_ok h1 rfl ?_
  rw [h2]
  iterate 2 refine ev_go rfl ?_
  refine ev_ok ⟨ha, by decide⟩ rfl ?_
  iterate 3 refine ev_go rfl ?_
  refine ev_callv rfl rfl rfl (pl_carry ha (hr.st (by decide))) ?_
  refine ev_end rfl ?_
  rfl
theorem pl_lastTime {n : Nat} (hn : M.1 1 3 = nI n) (hl : n ≤ 24) : mj_C0 X d mt_L_lastTime [mv_p 1] M (mv_R (if n = 0 then 0 else M.1 (pr_ (n - 1)) 5) M) := by
  iterate 2 refine ev_go rfl ?_
  refine ev_if rfl (fun h4 => ?_) (fun h4 => ?_)
  · iterate 2 refine ev_go rfl ?_
    refine ev_end rfl ?_
    first
      | (show some _ = some _
         rw [if_neg hz]
         show some (mv_R (M.1 (mj_rw mj_S0 0 (M.1 1 3 - 1).toNatClampNeg) 5) M) = _
         rw [e9, nI_clamp (by omega)])
      | (have hz : n = 0 := by
          rcases Nat.eq_zero_or_pos n with h | h
          · exact h
          · exact absurd (hn ▸ h4) (nI_ne0 h (by omega))
         show some _ = some _; rw [if_pos hz])
  · have hz : n ≠ 0 := fun h => h4 (by rw [hn, h]; rfl)
    have e9 : M.1 1 3 - 1 = nI (n - 1) := by
      rw [hn, show n = (n - 1) + 1 by omega, nI_pred]
      rfl
    have hi : mj_in (M.1 1 3 - 1) 24 := by rw [e9]; exact nI_in (by omega) (by decide)
    have hi2 : (M.1 1 3 - 1).toNatClampNeg < 24 := by rw [e9, nI_clamp (by omega)]; omega
    iterate 6 refine ev_go rfl ?_
    refine ev_ok hi rfl ?_
    refine ev_go rfl ?_
    refine ev_ok ⟨hi2, by decide⟩ rfl ?_
    refine ev_end rfl ?_
    first
      | (show some _ = some _
         rw [if_neg hz]
         show some (mv_R (M.1 (mj_rw mj_S0 0 (M.1 1 3 - 1).toNatClampNeg) 5) M) = _
         rw [e9, nI_clamp (by omega)])
      | (have hz : n = 0 := by
          rcases Nat.eq_zero_or_pos n with h | h
          · exact h
          · exact absurd (hn ▸ h4) (nI_ne0 h (by omega))
         show some _ = some _; rw [if_pos hz])
/-- so many are counted -/
def pm_te (M : mj_M) (c : Nat) (v : Int32) : mj_M := mj_st (mj_st M 5 c v) 1 4 (M.1 1 4 + (pd_dif (mj_st M 5 c v) c - pd_dif M c))
theorem pl_tell {c : Nat} {v : Int32} (hc : c < 60) : mj_C0 X (d + 1) mt_L_tell [mv_p 1, mv_i (nI c), mv_i v] M (mv_V (pm_te M c v)) := by
  have h1 : mj_in (nI c) 60 := nI_in hc (by decide)
  have h2 : (nI c).toNatClampNeg = c := nI_clamp (by omega)
  iterate 2 refine ev_go rfl ?_
  refine ev_callr rfl rfl rfl (pl_differs hc) ?_
  iterate 5 refine ev_go rfl ?_
  refine ev_ok h1 rfl ?_
  rw [h2]
  iterate 5 refine ev_go rfl ?_
  refine ev_callr rfl rfl rfl (pl_differs hc) ?_
  iterate 4 refine ev_go rfl ?_
  refine ev_end rfl ?_
  rfl
end
end
section
/-! the state told by the reference's own cells, and what it says -/
/-- sums -/
def sm (f : Nat → Int32) : Nat → Int32
  | 0 => 0
  | k + 1 => sm f k + f k
theorem sm_congr {f g : Nat → Int32} : ∀ {n : Nat}, (∀ k, k < n → f k = g k) → sm f n = sm g n
  | 0, _ => rfl
  | n + 1, h => by
    show sm f n + f n = sm g n + g n
    rw [sm_congr (fun k hk => h k (by omega)), h n (by omega)]
theorem sm_one {f g : Nat → Int32} {c : Nat} (h : ∀ k, k ≠ c → g k = f k) : ∀ n : Nat, sm g n = if c < n then sm f n + (g c - f c) else sm f n
  | 0 => by simp [sm]
  | n + 1 => by
    show sm g n + g n = if c < n + 1 then sm f n + f n + (g c - f c) else sm f n + f n
    rw [sm_one h n]
    by_cases h1 : c < n
    · rw [if_pos h1, if_pos (by omega), h n (by omega)]
      grind
    · rw [if_neg h1]
      by_cases h2 : c = n
      · subst h2
        rw [if_pos (by omega)]
        grind
      · rw [if_neg (by omega), h n (by omega)]
/-- the cells and slots that hold the state -/
def aq_k (q j : Nat) : Prop := (13 ≤ q ∧ q ≤ 23) ∨ (q = 12 ∧ (j = 1 ∨ j = 10 ∨ j = 11 ∨ j = 13 ∨ j = 14 ∨ j = 15 ∨ j = 17))
def rm_ (A M : mj_M) : Prop := ∀ q j, aq_k q j → M.1 q j = A.1 q j
/-- what the reference leaves alone; what the class leaves alone -/
def fm_ (M M' : mj_M) : Prop := M'.2 = M.2 ∧ ∀ q j, q < 12 ∨ 28 ≤ q → M'.1 q j = M.1 q j
def fc_ (M M' : mj_M) : Prop := ∀ q j, 12 ≤ q → q < 30 → M'.1 q j = M.1 q j
theorem rm_.refl (M : mj_M) : rm_ M M := fun _ _ _ => rfl
theorem rm_.q {A M : mj_M} (h : rm_ A M) {q j : Nat} (h1 : 13 ≤ q) (h2 : q ≤ 23) : M.1 q j = A.1 q j := h q j (Or.inl ⟨h1, h2⟩)
theorem rm_.s {A M : mj_M} (h : rm_ A M) {j : Nat} (h1 : j = 1 ∨ j = 10 ∨ j = 11 ∨ j = 13 ∨ j = 14 ∨ j = 15 ∨ j = 17) : M.1 12 j = A.1 12 j := h 12 j (Or.inr ⟨rfl, h1⟩)
theorem rm_.fc {A M M' : mj_M} (h : rm_ A M) (f : fc_ M M') : rm_ A M' := by
  intro q j hk
  rw [f q j (by unfold aq_k at hk; omega) (by unfold aq_k at hk; omega)]
  exact h q j hk
theorem rm_.st {A M : mj_M} (h : rm_ A M) (q j : Nat) (x : Int32) : rm_ (mj_st A q j x) (mj_st M q j x) := by
  intro q' j' hk
  by_cases h1 : q' = q ∧ j' = j
  · obtain ⟨h1, h2⟩ := h1
    subst h1 h2
    rw [pm_st0, pm_st0]
  · have h2 : q' ≠ q ∨ j' ≠ j := by omega
    rw [pm_st1 h2, pm_st1 h2]
    exact h q' j' hk
theorem rm_.sr {A M : mj_M} (h : rm_ A M) {q j : Nat} {x : Int32} (hk : ¬ aq_k q j) : rm_ A (mj_st M q j x) := by
  intro q' j' hk'
  have h2 : q' ≠ q ∨ j' ≠ j := by
    by_cases h1 : q' = q ∧ j' = j
    · obtain ⟨h1, h2⟩ := h1
      subst h1 h2
      exact absurd hk' hk
    · omega
  rw [pm_st1 h2]
  exact h q' j' hk'
theorem fm_.refl (M : mj_M) : fm_ M M := ⟨rfl, fun _ _ _ => rfl⟩
theorem fm_.trans {M M' M'' : mj_M} (h : fm_ M M') (h' : fm_ M' M'') : fm_ M M'' := ⟨h'.1.trans h.1, fun q j hq => (h'.2 q j hq).trans (h.2 q j hq)⟩
theorem fm_.st {M M' : mj_M} (h : fm_ M M') {q j : Nat} {x : Int32} (h1 : 12 ≤ q) (h2 : q < 28) : fm_ M (mj_st M' q j x) := ⟨h.1, fun q' j' hq => by rw [pm_st1 (Or.inl (by omega))]; exact h.2 q' j' hq⟩
theorem fc_.refl (M : mj_M) : fc_ M M := fun _ _ _ _ => rfl
theorem fc_.trans {M M' M'' : mj_M} (h : fc_ M M') (h' : fc_ M' M'') : fc_ M M'' := fun q j h1 h2 => (h' q j h1 h2).trans (h q j h1 h2)
theorem fc_.st {M M' : mj_M} (h : fc_ M M') {q j : Nat} {x : Int32} (h1 : q < 12 ∨ 30 ≤ q) : fc_ M (mj_st M' q j x) := fun q' j' h2 h3 => by rw [pm_st1 (Or.inl (by omega))]; exact h q' j' h2 h3
/-- the number of acts -/
def aq_n (A : mj_M) : Nat := (A.1 12 1).toNatClampNeg
/-- what an act adds to a cell, how many times -/
def aq_ad (A : mj_M) (a : Nat) (c : Int32) : Int32 := if A.1 13 a = 2 ∧ c = 6 * A.1 15 a + A.1 16 a then A.1 17 a else if c = 6 * A.1 14 a + A.1 16 a then (if A.1 13 a = 0 then A.1 17 a else -A.1 17 a) else 0
def aq_ts (s : Int32) : Int32 := if s = 0 then 1 else if s = 1 then 0 else 2
def aq_tm (A : mj_M) (a : Nat) : Int32 := aq_ts (A.1 19 a)
def aq_ex (A : mj_M) (n : Nat) (c : Nat) : Int32 := sm (fun a => aq_tm A a * aq_ad A a (nI c)) n
/-- what is expected -/
def aq_E (A : mj_M) (c : Nat) : Int32 := aq_ex A (aq_n A) c
/-- a cell's difference where L is expected; 1 where there is one; their number -/
def aq_df (A : mj_M) (L : Nat → Int32) (c : Nat) : Int32 := if A.1 21 c < 0 then 0 else A.1 21 c - L c
def aq_w (A : mj_M) (L : Nat → Int32) (c : Nat) : Int32 := if aq_df A L c = 0 then 0 else 1
def aq_nd (A : mj_M) (L : Nat → Int32) : Int32 := sm (aq_w A L) 60
def aq_c1 (A : mj_M) (a : Nat) : Nat := (6 * A.1 14 a + A.1 16 a).toNatClampNeg
def aq_c2 (A : mj_M) (a : Nat) : Nat := (6 * A.1 15 a + A.1 16 a).toNatClampNeg
/-- 1 for a candidate -/
def aq_ca (A : mj_M) (a : Nat) : Int32 := if A.1 19 a = 0 ∧ A.1 20 a = 0 ∧ ¬ A.1 18 a < A.1 12 10 ∧ A.1 18 a ≤ A.1 12 11 ∧ (¬ A.1 21 (aq_c1 A a) < 0 ∨ A.1 13 a = 2 ∧ ¬ A.1 21 (aq_c2 A a) < 0) then 1 else 0
/-- an act that may stand -/
def vs_rw (A : mj_M) (a : Nat) : Prop := ∃ p g, p < 10 ∧ g < 6 ∧ A.1 14 a = nI p ∧ A.1 16 a = nI g ∧ (A.1 13 a = 2 → ∃ t, t < 10 ∧ t ≠ p ∧ A.1 15 a = nI t) ∧ ¬ A.1 17 a = 0 ∧ ¬ -A.1 17 a = 0 ∧ (A.1 13 a = 0 ∨ A.1 13 a = 1 ∨ A.1 13 a = 2) ∧ 0 ≤ A.1 18 a
/-- a state that may be -/
def vs_A (A : mj_M) : Prop := (A.1 12 1 = nI (aq_n A) ∧ aq_n A ≤ 24) ∧ (∀ a, a < aq_n A → vs_rw A a) ∧ (∀ a, A.1 19 a = 0 ∨ A.1 19 a = 1 ∨ A.1 19 a = 2) ∧ (∀ a, A.1 20 a = 0 ∨ A.1 20 a = 1) ∧ (∀ a, aq_n A ≤ a → A.1 19 a = 0) ∧ (∀ c, -1 ≤ A.1 21 c) ∧ (A.1 12 13 = 0 ∨ A.1 12 13 = 1) ∧ (∃ m, m ≤ 4 ∧ A.1 12 17 = nI m ∧ ∀ i, i < m → ∃ a h, a < aq_n A ∧ h < 2 ∧ A.1 23 i = nI (2 * a + h))
theorem vs_rw.c1 {A : mj_M} {a : Nat} (h : vs_rw A a) : 6 * A.1 14 a + A.1 16 a = nI (aq_c1 A a) ∧ aq_c1 A a < 60 := by
  obtain ⟨p, g, hp, hg, e1, e2, -⟩ := h
  obtain ⟨h1, h2, h3⟩ := pd_cell hp hg
  unfold aq_c1
  rw [e1, e2, Int32.mul_comm, h2]
  exact ⟨h1, h3⟩
theorem vs_rw.c2 {A : mj_M} {a : Nat} (h : vs_rw A a) (hk : A.1 13 a = 2) : 6 * A.1 15 a + A.1 16 a = nI (aq_c2 A a) ∧ aq_c2 A a < 60 ∧ aq_c2 A a ≠ aq_c1 A a := by
  obtain ⟨p, g, hp, hg, e1, e2, e3, -⟩ := h
  obtain ⟨t, ht, hn, e4⟩ := e3 hk
  obtain ⟨h1, h2, h3⟩ := pd_cell ht hg
  obtain ⟨h4, h5, h6⟩ := pd_cell hp hg
  unfold aq_c2 aq_c1
  rw [e4, e1, e2, Int32.mul_comm, Int32.mul_comm 6, h2, h5]
  exact ⟨h1, h3, by omega⟩
section
variable {A M : mj_M}
theorem rm_n (h : rm_ A M) : aq_n M = aq_n A := by unfold aq_n; rw [h.s (by decide)]
theorem rm_ad (h : rm_ A M) (a : Nat) (c : Int32) : aq_ad M a c = aq_ad A a c := by
  unfold aq_ad
  simp only [h.q (show 13 ≤ 13 by decide) (by decide), h.q (show 13 ≤ 14 by decide) (by decide), h.q (show 13 ≤ 15 by decide) (by decide), h.q (show 13 ≤ 16 by decide) (by decide), h.q (show 13 ≤ 17 by decide) (by decide)]
theorem rm_tm (h : rm_ A M) (a : Nat) : aq_tm M a = aq_tm A a := by
  unfold aq_tm
  rw [h.q (by decide) (by decide)]
theorem rm_ex (h : rm_ A M) (n c : Nat) : aq_ex M n c = aq_ex A n c := sm_congr (fun a _ => by simp only [rm_tm h, rm_ad h])
theorem rm_E (h : rm_ A M) : aq_E M = aq_E A := by
  funext c
  unfold aq_E
  rw [rm_n h, rm_ex h]
theorem rm_df (h : rm_ A M) (L : Nat → Int32) (c : Nat) : aq_df M L c = aq_df A L c := by
  unfold aq_df
  rw [h.q (by decide) (by decide)]
theorem rm_w (h : rm_ A M) (L : Nat → Int32) : aq_w M L = aq_w A L := by
  funext c
  unfold aq_w
  rw [rm_df h]
theorem rm_nd (h : rm_ A M) (L : Nat → Int32) : aq_nd M L = aq_nd A L := by
  unfold aq_nd
  rw [rm_w h]
theorem rm_c1 (h : rm_ A M) (a : Nat) : aq_c1 M a = aq_c1 A a := by
  unfold aq_c1
  rw [h.q (show 13 ≤ 14 by decide) (by decide), h.q (show 13 ≤ 16 by decide) (by decide)]
theorem rm_c2 (h : rm_ A M) (a : Nat) : aq_c2 M a = aq_c2 A a := by
  unfold aq_c2
  rw [h.q (show 13 ≤ 15 by decide) (by decide), h.q (show 13 ≤ 16 by decide) (by decide)]
theorem rm_ca (h : rm_ A M) (a : Nat) : aq_ca M a = aq_ca A a := by
  unfold aq_ca
  rw [rm_c1 h, rm_c2 h, h.s (show 10 = 1 ∨ 10 = 10 ∨ 10 = 11 ∨ 10 = 13 ∨ 10 = 14 ∨ 10 = 15 ∨ 10 = 17 by decide), h.s (show 11 = 1 ∨ 11 = 10 ∨ 11 = 11 ∨ 11 = 13 ∨ 11 = 14 ∨ 11 = 15 ∨ 11 = 17 by decide)]
  simp only [h.q (show 13 ≤ 13 by decide) (by decide), h.q (show 13 ≤ 18 by decide) (by decide), h.q (show 13 ≤ 19 by decide) (by decide), h.q (show 13 ≤ 20 by decide) (by decide), h.q (show 13 ≤ 21 by decide) (by decide)]
theorem rm_rw (h : rm_ A M) (a : Nat) : vs_rw M a ↔ vs_rw A a := by
  unfold vs_rw
  simp only [h.q (show 13 ≤ 13 by decide) (by decide), h.q (show 13 ≤ 14 by decide) (by decide), h.q (show 13 ≤ 15 by decide) (by decide), h.q (show 13 ≤ 16 by decide) (by decide), h.q (show 13 ≤ 17 by decide) (by decide), h.q (show 13 ≤ 18 by decide) (by decide)]
theorem rm_vA (h : rm_ A M) : vs_A M ↔ vs_A A := by
  unfold vs_A
  simp only [rm_n h, rm_rw h, h.q (show 13 ≤ 19 by decide) (by decide), h.q (show 13 ≤ 20 by decide) (by decide), h.q (show 13 ≤ 21 by decide) (by decide), h.q (show 13 ≤ 23 by decide) (by decide), h.s (show 1 = 1 ∨ 1 = 10 ∨ 1 = 11 ∨ 1 = 13 ∨ 1 = 14 ∨ 1 = 15 ∨ 1 = 17 by decide), h.s (show 13 = 1 ∨ 13 = 10 ∨ 13 = 11 ∨ 13 = 13 ∨ 13 = 14 ∨ 13 = 15 ∨ 13 = 17 by decide), h.s (show 17 = 1 ∨ 17 = 10 ∨ 17 = 11 ∨ 17 = 13 ∨ 17 = 14 ∨ 17 = 15 ∨ 17 = 17 by decide)]
end
end
section
/-! pure walks: what the reference asks of its state -/
theorem mj_upc {lo : mj_L} {i j : Nat} {a b : mj_V} (h : i ≠ j) : mj_up (mj_up lo i a) j b = mj_up (mj_up lo j b) i a := by
  funext k
  unfold mj_up
  by_cases h1 : k = j
  · have : k ≠ i := by omega
    simp [h1, Ne.symm h]
  · simp [h1]
theorem ev_lo {S : mj_S} {X : Nat × (Nat → Int32)} {P : List mj_T} {d : Nat} {T : mj_T} {pc : Nat} {lo lo' : mj_L} {st : List mj_V} {M : mj_M} {k : Nat} {r : mj_R} (h : lo = lo') (e : mj_Ev S X P d T pc lo' st M k r) : mj_Ev S X P d T pc lo st M k r := h ▸ e
theorem aq_ca01 (A : mj_M) (a : Nat) : aq_ca A a = 0 ∨ aq_ca A a = 1 := by
  unfold aq_ca
  split
  · exact Or.inr rfl
  · exact Or.inl rfl
section
variable {X : Nat × (Nat → Int32)} {d : Nat} {M : mj_M}
def pd_no (v a b : Int32) : Int32 := if v < a then 1 else if v ≤ b then 0 else 1
theorem pm_not {v a b : Int32} : mj_C0 X d mt_M_not [mv_i v, mv_i a, mv_i b] M (mv_R (pd_no v a b) M) := by
  iterate 2 refine ev_go rfl ?_
  refine ev_if rfl (fun h2 => ?_) (fun h2 => ?_)
  · iterate 2 refine ev_go rfl ?_
    refine ev_end rfl ?_
    show some _ = some _
    simp [pd_no, *]
  · iterate 2 refine ev_go rfl ?_
    refine ev_if rfl (fun h7 => ?_) (fun h7 => ?_)
    · refine ev_go rfl ?_
      refine ev_end rfl ?_
      show some _ = some _
      simp [pd_no, *]
    · iterate 2 refine ev_go rfl ?_
      refine ev_end rfl ?_
      show some _ = some _
      simp [pd_no, *]
def pd_na (M : mj_M) (a : Int32) : Int32 := if a < 0 then 1 else if a < M.1 12 1 then 0 else 1
theorem pm_noAct {a : Int32} : mj_C0 X d mt_M_noAct [mv_p 12, mv_i a] M (mv_R (pd_na M a) M) := by
  refine ev_go rfl ?_
  refine ev_if rfl (fun h1 => ?_) (fun h1 => ?_)
  · iterate 2 refine ev_go rfl ?_
    refine ev_end rfl ?_
    show some _ = some _
    simp [pd_na, *]
  · iterate 3 refine ev_go rfl ?_
    refine ev_if rfl (fun h9 => ?_) (fun h9 => ?_)
    · refine ev_go rfl ?_
      refine ev_end rfl ?_
      show some _ = some _
      simp [pd_na, *]
    · iterate 2 refine ev_go rfl ?_
      refine ev_end rfl ?_
      show some _ = some _
      simp [pd_na, *]
theorem pm_times {a : Nat} (ha : a < 24) : mj_C0 X d mt_M_times [mv_p 12, mv_i (nI a)] M (mv_R (aq_tm M a) M) := by
  have h1 : mj_in (nI a) 24 := nI_in ha (by decide)
  have h2 : (nI a).toNatClampNeg = a := nI_clamp (by omega)
  iterate 3 refine ev_go rfl ?_
  refine ev_ok h1 rfl ?_
  rw [h2]
  refine ev_if rfl (fun h6 => ?_) (fun h6 => ?_)
  · iterate 2 refine ev_go rfl ?_
    refine ev_end rfl ?_
    show some _ = some _
    simp [aq_tm, aq_ts, *]
  · iterate 3 refine ev_go rfl ?_
    refine ev_ok h1 rfl ?_
    refine ev_go rfl ?_
    rw [h2]
    refine ev_if rfl (fun h20 => ?_) (fun h20 => ?_)
    · iterate 2 refine ev_go rfl ?_
      refine ev_end rfl ?_
      show some _ = some _
      simp [aq_tm, aq_ts, *]
    · refine ev_go rfl ?_
      refine ev_end rfl ?_
      show some _ = some _
      simp [aq_tm, aq_ts, *]
theorem pm_adds {a : Nat} {c : Int32} (ha : a < 24) : mj_C0 X d mt_M_adds [mv_p 12, mv_i (nI a), mv_i c] M (mv_R (aq_ad M a c) M) := by
  have h1 : mj_in (nI a) 24 := nI_in ha (by decide)
  have h2 : (nI a).toNatClampNeg = a := nI_clamp (by omega)
  iterate 7 refine ev_go rfl ?_
  refine ev_ok h1 rfl ?_
  iterate 4 refine ev_go rfl ?_
  refine ev_ok h1 rfl ?_
  refine ev_go rfl ?_
  rw [h2]
  refine ev_if rfl (fun h19 => ?_) (fun h19 => ?_)
  · iterate 3 refine ev_go rfl ?_
    refine ev_ok h1 rfl ?_
    rw [h2]
    refine ev_if rfl (fun h28 => ?_) (fun h28 => ?_)
    · iterate 3 refine ev_go rfl ?_
      refine ev_ok h1 rfl ?_
      rw [h2]
      iterate 5 refine ev_go rfl ?_
      refine ev_ok h1 rfl ?_
      rw [h2]
      refine ev_go rfl ?_
      refine ev_if rfl (fun h55 => ?_) (fun h55 => ?_)
      · iterate 5 refine ev_go rfl ?_
        refine ev_ok h1 rfl ?_
        iterate 4 refine ev_go rfl ?_
        refine ev_ok h1 rfl ?_
        refine ev_go rfl ?_
        rw [h2]
        refine ev_if rfl (fun h75 => ?_) (fun h75 => ?_)
        · iterate 3 refine ev_go rfl ?_
          refine ev_ok h1 rfl ?_
          rw [h2]
          iterate 2 refine ev_go rfl ?_
          refine ev_end rfl ?_
          show some (mv_R _ M) = some (mv_R _ M)
          unfold aq_ad
          grind
        · refine ev_go rfl ?_
          refine ev_end rfl ?_
          show some (mv_R _ M) = some (mv_R _ M)
          unfold aq_ad
          grind
      · refine ev_go rfl ?_
        refine ev_end rfl ?_
        show some (mv_R _ M) = some (mv_R _ M)
        unfold aq_ad
        grind
    · iterate 3 refine ev_go rfl ?_
      refine ev_ok h1 rfl ?_
      rw [h2]
      iterate 5 refine ev_go rfl ?_
      refine ev_ok h1 rfl ?_
      rw [h2]
      refine ev_go rfl ?_
      refine ev_if rfl (fun h55 => ?_) (fun h55 => ?_)
      · iterate 5 refine ev_go rfl ?_
        refine ev_ok h1 rfl ?_
        iterate 4 refine ev_go rfl ?_
        refine ev_ok h1 rfl ?_
        refine ev_go rfl ?_
        rw [h2]
        refine ev_if rfl (fun h75 => ?_) (fun h75 => ?_)
        · iterate 3 refine ev_go rfl ?_
          refine ev_ok h1 rfl ?_
          rw [h2]
          iterate 2 refine ev_go rfl ?_
          refine ev_end rfl ?_
          show some (mv_R _ M) = some (mv_R _ M)
          unfold aq_ad
          grind
        · refine ev_go rfl ?_
          refine ev_end rfl ?_
          show some (mv_R _ M) = some (mv_R _ M)
          unfold aq_ad
          grind
      · refine ev_go rfl ?_
        refine ev_end rfl ?_
        show some (mv_R _ M) = some (mv_R _ M)
        unfold aq_ad
        grind
  · iterate 3 refine ev_go rfl ?_
    refine ev_ok h1 rfl ?_
    rw [h2]
    refine ev_go rfl ?_
    refine ev_if rfl (fun h55 => ?_) (fun h55 => ?_)
    · iterate 5 refine ev_go rfl ?_
      refine ev_ok h1 rfl ?_
      iterate 4 refine ev_go rfl ?_
      refine ev_ok h1 rfl ?_
      refine ev_go rfl ?_
      rw [h2]
      refine ev_if rfl (fun h75 => ?_) (fun h75 => ?_)
      · iterate 3 refine ev_go rfl ?_
        refine ev_ok h1 rfl ?_
        rw [h2]
        iterate 2 refine ev_go rfl ?_
        refine ev_end rfl ?_
        show some (mv_R _ M) = some (mv_R _ M)
        unfold aq_ad
        grind
      · refine ev_go rfl ?_
        refine ev_end rfl ?_
        show some (mv_R _ M) = some (mv_R _ M)
        unfold aq_ad
        grind
    · refine ev_go rfl ?_
      refine ev_end rfl ?_
      show some (mv_R _ M) = some (mv_R _ M)
      unfold aq_ad
      grind
theorem pm_expectedOf_l {c : Nat} (hn : M.1 12 1 = nI (aq_n M)) (hl : aq_n M ≤ 24) : ∀ j k, k + j = aq_n M → mj_Ev mj_S0 X mj_P (d + 1) mt_M_expectedOf 4 (mj_up (mj_up (fun j => [mv_p 12, mv_i (nI c)][j]?) 2 (mv_i (aq_ex M k c))) 3 (mv_i (nI k))) [] M 0 (mv_R (aq_E M c) M) := by
  intro j
  induction j with
  | zero =>
    intro k hk
    iterate 3 refine ev_go rfl ?_
    refine ev_if rfl (fun h => ?_) (fun h => ?_)
    · refine ev_go rfl ?_
      refine ev_end rfl ?_
      show some _ = some _
      rw [aq_E, ← hk]
      rfl
    · exact absurd (by rw [hn, hk.symm]; exact Int32.le_refl _) h
  | succ j ih =>
    intro k hk
    iterate 3 refine ev_go rfl ?_
    refine ev_if rfl (fun h => ?_) (fun h => ?_)
    · rw [hn] at h
      exact absurd h (nI_ge (by omega) (by omega))
    · iterate 3 refine ev_go rfl ?_
      refine ev_callr rfl rfl rfl (pm_times (by omega)) ?_
      iterate 3 refine ev_go rfl ?_
      refine ev_callr rfl rfl rfl (pm_adds (by omega)) ?_
      iterate 5 refine ev_go rfl ?_
      refine ev_lo ?_ (ih (k + 1) (by omega))
      rw [nI_1]
      exact mj_upn (i := 2) (j := 3) (by decide)
theorem pm_expectedOf {c : Nat} (hn : M.1 12 1 = nI (aq_n M)) (hl : aq_n M ≤ 24) : mj_C0 X (d + 1) mt_M_expectedOf [mv_p 12, mv_i (nI c)] M (mv_R (aq_E M c) M) := by
  iterate 4 refine ev_go rfl ?_
  exact pm_expectedOf_l hn hl (aq_n M) 0 (by omega)
theorem pm_differenceOf {c : Nat} (hc : c < 60) (hn : M.1 12 1 = nI (aq_n M)) (hl : aq_n M ≤ 24) : mj_C0 X (d + 2) mt_M_differenceOf [mv_p 12, mv_i (nI c)] M (mv_R (aq_df M (aq_E M) c) M) := by
  have h1 : mj_in (nI c) 60 := nI_in hc (by decide)
  have h2 : (nI c).toNatClampNeg = c := nI_clamp (by omega)
  iterate 3 refine ev_go rfl ?_
  refine ev_ok h1 rfl ?_
  rw [h2]
  refine ev_if rfl (fun h6 => ?_) (fun h6 => ?_)
  · iterate 3 refine ev_go rfl ?_
    refine ev_ok h1 rfl ?_
    rw [h2]
    iterate 2 refine ev_go rfl ?_
    refine ev_callr rfl rfl rfl (pm_expectedOf hn hl) ?_
    refine ev_go rfl ?_
    refine ev_end rfl ?_
    show some _ = some _
    first
      | (have h7 : ¬ M.1 21 c < 0 := by grind
         simp [aq_df, h7]
         done)
      | (have h7 : M.1 21 c < 0 := by grind
         simp [aq_df, h7])
  · iterate 2 refine ev_go rfl ?_
    refine ev_end rfl ?_
    show some _ = some _
    first
      | (have h7 : ¬ M.1 21 c < 0 := by grind
         simp [aq_df, h7]
         done)
      | (have h7 : M.1 21 c < 0 := by grind
         simp [aq_df, h7])
theorem pm_differences_l {X : Nat × (Nat → Int32)} {d : Nat} {M : mj_M} (hn : M.1 12 1 = nI (aq_n M)) (hl : aq_n M ≤ 24) : ∀ j k, k + j = 60 → mj_Ev mj_S0 X mj_P (d + 3) mt_M_differences 4 (mj_up (mj_up (fun j => [mv_p 12][j]?) 1 (mv_i (sm (aq_w M (aq_E M)) k))) 2 (mv_i (nI k))) [] M 0 (mv_R (aq_nd M (aq_E M)) M) := by
  intro j
  induction j with
  | zero =>
    intro k hk
    iterate 2 refine ev_go rfl ?_
    refine ev_if rfl (fun h7 => ?_) (fun h7 => ?_)
    · refine ev_go rfl ?_
      refine ev_end rfl ?_
      show some _ = some _
      rw [show k = 60 by omega]
      rfl
    · exact absurd (show (60 : Int32) ≤ nI k by rw [show (60 : Int32) = nI 60 from rfl]; exact nI_le (by omega) (by omega)) h7
  | succ j ih =>
    intro k hk
    iterate 2 refine ev_go rfl ?_
    refine ev_if rfl (fun h7 => ?_) (fun h7 => ?_)
    · exact absurd h7 (by rw [show (60 : Int32) = nI 60 from rfl]; exact nI_ge (by omega) (by omega))
    · iterate 3 refine ev_go rfl ?_
      refine ev_callr rfl rfl rfl (pm_differenceOf (by omega) hn hl) ?_
      refine ev_if rfl (fun h16 => ?_) (fun h16 => ?_)
      · iterate 5 refine ev_go rfl ?_
        refine ev_lo ?_ (ih (k + 1) (by omega))
        rw [nI_1]
        refine (mj_upn (i := 1) (j := 2) (by decide)).trans ?_
        show mj_up (mj_up _ 1 (mv_i _)) 2 (mv_i _) = mj_up (mj_up _ 1 (mv_i (sm (aq_w M (aq_E M)) k + aq_w M (aq_E M) k))) 2 (mv_i _)
        unfold aq_w
        first
          | rw [if_pos h16]
          | rw [if_neg h16]
      · iterate 6 refine ev_go rfl ?_
        refine ev_lo ?_ (ih (k + 1) (by omega))
        rw [nI_1]
        refine (mj_upn (i := 1) (j := 2) (by decide)).trans ?_
        show mj_up (mj_up _ 1 (mv_i _)) 2 (mv_i _) = mj_up (mj_up _ 1 (mv_i (sm (aq_w M (aq_E M)) k + aq_w M (aq_E M) k))) 2 (mv_i _)
        unfold aq_w
        first
          | rw [if_pos h16]
          | rw [if_neg h16]
theorem pm_differences (hn : M.1 12 1 = nI (aq_n M)) (hl : aq_n M ≤ 24) : mj_C0 X (d + 3) mt_M_differences [mv_p 12] M (mv_R (aq_nd M (aq_E M)) M) := by
  iterate 4 refine ev_go rfl ?_
  exact pm_differences_l hn hl 60 0 (by omega)
theorem pm_touches {a : Nat} {c : Int32} (ha : a < 24) : mj_C0 X (d + 1) mt_M_touches [mv_p 12, mv_i (nI a), mv_i c] M (mv_R (if aq_ad M a c = 0 then 0 else 1) M) := by
  iterate 3 refine ev_go rfl ?_
  refine ev_callr rfl rfl rfl (pm_adds ha) ?_
  refine ev_if rfl (fun h6 => ?_) (fun h6 => ?_)
  · refine ev_go rfl ?_
    refine ev_end rfl ?_
    show some _ = some _
    simp [h6]
  · iterate 2 refine ev_go rfl ?_
    refine ev_end rfl ?_
    show some _ = some _
    simp [h6]
theorem pm_isCandidate {a : Nat} (ha : a < 24) (hr : vs_rw M a) : mj_C0 X d mt_M_isCandidate [mv_p 12, mv_i (nI a)] M (mv_R (aq_ca M a) M) := by
  have h1 : mj_in (nI a) 24 := nI_in ha (by decide)
  have h2 : (nI a).toNatClampNeg = a := nI_clamp (by omega)
  obtain ⟨e1, l1⟩ := hr.c1
  have i1 : mj_in (nI (aq_c1 M a)) 60 := nI_in l1 (by decide)
  have j1 : (nI (aq_c1 M a)).toNatClampNeg = aq_c1 M a := nI_clamp (by omega)
  iterate 3 refine ev_go rfl ?_
  refine ev_ok h1 rfl ?_
  rw [h2]
  refine ev_if rfl (fun h6 => ?_) (fun h6 => ?_)
  · iterate 3 refine ev_go rfl ?_
    refine ev_ok h1 rfl ?_
    rw [h2]
    refine ev_if rfl (fun h15 => ?_) (fun h15 => ?_)
    · iterate 3 refine ev_go rfl ?_
      refine ev_ok h1 rfl ?_
      iterate 2 refine ev_go rfl ?_
      rw [h2]
      refine ev_if rfl (fun h28 => ?_) (fun h28 => ?_)
      · refine ev_go rfl ?_
        refine ev_end rfl ?_
        show some (mv_R _ M) = some (mv_R _ M)
        unfold aq_ca
        grind
      · iterate 3 refine ev_go rfl ?_
        refine ev_ok h1 rfl ?_
        iterate 2 refine ev_go rfl ?_
        rw [h2]
        refine ev_if rfl (fun h41 => ?_) (fun h41 => ?_)
        · iterate 6 refine ev_go rfl ?_
          refine ev_ok h1 rfl ?_
          iterate 4 refine ev_go rfl ?_
          refine ev_ok h1 rfl ?_
          refine ev_go rfl ?_
          rw [h2]
          show mj_Ev _ _ _ _ _ _ _ [mv_i (6 * M.1 14 a + M.1 16 a), _] _ _ _
          rw [e1]
          refine ev_ok i1 rfl ?_
          rw [j1]
          refine ev_if rfl (fun h67 => ?_) (fun h67 => ?_)
          · iterate 3 refine ev_go rfl ?_
            refine ev_ok h1 rfl ?_
            refine ev_go rfl ?_
            rw [h2]
            refine ev_if rfl (fun h79 => ?_) (fun h79 => ?_)
            · iterate 6 refine ev_go rfl ?_
              refine ev_ok h1 rfl ?_
              iterate 4 refine ev_go rfl ?_
              refine ev_ok h1 rfl ?_
              refine ev_go rfl ?_
              have h79 : M.1 13 a = 2 := h79
              obtain ⟨e2, l2, -⟩ := hr.c2 h79
              have i2 : mj_in (nI (aq_c2 M a)) 60 := nI_in l2 (by decide)
              have j2 : (nI (aq_c2 M a)).toNatClampNeg = aq_c2 M a := nI_clamp (by omega)
              rw [h2]
              show mj_Ev _ _ _ _ _ _ _ [mv_i (6 * M.1 15 a + M.1 16 a), _] _ _ _
              rw [e2]
              refine ev_ok i2 rfl ?_
              rw [j2]
              refine ev_if rfl (fun h103 => ?_) (fun h103 => ?_)
              · refine ev_go rfl ?_
                refine ev_end rfl ?_
                show some (mv_R _ M) = some (mv_R _ M)
                unfold aq_ca
                grind
              · iterate 2 refine ev_go rfl ?_
                refine ev_end rfl ?_
                show some (mv_R _ M) = some (mv_R _ M)
                unfold aq_ca
                grind
            · refine ev_go rfl ?_
              refine ev_end rfl ?_
              show some (mv_R _ M) = some (mv_R _ M)
              unfold aq_ca
              grind
          · refine ev_go rfl ?_
            refine ev_end rfl ?_
            show some (mv_R _ M) = some (mv_R _ M)
            unfold aq_ca
            grind
        · refine ev_go rfl ?_
          refine ev_end rfl ?_
          show some (mv_R _ M) = some (mv_R _ M)
          unfold aq_ca
          grind
    · refine ev_go rfl ?_
      refine ev_end rfl ?_
      show some (mv_R _ M) = some (mv_R _ M)
      unfold aq_ca
      grind
  · refine ev_go rfl ?_
    refine ev_end rfl ?_
    show some (mv_R _ M) = some (mv_R _ M)
    unfold aq_ca
    grind
theorem pm_howMany_l {X : Nat × (Nat → Int32)} {d : Nat} {M : mj_M} (hv : vs_A M) : ∀ j k, k + j = aq_n M → mj_Ev mj_S0 X mj_P (d + 1) mt_M_howMany 4 (mj_up (mj_up (fun j => [mv_p 12][j]?) 1 (mv_i (sm (aq_ca M) k))) 2 (mv_i (nI k))) [] M 0 (mv_R (sm (aq_ca M) (aq_n M)) M) := by
  have hl := hv.1.2
  intro j
  induction j with
  | zero =>
    intro k hk
    iterate 3 refine ev_go rfl ?_
    refine ev_if rfl (fun h9 => ?_) (fun h9 => ?_)
    · refine ev_go rfl ?_
      refine ev_end rfl ?_
      show some _ = some _
      rw [show aq_n M = k by omega]
    · exact absurd (show M.1 12 1 ≤ nI k by rw [hv.1.1]; exact nI_le (by omega) (by omega)) h9
  | succ j ih =>
    intro k hk
    iterate 3 refine ev_go rfl ?_
    refine ev_if rfl (fun h9 => ?_) (fun h9 => ?_)
    · exact absurd h9 (by rw [hv.1.1]; exact nI_ge (by omega) (by omega))
    · iterate 3 refine ev_go rfl ?_
      refine ev_callr rfl rfl rfl (pm_isCandidate (by omega) (hv.2.1 k (by omega))) ?_
      refine ev_if rfl (fun h18 => ?_) (fun h18 => ?_)
      · iterate 5 refine ev_go rfl ?_
        refine ev_lo ?_ (ih (k + 1) (by omega))
        rw [nI_1]
        refine (mj_upn (i := 1) (j := 2) (by decide)).trans ?_
        show mj_up (mj_up _ 1 (mv_i _)) 2 (mv_i _) = mj_up (mj_up _ 1 (mv_i (sm (aq_ca M) k + aq_ca M k))) 2 (mv_i _)
        rcases aq_ca01 M k with h | h
        · first
            | exact absurd h h18
            | rw [h]
        · first
            | (exact absurd (h.symm.trans h18) (by decide))
            | rw [h]
      · iterate 6 refine ev_go rfl ?_
        refine ev_lo ?_ (ih (k + 1) (by omega))
        rw [nI_1]
        refine (mj_upn (i := 1) (j := 2) (by decide)).trans ?_
        show mj_up (mj_up _ 1 (mv_i _)) 2 (mv_i _) = mj_up (mj_up _ 1 (mv_i (sm (aq_ca M) k + aq_ca M k))) 2 (mv_i _)
        rcases aq_ca01 M k with h | h
        · first
            | exact absurd h h18
            | rw [h]
        · first
            | (exact absurd (h.symm.trans h18) (by decide))
            | rw [h]
theorem pm_howMany (hv : vs_A M) : mj_C0 X (d + 1) mt_M_howMany [mv_p 12] M (mv_R (sm (aq_ca M) (aq_n M)) M) := by
  iterate 4 refine ev_go rfl ?_
  exact pm_howMany_l hv (aq_n M) 0 (by omega)
end
end
section
/-! pure walks: what the reference does -/
theorem pd_no0 {v a b : Int32} : pd_no v a b = 0 ↔ (a ≤ v ∧ v ≤ b) := by
  unfold pd_no
  grind
/-- the reference, called in state A, tells c, answers v, and comes to A' -/
def rs_ (X : Nat × (Nat → Int32)) (d : Nat) (T : mj_T) (as : List mj_V) (A : mj_M) (c v : Int32) (A' : mj_M) : Prop := ∀ M, rm_ A M → ∃ M', mj_C0 X d T as M (mv_R v M') ∧ rm_ A' M' ∧ fm_ M M' ∧ M'.1 12 0 = c
section
variable {X : Nat × (Nat → Int32)} {d : Nat} {M A : mj_M}
theorem rs_of {T : mj_T} {as : List mj_V} {c v : Int32} (h : ∀ M, rm_ A M → mj_C0 X d T as M (mv_R v (mj_st M 12 0 c))) : rs_ X d T as A c v A := fun M hr => ⟨_, h M hr, hr.sr (by unfold aq_k; omega), (fm_.refl M).st (by decide) (by decide), pm_st0⟩
theorem aq_n0 {c : Int32} : aq_n (mj_st M 12 0 c) = aq_n M := by unfold aq_n; rw [pm_st1 (by decide)]
theorem rm_0 {c : Int32} : rm_ M (mj_st M 12 0 c) := (rm_.refl M).sr (by unfold aq_k; omega)
theorem na_0 {A : mj_M} (hn : A.1 12 1 = nI (aq_n A)) (hl : aq_n A ≤ 24) {a : Int32} : pd_na A a = 0 ↔ ∃ j, j < aq_n A ∧ a = nI j := by
  unfold pd_na
  rw [hn]
  constructor
  · intro h
    by_cases h1 : a < 0
    · rw [if_pos h1] at h
      exact absurd h (by decide)
    · rw [if_neg h1] at h
      obtain ⟨j, hj, e⟩ := nI_of h1
      subst e
      by_cases h2 : nI j < nI (aq_n A)
      · exact ⟨j, (nI_ltI hj (by omega)).1 h2, rfl⟩
      · rw [if_neg h2] at h
        exact absurd h (by decide)
  · rintro ⟨j, hj, e⟩
    subst e
    rw [if_neg (nI_pos (by omega)), if_pos (nI_lt hj (by omega))]
theorem rm_na (h : rm_ A M) (a : Int32) : pd_na M a = pd_na A a := by
  unfold pd_na
  rw [h.s (by decide)]
theorem pm_window_x {a b : Int32} (h : ¬ (0 ≤ a ∧ a ≤ 10000 ∧ 0 ≤ b ∧ b ≤ 10000 ∧ a ≤ b)) : mj_C0 X (d + 1) mt_M_window [mv_p 12, mv_i a, mv_i b] M (mv_R 0 (mj_st M 12 0 1)) := by
  iterate 4 refine ev_go rfl ?_
  refine ev_callr rfl rfl rfl pm_not ?_
  refine ev_if rfl (fun h9 => ?_) (fun h9 => ?_)
  · iterate 3 refine ev_go rfl ?_
    refine ev_callr rfl rfl rfl pm_not ?_
    refine ev_if rfl (fun h20 => ?_) (fun h20 => ?_)
    · iterate 2 refine ev_go rfl ?_
      refine ev_if rfl (fun h25 => ?_) (fun h25 => ?_)
      · exfalso
        grind [pd_no0]
      · iterate 7 refine ev_go rfl ?_
        refine ev_end rfl ?_
        rfl
    · iterate 7 refine ev_go rfl ?_
      refine ev_end rfl ?_
      rfl
  · iterate 7 refine ev_go rfl ?_
    refine ev_end rfl ?_
    rfl
def ow_ (A : mj_M) (a b : Int32) : mj_M := mj_st (mj_st A 12 10 a) 12 11 b
theorem pm_window {a b : Int32} (h : 0 ≤ a ∧ a ≤ 10000 ∧ 0 ≤ b ∧ b ≤ 10000 ∧ a ≤ b) (hv : vs_A (ow_ (mj_st M 12 0 0) a b)) : mj_C0 X (d + 2) mt_M_window [mv_p 12, mv_i a, mv_i b] M (mv_R (sm (aq_ca (ow_ (mj_st M 12 0 0) a b)) (aq_n (ow_ (mj_st M 12 0 0) a b))) (ow_ (mj_st M 12 0 0) a b)) := by
  iterate 4 refine ev_go rfl ?_
  refine ev_callr rfl rfl rfl pm_not ?_
  refine ev_if rfl (fun h9 => ?_) (fun h9 => ?_)
  · iterate 3 refine ev_go rfl ?_
    refine ev_callr rfl rfl rfl pm_not ?_
    refine ev_if rfl (fun h20 => ?_) (fun h20 => ?_)
    · iterate 2 refine ev_go rfl ?_
      refine ev_if rfl (fun h25 => ?_) (fun h25 => ?_)
      · iterate 12 refine ev_go rfl ?_
        refine ev_callr rfl rfl rfl (pm_howMany hv) ?_
        refine ev_end rfl ?_
        rfl
      · exfalso
        grind [pd_no0]
    · exfalso
      grind [pd_no0]
  · exfalso
    grind [pd_no0]
theorem pm_expected_x {p g : Int32} (h : ¬ (0 ≤ p ∧ p ≤ 9 ∧ 0 ≤ g ∧ g ≤ 5)) : mj_C0 X (d + 1) mt_M_expected [mv_p 12, mv_i p, mv_i g] M (mv_R 0 (mj_st M 12 0 1)) := by
  iterate 4 refine ev_go rfl ?_
  refine ev_callr rfl rfl rfl pm_not ?_
  refine ev_if rfl (fun h8 => ?_) (fun h8 => ?_)
  · iterate 3 refine ev_go rfl ?_
    refine ev_callr rfl rfl rfl pm_not ?_
    refine ev_if rfl (fun h17 => ?_) (fun h17 => ?_)
    · exfalso
      grind [pd_no0]
    · iterate 8 refine ev_go rfl ?_
      refine ev_end rfl ?_
      rfl
  · iterate 8 refine ev_go rfl ?_
    refine ev_end rfl ?_
    rfl
theorem pm_expected {p g : Nat} (hp : p < 10) (hg : g < 6) (hn : M.1 12 1 = nI (aq_n M)) (hl : aq_n M ≤ 24) : mj_C0 X (d + 2) mt_M_expected [mv_p 12, mv_i (nI p), mv_i (nI g)] M (mv_R (aq_E M (p * 6 + g)) (mj_st M 12 0 0)) := by
  have h : 0 ≤ nI p ∧ nI p ≤ 9 ∧ 0 ≤ nI g ∧ nI g ≤ 5 := ⟨nI_pos' (by omega), nI_le (b := 9) (by omega) (by decide), nI_pos' (by omega), nI_le (b := 5) (by omega) (by decide)⟩
  iterate 4 refine ev_go rfl ?_
  refine ev_callr rfl rfl rfl pm_not ?_
  refine ev_if rfl (fun h8 => ?_) (fun h8 => ?_)
  · iterate 3 refine ev_go rfl ?_
    refine ev_callr rfl rfl rfl pm_not ?_
    refine ev_if rfl (fun h17 => ?_) (fun h17 => ?_)
    · iterate 11 refine ev_go rfl ?_
      show mj_Ev _ _ _ _ _ _ _ [mv_i (6 * nI p + nI g), _] _ _ _
      rw [Int32.mul_comm, (pd_cell hp hg).1]
      refine ev_callr rfl rfl rfl (pm_expectedOf (c := p * 6 + g) (by rw [aq_n0]; exact hn) (by rw [aq_n0]; exact hl)) ?_
      refine ev_end rfl ?_
      show some _ = some _
      rw [rm_E rm_0]
    · exfalso
      grind [pd_no0]
  · exfalso
    grind [pd_no0]
theorem pm_counted_x {p g n : Int32} (h : ¬ (0 ≤ p ∧ p ≤ 9 ∧ 0 ≤ g ∧ g ≤ 5 ∧ -1 ≤ n ∧ n ≤ 100000)) : mj_C0 X (d + 1) mt_M_counted [mv_p 12, mv_i p, mv_i g, mv_i n] M (mv_R 0 (mj_st M 12 0 1)) := by
  iterate 4 refine ev_go rfl ?_
  refine ev_callr rfl rfl rfl pm_not ?_
  refine ev_if rfl (fun h8 => ?_) (fun h8 => ?_)
  · iterate 3 refine ev_go rfl ?_
    refine ev_callr rfl rfl rfl pm_not ?_
    refine ev_if rfl (fun h17 => ?_) (fun h17 => ?_)
    · iterate 3 refine ev_go rfl ?_
      refine ev_callr rfl rfl rfl pm_not ?_
      refine ev_if rfl (fun h27 => ?_) (fun h27 => ?_)
      · exfalso
        grind [pd_no0]
      · iterate 7 refine ev_go rfl ?_
        refine ev_end rfl ?_
        rfl
    · iterate 7 refine ev_go rfl ?_
      refine ev_end rfl ?_
      rfl
  · iterate 7 refine ev_go rfl ?_
    refine ev_end rfl ?_
    rfl
def oc_ (A : mj_M) (c : Nat) (n : Int32) : mj_M := mj_st A 21 c n
theorem pm_counted {p g : Nat} {n : Int32} (hp : p < 10) (hg : g < 6) (h0 : -1 ≤ n ∧ n ≤ 100000) (hn : M.1 12 1 = nI (aq_n M)) (hl : aq_n M ≤ 24) : mj_C0 X (d + 4) mt_M_counted [mv_p 12, mv_i (nI p), mv_i (nI g), mv_i n] M (mv_R (aq_nd (oc_ (mj_st M 12 0 0) (p * 6 + g) n) (aq_E (oc_ (mj_st M 12 0 0) (p * 6 + g) n))) (oc_ (mj_st M 12 0 0) (p * 6 + g) n)) := by
  have h : 0 ≤ nI p ∧ nI p ≤ 9 ∧ 0 ≤ nI g ∧ nI g ≤ 5 := ⟨nI_pos' (by omega), nI_le (b := 9) (by omega) (by decide), nI_pos' (by omega), nI_le (b := 5) (by omega) (by decide)⟩
  obtain ⟨e1, e2, e3⟩ := pd_cell hp hg
  iterate 4 refine ev_go rfl ?_
  refine ev_callr rfl rfl rfl pm_not ?_
  refine ev_if rfl (fun h8 => ?_) (fun h8 => ?_)
  · iterate 3 refine ev_go rfl ?_
    refine ev_callr rfl rfl rfl pm_not ?_
    refine ev_if rfl (fun h17 => ?_) (fun h17 => ?_)
    · iterate 3 refine ev_go rfl ?_
      refine ev_callr rfl rfl rfl pm_not ?_
      refine ev_if rfl (fun h27 => ?_) (fun h27 => ?_)
      · iterate 12 refine ev_go rfl ?_
        show mj_Ev _ _ _ _ _ _ _ [mv_i (6 * nI p + nI g), _] _ _ _
        rw [Int32.mul_comm, e1]
        refine ev_go rfl ?_
        refine ev_ok (nI_in e3 (by decide)) rfl ?_
        rw [← e1, e2]
        refine ev_go rfl ?_
        refine ev_callr rfl rfl rfl (pm_differences (M := oc_ (mj_st M 12 0 0) (p * 6 + g) n) hn hl) ?_
        refine ev_end rfl ?_
        rfl
      · exfalso
        grind [pd_no0]
    · exfalso
      grind [pd_no0]
  · exfalso
    grind [pd_no0]
theorem pm_often_x {a : Int32} (h : ¬ pd_na M a = 0) : mj_C0 X (d + 1) mt_M_often [mv_p 12, mv_i a] M (mv_R 0 (mj_st M 12 0 1)) := by
  iterate 3 refine ev_go rfl ?_
  refine ev_callr rfl rfl rfl pm_noAct ?_
  refine ev_if rfl (fun h6 => ?_) (fun h6 => ?_)
  · exact absurd h6 h
  · iterate 8 refine ev_go rfl ?_
    refine ev_end rfl ?_
    rfl
theorem pm_often {a : Nat} (ha : a < 24) (h : pd_na M (nI a) = 0) : mj_C0 X (d + 1) mt_M_often [mv_p 12, mv_i (nI a)] M (mv_R (M.1 22 a) (mj_st M 12 0 0)) := by
  have h1 : mj_in (nI a) 24 := nI_in ha (by decide)
  have h2 : (nI a).toNatClampNeg = a := nI_clamp (by omega)
  iterate 3 refine ev_go rfl ?_
  refine ev_callr rfl rfl rfl pm_noAct ?_
  refine ev_if rfl (fun h6 => ?_) (fun h6 => ?_)
  · iterate 8 refine ev_go rfl ?_
    refine ev_ok h1 rfl ?_
    refine ev_end rfl ?_
    show some _ = some _
    rw [h2]
    rfl
  · exact absurd h h6
theorem pm_found_x {i w : Int32} (h : i < 0 ∨ ¬ i < M.1 12 17) : mj_C0 X (d + 1) mt_M_found [mv_p 12, mv_i i, mv_i w] M (mv_R 0 (mj_st M 12 0 1)) := by
  iterate 2 refine ev_go rfl ?_
  refine ev_if rfl (fun h2 => ?_) (fun h2 => ?_)
  · iterate 7 refine ev_go rfl ?_
    refine ev_end rfl ?_
    rfl
  · iterate 3 refine ev_go rfl ?_
    refine ev_if rfl (fun h10 => ?_) (fun h10 => ?_)
    · exfalso
      grind
    · iterate 7 refine ev_go rfl ?_
      refine ev_end rfl ?_
      rfl
theorem pm_found_y {i w : Int32} (h : ¬ i < 0 ∧ i < M.1 12 17) (h' : ¬ (0 ≤ w ∧ w ≤ 1)) : mj_C0 X (d + 1) mt_M_found [mv_p 12, mv_i i, mv_i w] M (mv_R 0 (mj_st M 12 0 2)) := by
  iterate 2 refine ev_go rfl ?_
  refine ev_if rfl (fun h2 => ?_) (fun h2 => ?_)
  · exfalso
    grind
  · iterate 3 refine ev_go rfl ?_
    refine ev_if rfl (fun h10 => ?_) (fun h10 => ?_)
    · iterate 3 refine ev_go rfl ?_
      refine ev_callr rfl rfl rfl pm_not ?_
      refine ev_if rfl (fun h23 => ?_) (fun h23 => ?_)
      · exfalso
        grind [pd_no0]
      · iterate 7 refine ev_go rfl ?_
        refine ev_end rfl ?_
        rfl
    · exfalso
      grind
theorem pm_found {i : Nat} {w : Int32} (hi : i < 4) (h : nI i < M.1 12 17) (h' : 0 ≤ w ∧ w ≤ 1) : mj_C0 X (d + 1) mt_M_found [mv_p 12, mv_i (nI i), mv_i w] M (mv_R (if w = 0 then M.1 23 i / 2 else M.1 23 i - M.1 23 i / 2 * 2) (mj_st M 12 0 0)) := by
  have h0 : ¬ nI i < 0 := nI_pos (by omega)
  have h1 : mj_in (nI i) 4 := nI_in hi (by decide)
  have e2 : (nI i).toNatClampNeg = i := nI_clamp (by omega)
  iterate 2 refine ev_go rfl ?_
  refine ev_if rfl (fun h2 => ?_) (fun h2 => ?_)
  · exfalso
    grind
  · iterate 3 refine ev_go rfl ?_
    refine ev_if rfl (fun h10 => ?_) (fun h10 => ?_)
    · iterate 3 refine ev_go rfl ?_
      refine ev_callr rfl rfl rfl pm_not ?_
      refine ev_if rfl (fun h23 => ?_) (fun h23 => ?_)
      · iterate 6 refine ev_go rfl ?_
        refine ev_if rfl (fun h44 => ?_) (fun h44 => ?_)
        · iterate 3 refine ev_go rfl ?_
          refine ev_ok h1 rfl ?_
          iterate 3 refine ev_go rfl ?_
          refine ev_end rfl ?_
          show some _ = some _
          rw [e2]
          first
            | rw [if_pos h44]
              rfl
            | rw [if_neg h44]
              rfl
        · iterate 3 refine ev_go rfl ?_
          refine ev_ok h1 rfl ?_
          iterate 2 refine ev_go rfl ?_
          refine ev_end rfl ?_
          show some _ = some _
          rw [e2]
          first
            | rw [if_pos h44]
              rfl
            | rw [if_neg h44]
              rfl
      · exfalso
        grind [pd_no0]
    · exfalso
      grind
theorem pm_back_x {a : Int32} (h : ¬ pd_na M a = 0) : mj_C0 X (d + 1) mt_M_back [mv_p 12, mv_i a] M (mv_R 0 (mj_st M 12 0 1)) := by
  iterate 3 refine ev_go rfl ?_
  refine ev_callr rfl rfl rfl pm_noAct ?_
  refine ev_if rfl (fun h6 => ?_) (fun h6 => ?_)
  · exact absurd h6 h
  · iterate 7 refine ev_go rfl ?_
    refine ev_end rfl ?_
    rfl
theorem pm_back_y {a : Nat} (ha : a < 24) (h : pd_na M (nI a) = 0) (h' : M.1 19 a = 0) : mj_C0 X (d + 1) mt_M_back [mv_p 12, mv_i (nI a)] M (mv_R 0 (mj_st M 12 0 2)) := by
  have h1 : mj_in (nI a) 24 := nI_in ha (by decide)
  have h2 : (nI a).toNatClampNeg = a := nI_clamp (by omega)
  iterate 3 refine ev_go rfl ?_
  refine ev_callr rfl rfl rfl pm_noAct ?_
  refine ev_if rfl (fun h6 => ?_) (fun h6 => ?_)
  · iterate 3 refine ev_go rfl ?_
    refine ev_ok h1 rfl ?_
    rw [h2]
    refine ev_if rfl (fun h19 => ?_) (fun h19 => ?_)
    · iterate 7 refine ev_go rfl ?_
      refine ev_end rfl ?_
      rfl
    · exact absurd h' h19
  · exact absurd h h6
theorem pm_back {a : Nat} (ha : a < 24) (h : pd_na M (nI a) = 0) (h' : ¬ M.1 19 a = 0) (hn : M.1 12 1 = nI (aq_n M)) (hl : aq_n M ≤ 24) : mj_C0 X (d + 4) mt_M_back [mv_p 12, mv_i (nI a)] M (mv_R (aq_nd (mj_st (mj_st M 12 0 0) 19 a 0) (aq_E (mj_st (mj_st M 12 0 0) 19 a 0))) (mj_st (mj_st M 12 0 0) 19 a 0)) := by
  have h1 : mj_in (nI a) 24 := nI_in ha (by decide)
  have h2 : (nI a).toNatClampNeg = a := nI_clamp (by omega)
  iterate 3 refine ev_go rfl ?_
  refine ev_callr rfl rfl rfl pm_noAct ?_
  refine ev_if rfl (fun h6 => ?_) (fun h6 => ?_)
  · iterate 3 refine ev_go rfl ?_
    refine ev_ok h1 rfl ?_
    rw [h2]
    refine ev_if rfl (fun h19 => ?_) (fun h19 => ?_)
    · exact absurd h19 h'
    · iterate 9 refine ev_go rfl ?_
      refine ev_ok h1 rfl ?_
      rw [h2]
      refine ev_go rfl ?_
      refine ev_callr rfl rfl rfl (pm_differences (M := mj_st (mj_st M 12 0 0) 19 a 0) hn hl) ?_
      refine ev_end rfl ?_
      rfl
  · exact absurd h h6
theorem pm_share_x {p q : Int32} (h : ¬ (0 ≤ p ∧ p ≤ 1000000 ∧ 0 ≤ q)) : mj_C0 X d mt_M_share [mv_p 12, mv_i p, mv_i q] M (mv_R 0 (mj_st M 12 0 1)) := by
  iterate 2 refine ev_go rfl ?_
  refine ev_if rfl (fun h2 => ?_) (fun h2 => ?_)
  · iterate 8 refine ev_go rfl ?_
    refine ev_end rfl ?_
    rfl
  · refine ev_go rfl ?_
    refine ev_if rfl (fun h6 => ?_) (fun h6 => ?_)
    · iterate 8 refine ev_go rfl ?_
      refine ev_end rfl ?_
      rfl
    · iterate 2 refine ev_go rfl ?_
      refine ev_if rfl (fun h12 => ?_) (fun h12 => ?_)
      · exfalso
        grind
      · iterate 8 refine ev_go rfl ?_
        refine ev_end rfl ?_
        rfl
theorem pm_share_y {p q : Int32} (h : 0 ≤ p ∧ p ≤ 1000000 ∧ 0 ≤ q) (h' : q = 0) : mj_C0 X d mt_M_share [mv_p 12, mv_i p, mv_i q] M (mv_R 0 (mj_st M 12 0 2)) := by
  iterate 2 refine ev_go rfl ?_
  refine ev_if rfl (fun h2 => ?_) (fun h2 => ?_)
  · exfalso
    grind
  · refine ev_go rfl ?_
    refine ev_if rfl (fun h6 => ?_) (fun h6 => ?_)
    · exfalso
      grind
    · iterate 2 refine ev_go rfl ?_
      refine ev_if rfl (fun h12 => ?_) (fun h12 => ?_)
      · refine ev_go rfl ?_
        refine ev_if rfl (fun h20 => ?_) (fun h20 => ?_)
        · iterate 8 refine ev_go rfl ?_
          refine ev_end rfl ?_
          rfl
        · exact absurd h' h20
      · exfalso
        grind
theorem pm_share {p q : Int32} (h : 0 ≤ p ∧ p ≤ 1000000 ∧ 0 ≤ q) (h' : ¬ q = 0) : mj_C0 X d mt_M_share [mv_p 12, mv_i p, mv_i q] M (mv_R (100 * p / q) (mj_st M 12 0 0)) := by
  iterate 2 refine ev_go rfl ?_
  refine ev_if rfl (fun h2 => ?_) (fun h2 => ?_)
  · exfalso
    grind
  · refine ev_go rfl ?_
    refine ev_if rfl (fun h6 => ?_) (fun h6 => ?_)
    · exfalso
      grind
    · iterate 2 refine ev_go rfl ?_
      refine ev_if rfl (fun h12 => ?_) (fun h12 => ?_)
      · refine ev_go rfl ?_
        refine ev_if rfl (fun h20 => ?_) (fun h20 => ?_)
        · exact absurd h20 h'
        · iterate 9 refine ev_go rfl ?_
          refine ev_ok h' rfl ?_
          refine ev_end rfl ?_
          rfl
      · exfalso
        grind
theorem pm_exact (h : M.1 12 13 = 0 ∨ M.1 12 13 = 1) : mj_C0 X d mt_M_exact [mv_p 12] M (mv_R (M.1 12 13) (mj_st M 12 0 0)) := by
  iterate 5 refine ev_go rfl ?_
  refine ev_end rfl ?_
  exact if_pos h
theorem pm_steps : mj_C0 X d mt_M_steps [mv_p 12] M (mv_R (M.1 12 14) (mj_st M 12 0 0)) := by
  iterate 5 refine ev_go rfl ?_
  refine ev_end rfl ?_
  rfl
theorem pm_ties : mj_C0 X d mt_M_ties [mv_p 12] M (mv_R (M.1 12 15) (mj_st M 12 0 0)) := by
  iterate 5 refine ev_go rfl ?_
  refine ev_end rfl ?_
  rfl
theorem pm_thrown : mj_C0 X d mt_M_thrown [mv_p 12] M (mv_R (M.1 12 0) M) := by
  iterate 2 refine ev_go rfl ?_
  refine ev_end rfl ?_
  rfl
end
end
section
/-! pure walks: what the reference does, with loops -/
/-- an act that may be told -/
def on_ok (A : mj_M) (k p o g n w : Int32) : Prop := 0 ≤ p ∧ p ≤ 9 ∧ (k = 2 → 0 ≤ o ∧ o ≤ 9 ∧ ¬ o = p) ∧ 0 ≤ g ∧ g ≤ 5 ∧ 1 ≤ n ∧ n ≤ 1000 ∧ 0 ≤ w ∧ w ≤ 10000 ∧ (0 < aq_n A → A.1 18 (aq_n A - 1) ≤ w)
def on_st (A : mj_M) (k p o g n w : Int32) : mj_M := mj_st (mj_st (mj_st (mj_st (mj_st (mj_st (mj_st A 13 (aq_n A) k) 14 (aq_n A) p) 15 (aq_n A) o) 16 (aq_n A) g) 17 (aq_n A) n) 18 (aq_n A) w) 12 1 (nI (aq_n A + 1))
section
variable {X : Nat × (Nat → Int32)} {d : Nat} {M A : mj_M}
theorem pm_newAct_x {k p o g n w : Int32} (hn : M.1 12 1 = nI (aq_n M)) (hl : aq_n M ≤ 24) (h : ¬ on_ok M k p o g n w) : mj_C0 X (d + 1) mt_M_newAct [mv_p 12, mv_i k, mv_i p, mv_i o, mv_i g, mv_i n, mv_i w] M (mv_R 0 (mj_st M 12 0 1)) := by
  unfold on_ok at h
  have tail : ∀ (st : List mj_V), st = [] → mj_Ev mj_S0 X mj_P (d + 1) mt_M_newAct 87 (fun j => [mv_p 12, mv_i k, mv_i p, mv_i o, mv_i g, mv_i n, mv_i w][j]?) st M 0 (mv_R 0 (mj_st M 12 0 1)) := by
    intro st hst
    subst hst
    iterate 13 refine ev_go rfl ?_
    refine ev_end rfl ?_
    rfl
  iterate 3 refine ev_go rfl ?_
  refine ev_callr rfl rfl rfl pm_not ?_
  refine ev_if rfl (fun h7 => ?_) (fun h7 => ?_)
  · iterate 2 refine ev_go rfl ?_
    refine ev_if rfl (fun h12 => ?_) (fun h12 => ?_)
    · iterate 3 refine ev_go rfl ?_
      refine ev_callr rfl rfl rfl pm_not ?_
      refine ev_if rfl (fun h22 => ?_) (fun h22 => ?_)
      · iterate 2 refine ev_go rfl ?_
        refine ev_if rfl (fun h27 => ?_) (fun h27 => ?_)
        · exact tail _ rfl
        · iterate 3 refine ev_go rfl ?_
          refine ev_callr rfl rfl rfl pm_not ?_
          refine ev_if rfl (fun h37 => ?_) (fun h37 => ?_)
          · iterate 3 refine ev_go rfl ?_
            refine ev_callr rfl rfl rfl pm_not ?_
            refine ev_if rfl (fun h49 => ?_) (fun h49 => ?_)
            · iterate 3 refine ev_go rfl ?_
              refine ev_callr rfl rfl rfl pm_not ?_
              refine ev_if rfl (fun h61 => ?_) (fun h61 => ?_)
              · iterate 2 refine ev_go rfl ?_
                refine ev_if rfl (fun h68 => ?_) (fun h68 => ?_)
                · exfalso
                  first
                    | grind [pd_no0]
                    | (have z8 : ¬ 0 < aq_n M := by
                        intro z
                        exact absurd h68 (by rw [hn]; exact nI_nle z (by omega))
                       grind [pd_no0])
                · have z9 : 0 < aq_n M := by
                    rcases Nat.eq_zero_or_pos (aq_n M) with z | z
                    · exact absurd (by rw [hn, z]; decide) h68
                    · exact z
                  have e9 : M.1 12 1 - 1 = nI (aq_n M - 1) := by
                    rw [hn, show aq_n M = (aq_n M - 1) + 1 by omega, nI_pred]
                    rfl
                  have i9 : mj_in (M.1 12 1 - 1) 24 := by rw [e9]; exact nI_in (by omega) (by decide)
                  have j9 : (M.1 12 1 - 1).toNatClampNeg = aq_n M - 1 := by rw [e9]; exact nI_clamp (by omega)
                  iterate 7 refine ev_go rfl ?_
                  refine ev_ok i9 rfl ?_
                  show mj_Ev _ _ _ _ _ _ _ [mv_i (M.1 18 (M.1 12 1 - 1).toNatClampNeg), _] _ _ _
                  rw [j9]
                  refine ev_if rfl (fun h84 => ?_) (fun h84 => ?_)
                  · exfalso
                    first
                      | grind [pd_no0]
                      | (have z8 : ¬ 0 < aq_n M := by
                          intro z
                          exact absurd h68 (by rw [hn]; exact nI_nle z (by omega))
                         grind [pd_no0])
                  · exact tail _ rfl
              · exact tail _ rfl
            · exact tail _ rfl
          · exact tail _ rfl
      · exact tail _ rfl
    · iterate 3 refine ev_go rfl ?_
      refine ev_callr rfl rfl rfl pm_not ?_
      refine ev_if rfl (fun h37 => ?_) (fun h37 => ?_)
      · iterate 3 refine ev_go rfl ?_
        refine ev_callr rfl rfl rfl pm_not ?_
        refine ev_if rfl (fun h49 => ?_) (fun h49 => ?_)
        · iterate 3 refine ev_go rfl ?_
          refine ev_callr rfl rfl rfl pm_not ?_
          refine ev_if rfl (fun h61 => ?_) (fun h61 => ?_)
          · iterate 2 refine ev_go rfl ?_
            refine ev_if rfl (fun h68 => ?_) (fun h68 => ?_)
            · exfalso
              first
                | grind [pd_no0]
                | (have z8 : ¬ 0 < aq_n M := by
                    intro z
                    exact absurd h68 (by rw [hn]; exact nI_nle z (by omega))
                   grind [pd_no0])
            · have z9 : 0 < aq_n M := by
                rcases Nat.eq_zero_or_pos (aq_n M) with z | z
                · exact absurd (by rw [hn, z]; decide) h68
                · exact z
              have e9 : M.1 12 1 - 1 = nI (aq_n M - 1) := by
                rw [hn, show aq_n M = (aq_n M - 1) + 1 by omega, nI_pred]
                rfl
              have i9 : mj_in (M.1 12 1 - 1) 24 := by rw [e9]; exact nI_in (by omega) (by decide)
              have j9 : (M.1 12 1 - 1).toNatClampNeg = aq_n M - 1 := by rw [e9]; exact nI_clamp (by omega)
              iterate 7 refine ev_go rfl ?_
              refine ev_ok i9 rfl ?_
              show mj_Ev _ _ _ _ _ _ _ [mv_i (M.1 18 (M.1 12 1 - 1).toNatClampNeg), _] _ _ _
              rw [j9]
              refine ev_if rfl (fun h84 => ?_) (fun h84 => ?_)
              · exfalso
                first
                  | grind [pd_no0]
                  | (have z8 : ¬ 0 < aq_n M := by
                      intro z
                      exact absurd h68 (by rw [hn]; exact nI_nle z (by omega))
                     grind [pd_no0])
              · exact tail _ rfl
          · exact tail _ rfl
        · exact tail _ rfl
      · exact tail _ rfl
  · exact tail _ rfl
theorem pm_newAct_y {k p o g n w : Int32} (hn : M.1 12 1 = nI (aq_n M)) (hl : aq_n M = 24) (h : on_ok M k p o g n w) : mj_C0 X (d + 1) mt_M_newAct [mv_p 12, mv_i k, mv_i p, mv_i o, mv_i g, mv_i n, mv_i w] M (mv_R 0 (mj_st M 12 0 2)) := by
  unfold on_ok at h
  have tail : ∀ (st : List mj_V), st = [] → mj_Ev mj_S0 X mj_P (d + 1) mt_M_newAct 91 (fun j => [mv_p 12, mv_i k, mv_i p, mv_i o, mv_i g, mv_i n, mv_i w][j]?) st M 0 (mv_R 0 (mj_st M 12 0 2)) := by
    intro st hst
    subst hst
    iterate 8 refine ev_go rfl ?_
    refine ev_if rfl (fun h110 => ?_) (fun h110 => ?_)
    · iterate 7 refine ev_go rfl ?_
      refine ev_end rfl ?_
      rfl
    · exact absurd (by rw [hn, hl]; rfl) h110
  iterate 3 refine ev_go rfl ?_
  refine ev_callr rfl rfl rfl pm_not ?_
  refine ev_if rfl (fun h7 => ?_) (fun h7 => ?_)
  · iterate 2 refine ev_go rfl ?_
    refine ev_if rfl (fun h12 => ?_) (fun h12 => ?_)
    · iterate 3 refine ev_go rfl ?_
      refine ev_callr rfl rfl rfl pm_not ?_
      refine ev_if rfl (fun h22 => ?_) (fun h22 => ?_)
      · iterate 2 refine ev_go rfl ?_
        refine ev_if rfl (fun h27 => ?_) (fun h27 => ?_)
        · exfalso
          grind [pd_no0]
        · iterate 3 refine ev_go rfl ?_
          refine ev_callr rfl rfl rfl pm_not ?_
          refine ev_if rfl (fun h37 => ?_) (fun h37 => ?_)
          · iterate 3 refine ev_go rfl ?_
            refine ev_callr rfl rfl rfl pm_not ?_
            refine ev_if rfl (fun h49 => ?_) (fun h49 => ?_)
            · iterate 3 refine ev_go rfl ?_
              refine ev_callr rfl rfl rfl pm_not ?_
              refine ev_if rfl (fun h61 => ?_) (fun h61 => ?_)
              · iterate 2 refine ev_go rfl ?_
                refine ev_if rfl (fun h68 => ?_) (fun h68 => ?_)
                · exact tail _ rfl
                · have z9 : 0 < aq_n M := by
                    rcases Nat.eq_zero_or_pos (aq_n M) with z | z
                    · exact absurd (by rw [hn, z]; decide) h68
                    · exact z
                  have e9 : M.1 12 1 - 1 = nI (aq_n M - 1) := by
                    rw [hn, show aq_n M = (aq_n M - 1) + 1 by omega, nI_pred]
                    rfl
                  have i9 : mj_in (M.1 12 1 - 1) 24 := by rw [e9]; exact nI_in (by omega) (by decide)
                  have j9 : (M.1 12 1 - 1).toNatClampNeg = aq_n M - 1 := by rw [e9]; exact nI_clamp (by omega)
                  iterate 7 refine ev_go rfl ?_
                  refine ev_ok i9 rfl ?_
                  show mj_Ev _ _ _ _ _ _ _ [mv_i (M.1 18 (M.1 12 1 - 1).toNatClampNeg), _] _ _ _
                  rw [j9]
                  refine ev_if rfl (fun h84 => ?_) (fun h84 => ?_)
                  · exact tail _ rfl
                  · exfalso
                    grind [pd_no0]
              · exfalso
                grind [pd_no0]
            · exfalso
              grind [pd_no0]
          · exfalso
            grind [pd_no0]
      · exfalso
        grind [pd_no0]
    · iterate 3 refine ev_go rfl ?_
      refine ev_callr rfl rfl rfl pm_not ?_
      refine ev_if rfl (fun h37 => ?_) (fun h37 => ?_)
      · iterate 3 refine ev_go rfl ?_
        refine ev_callr rfl rfl rfl pm_not ?_
        refine ev_if rfl (fun h49 => ?_) (fun h49 => ?_)
        · iterate 3 refine ev_go rfl ?_
          refine ev_callr rfl rfl rfl pm_not ?_
          refine ev_if rfl (fun h61 => ?_) (fun h61 => ?_)
          · iterate 2 refine ev_go rfl ?_
            refine ev_if rfl (fun h68 => ?_) (fun h68 => ?_)
            · exact tail _ rfl
            · have z9 : 0 < aq_n M := by
                rcases Nat.eq_zero_or_pos (aq_n M) with z | z
                · exact absurd (by rw [hn, z]; decide) h68
                · exact z
              have e9 : M.1 12 1 - 1 = nI (aq_n M - 1) := by
                rw [hn, show aq_n M = (aq_n M - 1) + 1 by omega, nI_pred]
                rfl
              have i9 : mj_in (M.1 12 1 - 1) 24 := by rw [e9]; exact nI_in (by omega) (by decide)
              have j9 : (M.1 12 1 - 1).toNatClampNeg = aq_n M - 1 := by rw [e9]; exact nI_clamp (by omega)
              iterate 7 refine ev_go rfl ?_
              refine ev_ok i9 rfl ?_
              show mj_Ev _ _ _ _ _ _ _ [mv_i (M.1 18 (M.1 12 1 - 1).toNatClampNeg), _] _ _ _
              rw [j9]
              refine ev_if rfl (fun h84 => ?_) (fun h84 => ?_)
              · exact tail _ rfl
              · exfalso
                grind [pd_no0]
          · exfalso
            grind [pd_no0]
        · exfalso
          grind [pd_no0]
      · exfalso
        grind [pd_no0]
  · exfalso
    grind [pd_no0]
theorem pm_newAct {k p o g n w : Int32} (hn : M.1 12 1 = nI (aq_n M)) (hl : aq_n M < 24) (h : on_ok M k p o g n w) : mj_C0 X (d + 1) mt_M_newAct [mv_p 12, mv_i k, mv_i p, mv_i o, mv_i g, mv_i n, mv_i w] M (mv_R (nI (aq_n M)) (on_st (mj_st M 12 0 0) k p o g n w)) := by
  unfold on_ok at h
  have i1 : mj_in (M.1 12 1) 24 := by rw [hn]; exact nI_in (by omega) (by decide)
  have tail : ∀ (st : List mj_V), st = [] → mj_Ev mj_S0 X mj_P (d + 1) mt_M_newAct 91 (fun j => [mv_p 12, mv_i k, mv_i p, mv_i o, mv_i g, mv_i n, mv_i w][j]?) st M 0 (mv_R (nI (aq_n M)) (on_st (mj_st M 12 0 0) k p o g n w)) := by
    intro st hst
    subst hst
    iterate 8 refine ev_go rfl ?_
    refine ev_if rfl (fun h110 => ?_) (fun h110 => ?_)
    · exact absurd (hn.symm.trans h110) (by rw [show (24 : Int32) = nI 24 from rfl, nI_eq (by omega) (by decide)]; omega)
    · iterate 10 refine ev_go rfl ?_
      refine ev_ok i1 rfl ?_
      iterate 5 refine ev_go rfl ?_
      refine ev_ok i1 rfl ?_
      iterate 5 refine ev_go rfl ?_
      refine ev_ok i1 rfl ?_
      iterate 5 refine ev_go rfl ?_
      refine ev_ok i1 rfl ?_
      iterate 5 refine ev_go rfl ?_
      refine ev_ok i1 rfl ?_
      iterate 5 refine ev_go rfl ?_
      refine ev_ok i1 rfl ?_
      iterate 10 refine ev_go rfl ?_
      refine ev_end rfl ?_
      show some (mv_R (M.1 12 1 + 1 - 1) (mj_st (mj_st (mj_st (mj_st (mj_st (mj_st (mj_st (mj_st M 12 0 0) 13 (aq_n M) k) 14 (aq_n M) p) 15 (aq_n M) o) 16 (aq_n M) g) 17 (aq_n M) n) 18 (aq_n M) w) 12 1 (M.1 12 1 + 1))) = _
      unfold on_st
      rw [aq_n0, hn, nI_1, nI_pred]
  iterate 3 refine ev_go rfl ?_
  refine ev_callr rfl rfl rfl pm_not ?_
  refine ev_if rfl (fun h7 => ?_) (fun h7 => ?_)
  · iterate 2 refine ev_go rfl ?_
    refine ev_if rfl (fun h12 => ?_) (fun h12 => ?_)
    · iterate 3 refine ev_go rfl ?_
      refine ev_callr rfl rfl rfl pm_not ?_
      refine ev_if rfl (fun h22 => ?_) (fun h22 => ?_)
      · iterate 2 refine ev_go rfl ?_
        refine ev_if rfl (fun h27 => ?_) (fun h27 => ?_)
        · exfalso
          grind [pd_no0]
        · iterate 3 refine ev_go rfl ?_
          refine ev_callr rfl rfl rfl pm_not ?_
          refine ev_if rfl (fun h37 => ?_) (fun h37 => ?_)
          · iterate 3 refine ev_go rfl ?_
            refine ev_callr rfl rfl rfl pm_not ?_
            refine ev_if rfl (fun h49 => ?_) (fun h49 => ?_)
            · iterate 3 refine ev_go rfl ?_
              refine ev_callr rfl rfl rfl pm_not ?_
              refine ev_if rfl (fun h61 => ?_) (fun h61 => ?_)
              · iterate 2 refine ev_go rfl ?_
                refine ev_if rfl (fun h68 => ?_) (fun h68 => ?_)
                · exact tail _ rfl
                · have z9 : 0 < aq_n M := by
                    rcases Nat.eq_zero_or_pos (aq_n M) with z | z
                    · exact absurd (by rw [hn, z]; decide) h68
                    · exact z
                  have e9 : M.1 12 1 - 1 = nI (aq_n M - 1) := by
                    rw [hn, show aq_n M = (aq_n M - 1) + 1 by omega, nI_pred]
                    rfl
                  have i9 : mj_in (M.1 12 1 - 1) 24 := by rw [e9]; exact nI_in (by omega) (by decide)
                  have j9 : (M.1 12 1 - 1).toNatClampNeg = aq_n M - 1 := by rw [e9]; exact nI_clamp (by omega)
                  iterate 7 refine ev_go rfl ?_
                  refine ev_ok i9 rfl ?_
                  show mj_Ev _ _ _ _ _ _ _ [mv_i (M.1 18 (M.1 12 1 - 1).toNatClampNeg), _] _ _ _
                  rw [j9]
                  refine ev_if rfl (fun h84 => ?_) (fun h84 => ?_)
                  · exact tail _ rfl
                  · exfalso
                    grind [pd_no0]
              · exfalso
                grind [pd_no0]
            · exfalso
              grind [pd_no0]
          · exfalso
            grind [pd_no0]
      · exfalso
        grind [pd_no0]
    · iterate 3 refine ev_go rfl ?_
      refine ev_callr rfl rfl rfl pm_not ?_
      refine ev_if rfl (fun h37 => ?_) (fun h37 => ?_)
      · iterate 3 refine ev_go rfl ?_
        refine ev_callr rfl rfl rfl pm_not ?_
        refine ev_if rfl (fun h49 => ?_) (fun h49 => ?_)
        · iterate 3 refine ev_go rfl ?_
          refine ev_callr rfl rfl rfl pm_not ?_
          refine ev_if rfl (fun h61 => ?_) (fun h61 => ?_)
          · iterate 2 refine ev_go rfl ?_
            refine ev_if rfl (fun h68 => ?_) (fun h68 => ?_)
            · exact tail _ rfl
            · have z9 : 0 < aq_n M := by
                rcases Nat.eq_zero_or_pos (aq_n M) with z | z
                · exact absurd (by rw [hn, z]; decide) h68
                · exact z
              have e9 : M.1 12 1 - 1 = nI (aq_n M - 1) := by
                rw [hn, show aq_n M = (aq_n M - 1) + 1 by omega, nI_pred]
                rfl
              have i9 : mj_in (M.1 12 1 - 1) 24 := by rw [e9]; exact nI_in (by omega) (by decide)
              have j9 : (M.1 12 1 - 1).toNatClampNeg = aq_n M - 1 := by rw [e9]; exact nI_clamp (by omega)
              iterate 7 refine ev_go rfl ?_
              refine ev_ok i9 rfl ?_
              show mj_Ev _ _ _ _ _ _ _ [mv_i (M.1 18 (M.1 12 1 - 1).toNatClampNeg), _] _ _ _
              rw [j9]
              refine ev_if rfl (fun h84 => ?_) (fun h84 => ?_)
              · exact tail _ rfl
              · exfalso
                grind [pd_no0]
          · exfalso
            grind [pd_no0]
        · exfalso
          grind [pd_no0]
      · exfalso
        grind [pd_no0]
  · exfalso
    grind [pd_no0]
end
end
section
/-! pure walks: more of what the reference does -/
/-- how many of the first are not 0 -/
def ct (f : Nat → Int32) : Nat → Nat
  | 0 => 0
  | k + 1 => ct f k + (if f k = 0 then 0 else 1)
theorem ct_le (f : Nat → Int32) : ∀ k, ct f k ≤ k
  | 0 => Nat.le_refl _
  | k + 1 => by
    have := ct_le f k
    show ct f k + (if f k = 0 then 0 else 1) ≤ k + 1
    split <;> omega
theorem ct_mono (f : Nat → Int32) {k n : Nat} (h : k ≤ n) : ct f k ≤ ct f n := by
  induction h with
  | refl => exact Nat.le_refl _
  | step _ ih => exact Nat.le_trans ih (Nat.le_add_right _ _)
theorem ct_sm {f g : Nat → Int32} (h : ∀ k, g k = if f k = 0 then 0 else 1) : ∀ k, sm g k = nI (ct f k)
  | 0 => rfl
  | k + 1 => by
    show sm g k + g k = nI (ct f k + (if f k = 0 then 0 else 1))
    rw [ct_sm h k, h k]
    by_cases h1 : f k = 0
    · rw [if_pos h1, if_pos h1]
      exact Int32.add_zero _
    · rw [if_neg h1, if_neg h1, nI_1]
theorem ct_at {f : Nat → Int32} {i : Nat} : ∀ {n : Nat}, i < ct f n → ∃ c, c < n ∧ ct f c = i ∧ ¬ f c = 0
  | 0, h => absurd h (Nat.not_lt_zero _)
  | n + 1, h => by
    by_cases h1 : i < ct f n
    · obtain ⟨c, h2, h3⟩ := ct_at h1
      exact ⟨c, by omega, h3⟩
    · have h2 : i < ct f n + (if f n = 0 then 0 else 1) := h
      by_cases h3 : f n = 0
      · rw [if_pos h3] at h2
        omega
      · rw [if_neg h3] at h2
        exact ⟨n, by omega, by omega, h3⟩
theorem aq_wct (A : mj_M) (L : Nat → Int32) (k : Nat) : sm (aq_w A L) k = nI (ct (aq_df A L) k) := ct_sm (fun _ => rfl) k
theorem pk_m1le {a b : Nat} (ha : a < 2 ^ 31) (hb : b < 2 ^ 31) : nI a ≤ nI b - 1 ↔ a < b := by
  cases b with
  | zero =>
    have h1 := nI_pos' ha
    have h2 : ¬ nI a ≤ nI 0 - 1 := by
      rw [nI_0]
      grind
    exact ⟨fun h => absurd h h2, fun h => absurd h (Nat.not_lt_zero _)⟩
  | succ b =>
    rw [nI_pred, nI_leI ha (by omega)]
    omega
def aq_sh (A : mj_M) (k : Nat) : Int32 := if A.1 20 k = 0 then 0 else 1
theorem pm_stt {M : mj_M} {q j : Nat} {x y : Int32} : mj_st (mj_st M q j x) q j y = mj_st M q j y := by
  unfold mj_st
  refine Prod.ext ?_ rfl
  funext a
  by_cases h : a = q
  · subst h
    funext z
    by_cases h2 : z = j
    · simp [upd, h2]
    · simp [upd, h2]
  · simp [h]
section
variable {X : Nat × (Nat → Int32)} {d : Nat} {M A : mj_M}
theorem pm_closed_l {X : Nat × (Nat → Int32)} {d : Nat} {M : mj_M} {x y : mj_V} (hn : M.1 12 1 = nI (aq_n M)) (hl : aq_n M ≤ 24) : ∀ j k, k + j = aq_n M → mj_Ev mj_S0 X mj_P (d) mt_M_closed 38 (mj_up (mj_up (fun j => [mv_p 12, x, y][j]?) 3 (mv_i (sm (aq_sh M) k))) 4 (mv_i (nI k))) [] M 0 (mv_R (sm (aq_sh M) (aq_n M)) M) := by
  intro j
  induction j with
  | zero =>
    intro k hk
    iterate 3 refine ev_go rfl ?_
    refine ev_if rfl (fun h44 => ?_) (fun h44 => ?_)
    · refine ev_go rfl ?_
      refine ev_end rfl ?_
      show some _ = some _
      rw [show aq_n M = k by omega]
    · exact absurd (show M.1 12 1 ≤ nI k by rw [hn]; exact nI_le (by omega) (by omega)) h44
  | succ j ih =>
    intro k hk
    iterate 3 refine ev_go rfl ?_
    refine ev_if rfl (fun h44 => ?_) (fun h44 => ?_)
    · exact absurd h44 (by rw [hn]; exact nI_ge (by omega) (by omega))
    · iterate 4 refine ev_go rfl ?_
      refine ev_ok (nI_in (by omega) (by decide)) rfl ?_
      rw [nI_clamp (by omega)]
      refine ev_if rfl (fun h55 => ?_) (fun h55 => ?_)
      · iterate 5 refine ev_go rfl ?_
        refine ev_lo ?_ (ih (k + 1) (by omega))
        rw [nI_1]
        refine (mj_upn (i := 3) (j := 4) (by decide)).trans ?_
        show mj_up (mj_up _ 3 (mv_i _)) 4 (mv_i _) = mj_up (mj_up _ 3 (mv_i (sm (aq_sh M) k + aq_sh M k))) 4 (mv_i _)
        unfold aq_sh
        first
          | rw [if_pos h55]
          | rw [if_neg h55]
      · iterate 6 refine ev_go rfl ?_
        refine ev_lo ?_ (ih (k + 1) (by omega))
        rw [nI_1]
        refine (mj_upn (i := 3) (j := 4) (by decide)).trans ?_
        show mj_up (mj_up _ 3 (mv_i _)) 4 (mv_i _) = mj_up (mj_up _ 3 (mv_i (sm (aq_sh M) k + aq_sh M k))) 4 (mv_i _)
        unfold aq_sh
        first
          | rw [if_pos h55]
          | rw [if_neg h55]
theorem pm_closed_x {a b : Int32} (h : ¬ pd_na M a = 0) : mj_C0 X (d + 1) mt_M_closed [mv_p 12, mv_i a, mv_i b] M (mv_R 0 (mj_st M 12 0 1)) := by
  iterate 3 refine ev_go rfl ?_
  refine ev_callr rfl rfl rfl pm_noAct ?_
  refine ev_if rfl (fun h6 => ?_) (fun h6 => ?_)
  · exact absurd h6 h
  · iterate 7 refine ev_go rfl ?_
    refine ev_end rfl ?_
    rfl
theorem pm_closed {a : Nat} {b : Int32} (ha : a < 24) (h : pd_na M (nI a) = 0) (hb : b = 0 ∨ b = 1) (hn : M.1 12 1 = nI (aq_n M)) (hl : aq_n M ≤ 24) : mj_C0 X (d + 1) mt_M_closed [mv_p 12, mv_i (nI a), mv_i b] M (mv_R (sm (aq_sh (mj_st (mj_st M 12 0 0) 20 a b)) (aq_n M)) (mj_st (mj_st M 12 0 0) 20 a b)) := by
  have h1 : mj_in (nI a) 24 := nI_in ha (by decide)
  have h2 : (nI a).toNatClampNeg = a := nI_clamp (by omega)
  iterate 3 refine ev_go rfl ?_
  refine ev_callr rfl rfl rfl pm_noAct ?_
  refine ev_if rfl (fun h6 => ?_) (fun h6 => ?_)
  · iterate 9 refine ev_go rfl ?_
    refine ev_ok ⟨h1, hb⟩ rfl ?_
    rw [h2]
    iterate 4 refine ev_go rfl ?_
    exact pm_closed_l (M := mj_st (mj_st M 12 0 0) 20 a b) hn hl (aq_n M) 0 (by show 0 + aq_n M = aq_n M; omega)
  · exact absurd h h6
theorem pm_differ_x {i w : Int32} (hn : M.1 12 1 = nI (aq_n M)) (hl : aq_n M ≤ 24) (h : i < 0 ∨ ¬ i < aq_nd M (aq_E M)) : mj_C0 X (d + 4) mt_M_differ [mv_p 12, mv_i i, mv_i w] M (mv_R 0 (mj_st M 12 0 1)) := by
  iterate 2 refine ev_go rfl ?_
  refine ev_if rfl (fun h2 => ?_) (fun h2 => ?_)
  · iterate 7 refine ev_go rfl ?_
    refine ev_end rfl ?_
    rfl
  · iterate 2 refine ev_go rfl ?_
    refine ev_callr rfl rfl rfl (pm_differences hn hl) ?_
    refine ev_if rfl (fun h10 => ?_) (fun h10 => ?_)
    · exfalso
      grind
    · iterate 7 refine ev_go rfl ?_
      refine ev_end rfl ?_
      rfl
theorem pm_differ_y {i w : Int32} (hn : M.1 12 1 = nI (aq_n M)) (hl : aq_n M ≤ 24) (h : ¬ i < 0 ∧ i < aq_nd M (aq_E M)) (h' : ¬ (0 ≤ w ∧ w ≤ 2)) : mj_C0 X (d + 4) mt_M_differ [mv_p 12, mv_i i, mv_i w] M (mv_R 0 (mj_st M 12 0 2)) := by
  iterate 2 refine ev_go rfl ?_
  refine ev_if rfl (fun h2 => ?_) (fun h2 => ?_)
  · exfalso
    grind
  · iterate 2 refine ev_go rfl ?_
    refine ev_callr rfl rfl rfl (pm_differences hn hl) ?_
    refine ev_if rfl (fun h10 => ?_) (fun h10 => ?_)
    · iterate 3 refine ev_go rfl ?_
      refine ev_callr rfl rfl rfl pm_not ?_
      refine ev_if rfl (fun h23 => ?_) (fun h23 => ?_)
      · exfalso
        grind [pd_no0]
      · iterate 7 refine ev_go rfl ?_
        refine ev_end rfl ?_
        rfl
    · exfalso
      grind
theorem pm_differ_l {i : Nat} {w : Int32} {c : Nat} (hn : M.1 12 1 = nI (aq_n M)) (hl : aq_n M ≤ 24) (hc : c < 60) (h1 : ct (aq_df M (aq_E M)) c = i) (h2 : ¬ aq_df M (aq_E M) c = 0) : ∀ j k, k + j = c + 1 → mj_Ev mj_S0 X mj_P (d + 4) mt_M_differ 48 (mj_up (mj_up (fun j => [mv_p 12, mv_i (nI i), mv_i w][j]?) 3 (mv_i (nI (ct (aq_df M (aq_E M)) k) - 1))) 4 (mv_i (nI k - 1))) [] M 0 (mv_R (if w = 0 then nI c / 6 else if w = 1 then nI c - nI c / 6 * 6 else aq_df M (aq_E M) c) M) := by
  have hu : ∀ k, ct (aq_df M (aq_E M)) k ≤ k := ct_le _
  have h3 : ct (aq_df M (aq_E M)) (c + 1) = i + 1 := by
    show ct (aq_df M (aq_E M)) c + (if aq_df M (aq_E M) c = 0 then 0 else 1) = i + 1
    rw [h1, if_neg h2]
  intro j
  induction j with
  | zero =>
    intro k hk
    have e1 : k = c + 1 := by omega
    subst e1
    iterate 2 refine ev_go rfl ?_
    refine ev_if rfl (fun h50 => ?_) (fun h50 => ?_)
    · rw [nI_pred]
      refine ev_go rfl ?_
      refine ev_if rfl (fun h72 => ?_) (fun h72 => ?_)
      · iterate 4 refine ev_go rfl ?_
        refine ev_end rfl ?_
        show some _ = some _
        first
          | (rw [if_pos h72]; done)
          | (rw [if_pos h72]; rfl)
          | (rw [if_neg h72, if_pos h85]; done)
          | (rw [if_neg h72, if_pos h85]; rfl)
          | (rw [if_neg h72, if_neg h85])
      · iterate 2 refine ev_go rfl ?_
        refine ev_if rfl (fun h85 => ?_) (fun h85 => ?_)
        · iterate 4 refine ev_go rfl ?_
          refine ev_end rfl ?_
          show some _ = some _
          first
            | (rw [if_pos h72]; done)
            | (rw [if_pos h72]; rfl)
            | (rw [if_neg h72, if_pos h85]; done)
            | (rw [if_neg h72, if_pos h85]; rfl)
            | (rw [if_neg h72, if_neg h85])
        · iterate 2 refine ev_go rfl ?_
          refine ev_callr rfl rfl rfl (pm_differenceOf hc hn hl) ?_
          refine ev_end rfl ?_
          show some _ = some _
          first
            | (rw [if_pos h72]; done)
            | (rw [if_pos h72]; rfl)
            | (rw [if_neg h72, if_pos h85]; done)
            | (rw [if_neg h72, if_pos h85]; rfl)
            | (rw [if_neg h72, if_neg h85])
    · exact absurd ((pk_m1le (by have := hu c; omega) (by have := hu (c + 1); omega)).2 (by omega)) h50
  | succ j ih =>
    intro k hk
    have hm : ct (aq_df M (aq_E M)) k ≤ i := by rw [← h1]; exact ct_mono _ (by omega)
    iterate 2 refine ev_go rfl ?_
    refine ev_if rfl (fun h50 => ?_) (fun h50 => ?_)
    · exact absurd ((pk_m1le (by have := hu c; omega) (by have := hu k; omega)).1 h50) (by omega)
    · refine ev_go rfl ?_
      rw [Int32.sub_add_cancel]
      iterate 2 refine ev_go rfl ?_
      refine ev_callr rfl rfl rfl (pm_differenceOf (by omega) hn hl) ?_
      refine ev_if rfl (fun h62 => ?_) (fun h62 => ?_)
      · refine ev_lo ?_ (ih (k + 1) (by omega))
        rw [nI_pred]
        first
          | (have e : ct (aq_df M (aq_E M)) (k + 1) = ct (aq_df M (aq_E M)) k := by
              show ct (aq_df M (aq_E M)) k + (if aq_df M (aq_E M) k = 0 then 0 else 1) = _
              rw [if_pos h62]
              rfl
             rw [e, mj_upo])
          | (have e : ct (aq_df M (aq_E M)) (k + 1) = ct (aq_df M (aq_E M)) k + 1 := by
              show ct (aq_df M (aq_E M)) k + (if aq_df M (aq_E M) k = 0 then 0 else 1) = _
              rw [if_neg h62]
             rw [e, nI_pred, Int32.sub_add_cancel, mj_upo, mj_upc (i := 4) (j := 3) (by decide), mj_upo])
      · iterate 2 refine ev_go rfl ?_
        refine ev_lo ?_ (ih (k + 1) (by omega))
        rw [nI_pred]
        first
          | (have e : ct (aq_df M (aq_E M)) (k + 1) = ct (aq_df M (aq_E M)) k := by
              show ct (aq_df M (aq_E M)) k + (if aq_df M (aq_E M) k = 0 then 0 else 1) = _
              rw [if_pos h62]
              rfl
             rw [e, mj_upo])
          | (have e : ct (aq_df M (aq_E M)) (k + 1) = ct (aq_df M (aq_E M)) k + 1 := by
              show ct (aq_df M (aq_E M)) k + (if aq_df M (aq_E M) k = 0 then 0 else 1) = _
              rw [if_neg h62]
             rw [e, nI_pred, Int32.sub_add_cancel, mj_upo, mj_upc (i := 4) (j := 3) (by decide), mj_upo])
theorem pm_differ {i : Nat} {w : Int32} {c : Nat} (hn : M.1 12 1 = nI (aq_n M)) (hl : aq_n M ≤ 24) (hc : c < 60) (h1 : ct (aq_df M (aq_E M)) c = i) (h2 : ¬ aq_df M (aq_E M) c = 0) (h' : 0 ≤ w ∧ w ≤ 2) : mj_C0 X (d + 4) mt_M_differ [mv_p 12, mv_i (nI i), mv_i w] M (mv_R (if w = 0 then nI c / 6 else if w = 1 then nI c - nI c / 6 * 6 else aq_df M (aq_E M) c) (mj_st M 12 0 0)) := by
  have hu : ∀ k, ct (aq_df M (aq_E M)) k ≤ k := ct_le _
  have h0 : ¬ nI i < 0 := nI_pos (by have := hu c; omega)
  have h3 : nI i < aq_nd M (aq_E M) := by
    unfold aq_nd
    rw [aq_wct]
    refine nI_lt ?_ (by have := hu 60; omega)
    have e3 : ct (aq_df M (aq_E M)) (c + 1) = i + 1 := by
      show ct (aq_df M (aq_E M)) c + (if aq_df M (aq_E M) c = 0 then 0 else 1) = i + 1
      rw [h1, if_neg h2]
    have := ct_mono (aq_df M (aq_E M)) (show c + 1 ≤ 60 by omega)
    omega
  have eE : aq_E (mj_st M 12 0 0) = aq_E M := rm_E rm_0
  have eD : aq_df (mj_st M 12 0 0) (aq_E (mj_st M 12 0 0)) = aq_df M (aq_E M) := by funext z; rw [eE]; exact rm_df rm_0 _ z
  have key := pm_differ_l (X := X) (d := d) (M := mj_st M 12 0 0) (i := i) (w := w) (c := c) hn hl hc (by rw [eD]; exact h1) (by rw [eD]; exact h2) (c + 1) 0 (by omega)
  rw [eD] at key
  iterate 2 refine ev_go rfl ?_
  refine ev_if rfl (fun h2 => ?_) (fun h2 => ?_)
  · exfalso
    grind
  · iterate 2 refine ev_go rfl ?_
    refine ev_callr rfl rfl rfl (pm_differences hn hl) ?_
    refine ev_if rfl (fun h10 => ?_) (fun h10 => ?_)
    · iterate 3 refine ev_go rfl ?_
      refine ev_callr rfl rfl rfl pm_not ?_
      refine ev_if rfl (fun h23 => ?_) (fun h23 => ?_)
      · iterate 9 refine ev_go rfl ?_
        exact key
      · exfalso
        grind [pd_no0]
    · exfalso
      grind
end
end
section
/-! pure walks: told, of, accept, count of the reference -/
theorem ev_pos {S : mj_S} {X : Nat × (Nat → Int32)} {P : List mj_T} {d : Nat} {T : mj_T} {pc : Nat} {lo : mj_L} {st : List mj_V} {M : mj_M} {k : Nat} {r : mj_R} {c : Prop} {dc : Decidable c} {pc' : Nat} {lo' : mj_L} {st' : List mj_V} {M' : mj_M} {o : Option mj_C} (hc : c) (h : mj_go S X T pc lo st M = if c then some (pc', lo', st', M') else o) (e : mj_Ev S X P d T pc' lo' st' M' k r) : mj_Ev S X P d T pc lo st M k r := by
  rw [if_pos hc] at h
  exact ev_go h e
def aq_to (A : mj_M) (a w : Nat) : Int32 := if w = 8 then aq_ca A a else if w = 7 then (if A.1 20 a = 0 then 0 else 1) else A.1 (13 + w) a
/-- the act number i among those for which f isn't 0, from act k on -/
def aq_fo (f : Nat → Int32) (i : Int32) : Nat → Nat → Int32 → Int32
  | 0, _, _ => -1
  | j + 1, k, b => if f k = 0 then aq_fo f i j (k + 1) b else if b = i then nI k else aq_fo f i j (k + 1) (b + 1)
def aq_fa (A : mj_M) (i : Nat) : Nat := (A.1 23 i / 2).toNatClampNeg
def aq_fh (A : mj_M) (i : Nat) : Int32 := A.1 23 i - A.1 23 i / 2 * 2
/-- the first k changes taken over -/
def oa_ (A : mj_M) : Nat → mj_M
  | 0 => A
  | k + 1 => mj_st (oa_ A k) 19 (aq_fa A k) (1 + aq_fh A k)
theorem oa_q (A : mj_M) {q : Nat} (h : q ≠ 19) (j : Nat) : ∀ k, (oa_ A k).1 q j = A.1 q j
  | 0 => rfl
  | k + 1 => by
    show (mj_st (oa_ A k) 19 (aq_fa A k) (1 + aq_fh A k)).1 q j = _
    rw [pm_st1 (Or.inl h)]
    exact oa_q A h j k
theorem oa_n (A : mj_M) (k : Nat) : aq_n (oa_ A k) = aq_n A := by unfold aq_n; rw [oa_q A (by decide)]
section
variable {X : Nat × (Nat → Int32)} {d : Nat} {M A : mj_M}
theorem pm_told_x {a w : Int32} (h : ¬ pd_na M a = 0) : mj_C0 X (d + 1) mt_M_told [mv_p 12, mv_i a, mv_i w] M (mv_R 0 (mj_st M 12 0 1)) := by
  iterate 3 refine ev_go rfl ?_
  refine ev_callr rfl rfl rfl pm_noAct ?_
  refine ev_if rfl (fun h6 => ?_) (fun h6 => ?_)
  · exact absurd h6 h
  · iterate 7 refine ev_go rfl ?_
    refine ev_end rfl ?_
    rfl
theorem pm_told_y {a w : Int32} (h : pd_na M a = 0) (h' : ¬ (0 ≤ w ∧ w ≤ 8)) : mj_C0 X (d + 1) mt_M_told [mv_p 12, mv_i a, mv_i w] M (mv_R 0 (mj_st M 12 0 2)) := by
  iterate 3 refine ev_go rfl ?_
  refine ev_callr rfl rfl rfl pm_noAct ?_
  refine ev_if rfl (fun h6 => ?_) (fun h6 => ?_)
  · iterate 3 refine ev_go rfl ?_
    refine ev_callr rfl rfl rfl pm_not ?_
    refine ev_if rfl (fun h20 => ?_) (fun h20 => ?_)
    · exfalso
      grind [pd_no0]
    · iterate 7 refine ev_go rfl ?_
      refine ev_end rfl ?_
      rfl
  · exact absurd h h6
theorem pm_told {a w : Nat} (ha : a < 24) (h : pd_na M (nI a) = 0) (hw : w ≤ 8) (hr : vs_rw M a) : mj_C0 X (d + 1) mt_M_told [mv_p 12, mv_i (nI a), mv_i (nI w)] M (mv_R (aq_to M a w) (mj_st M 12 0 0)) := by
  have h1 : mj_in (nI a) 24 := nI_in ha (by decide)
  have h2 : (nI a).toNatClampNeg = a := nI_clamp (by omega)
  have h' : 0 ≤ nI w ∧ nI w ≤ 8 := ⟨nI_pos' (by omega), nI_le (b := 8) hw (by decide)⟩
  have ec : aq_ca (mj_st M 12 0 0) a = aq_ca M a := rm_ca rm_0 a
  iterate 3 refine ev_go rfl ?_
  refine ev_callr rfl rfl rfl pm_noAct ?_
  refine ev_if rfl (fun h6 => ?_) (fun h6 => ?_)
  · iterate 3 refine ev_go rfl ?_
    refine ev_callr rfl rfl rfl pm_not ?_
    refine ev_if rfl (fun h20 => ?_) (fun h20 => ?_)
    · iterate 6 refine ev_go rfl ?_
      have h9 : w = 0 ∨ w = 1 ∨ w = 2 ∨ w = 3 ∨ w = 4 ∨ w = 5 ∨ w = 6 ∨ w = 7 ∨ w = 8 := by omega
      rcases h9 with h9 | h9 | h9 | h9 | h9 | h9 | h9 | h9 | h9 <;> subst h9
      · refine ev_go rfl ?_
        iterate 3 refine ev_go rfl ?_
        refine ev_ok h1 rfl ?_
        refine ev_end rfl ?_
        show some _ = some _
        rw [h2]
        rfl
      · refine ev_go rfl ?_
        iterate 3 refine ev_go rfl ?_
        refine ev_ok h1 rfl ?_
        refine ev_end rfl ?_
        show some _ = some _
        rw [h2]
        rfl
      · refine ev_go rfl ?_
        iterate 3 refine ev_go rfl ?_
        refine ev_ok h1 rfl ?_
        refine ev_end rfl ?_
        show some _ = some _
        rw [h2]
        rfl
      · refine ev_go rfl ?_
        iterate 3 refine ev_go rfl ?_
        refine ev_ok h1 rfl ?_
        refine ev_end rfl ?_
        show some _ = some _
        rw [h2]
        rfl
      · refine ev_go rfl ?_
        iterate 3 refine ev_go rfl ?_
        refine ev_ok h1 rfl ?_
        refine ev_end rfl ?_
        show some _ = some _
        rw [h2]
        rfl
      · refine ev_go rfl ?_
        iterate 3 refine ev_go rfl ?_
        refine ev_ok h1 rfl ?_
        refine ev_end rfl ?_
        show some _ = some _
        rw [h2]
        rfl
      · refine ev_go rfl ?_
        iterate 3 refine ev_go rfl ?_
        refine ev_ok h1 rfl ?_
        refine ev_end rfl ?_
        show some _ = some _
        rw [h2]
        rfl
      · refine ev_go rfl ?_
        iterate 3 refine ev_go rfl ?_
        refine ev_ok h1 rfl ?_
        rw [h2]
        refine ev_if rfl (fun h143 => ?_) (fun h143 => ?_)
        · refine ev_go rfl ?_
          refine ev_end rfl ?_
          show some _ = some _
          first
            | (show some _ = some (mv_R (if M.1 20 a = 0 then 0 else 1) _); rw [if_pos (show M.1 20 a = 0 from h143)])
            | (show some _ = some (mv_R (if M.1 20 a = 0 then 0 else 1) _); rw [if_neg (show ¬ M.1 20 a = 0 from h143)])
        · iterate 2 refine ev_go rfl ?_
          refine ev_end rfl ?_
          show some _ = some _
          first
            | (show some _ = some (mv_R (if M.1 20 a = 0 then 0 else 1) _); rw [if_pos (show M.1 20 a = 0 from h143)])
            | (show some _ = some (mv_R (if M.1 20 a = 0 then 0 else 1) _); rw [if_neg (show ¬ M.1 20 a = 0 from h143)])
      · refine ev_go rfl ?_
        iterate 2 refine ev_go rfl ?_
        refine ev_callr rfl rfl rfl (pm_isCandidate ha ((rm_rw rm_0 a).2 hr)) ?_
        refine ev_if rfl (fun h157 => ?_) (fun h157 => ?_)
        · refine ev_go rfl ?_
          refine ev_end rfl ?_
          show some _ = some _
          rcases aq_ca01 (mj_st M 12 0 0) a with h | h
          · first
              | exact absurd h h157
              | (show _ = some (mv_R (aq_ca M a) _); rw [← ec, h])
          · first
              | exact absurd (h.symm.trans h157) (by decide)
              | (show _ = some (mv_R (aq_ca M a) _); rw [← ec, h])
        · iterate 2 refine ev_go rfl ?_
          refine ev_end rfl ?_
          show some _ = some _
          rcases aq_ca01 (mj_st M 12 0 0) a with h | h
          · first
              | exact absurd h h157
              | (show _ = some (mv_R (aq_ca M a) _); rw [← ec, h])
          · first
              | exact absurd (h.symm.trans h157) (by decide)
              | (show _ = some (mv_R (aq_ca M a) _); rw [← ec, h])
    · exfalso
      grind [pd_no0]
  · exact absurd h h6
theorem pm_of_x {p g i : Int32} (h : ¬ (0 ≤ p ∧ p ≤ 9 ∧ 0 ≤ g ∧ g ≤ 5 ∧ 0 ≤ i)) : mj_C0 X (d + 1) mt_M_of [mv_p 12, mv_i p, mv_i g, mv_i i] M (mv_R 0 (mj_st M 12 0 1)) := by
  iterate 4 refine ev_go rfl ?_
  refine ev_callr rfl rfl rfl pm_not ?_
  refine ev_if rfl (fun h8 => ?_) (fun h8 => ?_)
  · iterate 3 refine ev_go rfl ?_
    refine ev_callr rfl rfl rfl pm_not ?_
    refine ev_if rfl (fun h17 => ?_) (fun h17 => ?_)
    · refine ev_go rfl ?_
      refine ev_if rfl (fun h21 => ?_) (fun h21 => ?_)
      · exfalso
        grind [pd_no0]
      · iterate 7 refine ev_go rfl ?_
        refine ev_end rfl ?_
        rfl
    · iterate 7 refine ev_go rfl ?_
      refine ev_end rfl ?_
      rfl
  · iterate 7 refine ev_go rfl ?_
    refine ev_end rfl ?_
    rfl
theorem pm_of_l {p g i : Int32} (hn : M.1 12 1 = nI (aq_n M)) (hl : aq_n M ≤ 24) : ∀ j k b, k + j = aq_n M → mj_Ev mj_S0 X mj_P (d + 2) mt_M_of 47 (mj_up (mj_up (fun j => [mv_p 12, mv_i p, mv_i g, mv_i i][j]?) 4 (mv_i b)) 5 (mv_i (nI k))) [] M 0 (mv_R (aq_fo (fun a => aq_ad M a (6 * p + g)) i j k b) M) := by
  intro j
  induction j with
  | zero =>
    intro k b hk
    iterate 3 refine ev_go rfl ?_
    refine ev_if rfl (fun h53 => ?_) (fun h53 => ?_)
    · refine ev_go rfl ?_
      refine ev_end rfl ?_
      rfl
    · exact absurd (show M.1 12 1 ≤ nI k by rw [hn]; exact nI_le (by omega) (by omega)) h53
  | succ j ih =>
    intro k b hk
    iterate 3 refine ev_go rfl ?_
    refine ev_if rfl (fun h53 => ?_) (fun h53 => ?_)
    · exact absurd h53 (by rw [hn]; exact nI_ge (by omega) (by omega))
    · iterate 7 refine ev_go rfl ?_
      refine ev_callr rfl rfl rfl (pm_touches (by omega)) ?_
      refine ev_if rfl (fun h68 => ?_) (fun h68 => ?_)
      · first
          | (have k74 := h74)
          | (have k68 : aq_ad M k (6 * p + g) = 0 := by
              by_cases q : aq_ad M k (6 * p + g) = 0
              · exact q
              · exact absurd h68 (by show ¬ (if aq_ad M k (6 * p + g) = 0 then (0 : Int32) else 1) = 0; rw [if_neg q]; decide))
        iterate 2 refine ev_go rfl ?_
        first
          | (have e : aq_fo (fun a => aq_ad M a (6 * p + g)) i (j + 1) k b = aq_fo (fun a => aq_ad M a (6 * p + g)) i j (k + 1) b := if_pos k68
             rw [e]
             refine ev_lo ?_ (ih (k + 1) b (by omega))
             rw [nI_1, mj_upo])
          | (have e : aq_fo (fun a => aq_ad M a (6 * p + g)) i (j + 1) k b = aq_fo (fun a => aq_ad M a (6 * p + g)) i j (k + 1) (b + 1) := (if_neg k68).trans (if_neg h74)
             rw [e]
             refine ev_lo ?_ (ih (k + 1) (b + 1) (by omega))
             rw [nI_1]
             exact mj_upn (i := 4) (j := 5) (by decide))
      · have k68 : ¬ aq_ad M k (6 * p + g) = 0 := fun q => h68 (if_pos q)
        iterate 2 refine ev_go rfl ?_
        refine ev_if rfl (fun h74 => ?_) (fun h74 => ?_)
        · refine ev_go rfl ?_
          refine ev_end rfl ?_
          show some _ = some _
          rw [show aq_fo (fun a => aq_ad M a (6 * p + g)) i (j + 1) k b = nI k from (if_neg k68).trans (if_pos h74)]
        · refine ev_go rfl ?_
          first
            | (have k74 := h74)
            | (have k68 : aq_ad M k (6 * p + g) = 0 := by
                by_cases q : aq_ad M k (6 * p + g) = 0
                · exact q
                · exact absurd h68 (by show ¬ (if aq_ad M k (6 * p + g) = 0 then (0 : Int32) else 1) = 0; rw [if_neg q]; decide))
          iterate 2 refine ev_go rfl ?_
          first
            | (have e : aq_fo (fun a => aq_ad M a (6 * p + g)) i (j + 1) k b = aq_fo (fun a => aq_ad M a (6 * p + g)) i j (k + 1) b := if_pos k68
               rw [e]
               refine ev_lo ?_ (ih (k + 1) b (by omega))
               rw [nI_1, mj_upo])
            | (have e : aq_fo (fun a => aq_ad M a (6 * p + g)) i (j + 1) k b = aq_fo (fun a => aq_ad M a (6 * p + g)) i j (k + 1) (b + 1) := (if_neg k68).trans (if_neg h74)
               rw [e]
               refine ev_lo ?_ (ih (k + 1) (b + 1) (by omega))
               rw [nI_1]
               exact mj_upn (i := 4) (j := 5) (by decide))
theorem pm_of {p g i : Int32} (h : 0 ≤ p ∧ p ≤ 9 ∧ 0 ≤ g ∧ g ≤ 5 ∧ 0 ≤ i) (hn : M.1 12 1 = nI (aq_n M)) (hl : aq_n M ≤ 24) : mj_C0 X (d + 2) mt_M_of [mv_p 12, mv_i p, mv_i g, mv_i i] M (mv_R (aq_fo (fun a => aq_ad M a (6 * p + g)) i (aq_n M) 0 0) (mj_st M 12 0 0)) := by
  have e : (fun a => aq_ad (mj_st M 12 0 0) a (6 * p + g)) = (fun a => aq_ad M a (6 * p + g)) := funext (fun a => rm_ad rm_0 a _)
  have key := pm_of_l (X := X) (d := d) (M := mj_st M 12 0 0) (p := p) (g := g) (i := i) hn hl (aq_n M) 0 0 (by show 0 + aq_n M = aq_n M; omega)
  rw [e] at key
  iterate 4 refine ev_go rfl ?_
  refine ev_callr rfl rfl rfl pm_not ?_
  refine ev_if rfl (fun h8 => ?_) (fun h8 => ?_)
  · iterate 3 refine ev_go rfl ?_
    refine ev_callr rfl rfl rfl pm_not ?_
    refine ev_if rfl (fun h17 => ?_) (fun h17 => ?_)
    · refine ev_go rfl ?_
      refine ev_if rfl (fun h21 => ?_) (fun h21 => ?_)
      · iterate 9 refine ev_go rfl ?_
        exact key
      · exfalso
        grind [pd_no0]
    · exfalso
      grind [pd_no0]
  · exfalso
    grind [pd_no0]
end
end
section
/-! pure walks: accept and count of the reference -/
def aq_ab (A : mj_M) (c : Nat) : Int32 := if 0 ≤ aq_df A (aq_E A) c then aq_df A (aq_E A) c else -aq_df A (aq_E A) c
def aq_so (A : mj_M) (c : Nat) : Int32 := if A.1 21 c < 0 then 0 else 1
def aq_si (A : mj_M) (s : Int32) (a : Nat) : Int32 := if A.1 19 a = s then 1 else 0
def aq_cn (A : mj_M) (w : Int32) : Int32 := if w = 0 then A.1 12 1 else if w = 1 then aq_nd A (aq_E A) else if w = 2 then sm (aq_ab A) 60 else if w = 3 then sm (aq_ca A) (aq_n A) else if w = 4 then sm (aq_si A 1) (aq_n A) else if w = 5 then sm (aq_si A 2) (aq_n A) else if w = 6 then sm (aq_so A) 60 else if w = 7 then A.1 12 17 else -1
section
variable {X : Nat × (Nat → Int32)} {d : Nat} {M A : mj_M}
theorem pm_accept_lx {m : Nat} (hm : M.1 12 17 = nI m) (h4 : m ≤ 4) (hf : ∀ i, i < m → M.1 23 i / 2 = nI (aq_fa M i) ∧ aq_fa M i < 24) : ∀ j k c, k + j = m → (c = 1 ∨ ∃ i, k ≤ i ∧ i < m ∧ ¬ M.1 19 (aq_fa M i) = 0) → mj_Ev mj_S0 X mj_P d mt_M_accept 18 (mj_up (fun j => [mv_p 12][j]?) 1 (mv_i (nI k))) [] (mj_st M 12 0 c) 0 (mv_R 0 (mj_st M 12 0 1)) := by
  intro j
  induction j with
  | zero =>
    intro k c hk hc
    have e1 : c = 1 := by
      rcases hc with h | ⟨i, h1, h2, -⟩
      · exact h
      · omega
    subst e1
    iterate 3 refine ev_go rfl ?_
    refine ev_if rfl (fun h23 => ?_) (fun h23 => ?_)
    · iterate 4 refine ev_go rfl ?_
      refine ev_end rfl ?_
      rfl
    · exact absurd (show M.1 12 17 ≤ nI k by rw [hm]; exact nI_le (by omega) (by omega)) h23
  | succ j ih =>
    intro k c hk hc
    iterate 3 refine ev_go rfl ?_
    refine ev_if rfl (fun h23 => ?_) (fun h23 => ?_)
    · exact absurd h23 (by show ¬ M.1 12 17 ≤ nI k; rw [hm]; exact nI_ge (by omega) (by omega))
    · iterate 5 refine ev_go rfl ?_
      refine ev_ok (nI_in (show k < 4 by omega) (by decide)) rfl ?_
      rw [nI_clamp (by omega)]
      iterate 2 refine ev_go rfl ?_
      show mj_Ev _ _ _ _ _ _ _ [mv_i (M.1 23 k / 2), _] _ _ _
      rw [(hf k (by omega)).1]
      refine ev_ok (nI_in (hf k (by omega)).2 (by decide)) rfl ?_
      rw [nI_clamp (by have := (hf k (by omega)).2; omega)]
      refine ev_if rfl (fun h39 => ?_) (fun h39 => ?_)
      · iterate 2 refine ev_go rfl ?_
        first
          | (rw [pm_stt]
             refine ev_lo ?_ (ih (k + 1) 1 (by omega) (Or.inl rfl))
             rw [nI_1]
             exact mj_upo)
          | (refine ev_lo ?_ (ih (k + 1) c (by omega) ?_)
             · rw [nI_1]
               exact mj_upo
             · rcases hc with h | ⟨i, h1, h2, h3⟩
               · exact Or.inl h
               · refine Or.inr ⟨i, ?_, h2, h3⟩
                 rcases Nat.lt_or_ge k i with h5 | h5
                 · exact h5
                 · exact absurd h39 (by rw [show i = k by omega] at h3; exact h3))
      · iterate 5 refine ev_go rfl ?_
        first
          | (rw [pm_stt]
             refine ev_lo ?_ (ih (k + 1) 1 (by omega) (Or.inl rfl))
             rw [nI_1]
             exact mj_upo)
          | (refine ev_lo ?_ (ih (k + 1) c (by omega) ?_)
             · rw [nI_1]
               exact mj_upo
             · rcases hc with h | ⟨i, h1, h2, h3⟩
               · exact Or.inl h
               · refine Or.inr ⟨i, ?_, h2, h3⟩
                 rcases Nat.lt_or_ge k i with h5 | h5
                 · exact h5
                 · exact absurd h39 (by rw [show i = k by omega] at h3; exact h3))
theorem pm_accept_x {m : Nat} (hm : M.1 12 17 = nI m) (h4 : m ≤ 4) (hf : ∀ i, i < m → M.1 23 i / 2 = nI (aq_fa M i) ∧ aq_fa M i < 24) (h : m = 0 ∨ ∃ i, i < m ∧ ¬ M.1 19 (aq_fa M i) = 0) : mj_C0 X d mt_M_accept [mv_p 12] M (mv_R 0 (mj_st M 12 0 1)) := by
  iterate 3 refine ev_go rfl ?_
  refine ev_if rfl (fun h5 => ?_) (fun h5 => ?_)
  · iterate 5 refine ev_go rfl ?_
    first
      | exact pm_accept_lx hm h4 hf m 0 1 (by omega) (Or.inl rfl)
      | (refine pm_accept_lx hm h4 hf m 0 0 (by omega) (Or.inr ?_)
         rcases h with h | ⟨i, h1, h2⟩
         · exact absurd (by rw [hm, h]; rfl) h5
         · exact ⟨i, by omega, h1, h2⟩)
  · iterate 4 refine ev_go rfl ?_
    first
      | exact pm_accept_lx hm h4 hf m 0 1 (by omega) (Or.inl rfl)
      | (refine pm_accept_lx hm h4 hf m 0 0 (by omega) (Or.inr ?_)
         rcases h with h | ⟨i, h1, h2⟩
         · exact absurd (by rw [hm, h]; rfl) h5
         · exact ⟨i, by omega, h1, h2⟩)
theorem pm_accept_l1 {m : Nat} {r : mj_R} (hm : M.1 12 17 = nI m) (h4 : m ≤ 4) (hf : ∀ i, i < m → M.1 23 i / 2 = nI (aq_fa M i) ∧ aq_fa M i < 24) (hp : ∀ i, i < m → M.1 19 (aq_fa M i) = 0) (hq : mj_Ev mj_S0 X mj_P d mt_M_accept 53 (mj_up (fun j => [mv_p 12][j]?) 1 (mv_i (nI m))) [] M 0 r) : ∀ j k, k + j = m → mj_Ev mj_S0 X mj_P d mt_M_accept 18 (mj_up (fun j => [mv_p 12][j]?) 1 (mv_i (nI k))) [] M 0 r := by
  intro j
  induction j with
  | zero =>
    intro k hk
    iterate 3 refine ev_go rfl ?_
    refine ev_if rfl (fun h23 => ?_) (fun h23 => ?_)
    · rw [show k = m by omega]
      exact hq
    · exact absurd (show M.1 12 17 ≤ nI k by rw [hm]; exact nI_le (by omega) (by omega)) h23
  | succ j ih =>
    intro k hk
    iterate 3 refine ev_go rfl ?_
    refine ev_if rfl (fun h23 => ?_) (fun h23 => ?_)
    · exact absurd h23 (by show ¬ M.1 12 17 ≤ nI k; rw [hm]; exact nI_ge (by omega) (by omega))
    · iterate 5 refine ev_go rfl ?_
      refine ev_ok (nI_in (show k < 4 by omega) (by decide)) rfl ?_
      rw [nI_clamp (by omega)]
      iterate 2 refine ev_go rfl ?_
      show mj_Ev _ _ _ _ _ _ _ [mv_i (M.1 23 k / 2), _] _ _ _
      rw [(hf k (by omega)).1]
      refine ev_ok (nI_in (hf k (by omega)).2 (by decide)) rfl ?_
      rw [nI_clamp (by have := (hf k (by omega)).2; omega)]
      refine ev_if rfl (fun h39 => ?_) (fun h39 => ?_)
      · iterate 2 refine ev_go rfl ?_
        refine ev_lo ?_ (ih (k + 1) (by omega))
        rw [nI_1]
        exact mj_upo
      · exact absurd (hp k (by omega)) h39
theorem pm_accept_l2 {m : Nat} (hm : M.1 12 17 = nI m) (h4 : m ≤ 4) (hf : ∀ i, i < m → M.1 23 i / 2 = nI (aq_fa M i) ∧ aq_fa M i < 24) (hn : M.1 12 1 = nI (aq_n M)) (hl : aq_n M ≤ 24) : ∀ j k, k + j = m → mj_Ev mj_S0 X mj_P (d + 4) mt_M_accept 64 (mj_up (fun j => [mv_p 12][j]?) 1 (mv_i (nI k))) [] (oa_ M k) 0 (mv_R (aq_nd (mj_st (oa_ M m) 12 17 0) (aq_E (mj_st (oa_ M m) 12 17 0))) (mj_st (oa_ M m) 12 17 0)) := by
  have hm' : ∀ k, (oa_ M k).1 12 17 = nI m := fun k => by rw [oa_q M (by decide)]; exact hm
  have hs : ∀ k, (oa_ M k).1 23 k = M.1 23 k := fun k => oa_q M (by decide) k k
  intro j
  induction j with
  | zero =>
    intro k hk
    iterate 3 refine ev_go rfl ?_
    refine ev_if rfl (fun h69 => ?_) (fun h69 => ?_)
    · rw [show k = m by omega]
      iterate 4 refine ev_go rfl ?_
      refine ev_callr rfl rfl rfl (pm_differences (M := mj_st (oa_ M m) 12 17 0) (by show (oa_ M m).1 12 1 = nI (aq_n (oa_ M m)); rw [oa_n, oa_q M (by decide)]; exact hn) (by show aq_n (oa_ M m) ≤ 24; rw [oa_n]; exact hl)) ?_
      refine ev_end rfl ?_
      rfl
    · exact absurd (show (oa_ M k).1 12 17 ≤ nI k by rw [hm']; exact nI_le (by omega) (by omega)) h69
  | succ j ih =>
    intro k hk
    iterate 3 refine ev_go rfl ?_
    refine ev_if rfl (fun h69 => ?_) (fun h69 => ?_)
    · exact absurd h69 (by show ¬ (oa_ M k).1 12 17 ≤ nI k; rw [hm']; exact nI_ge (by omega) (by omega))
    · iterate 5 refine ev_go rfl ?_
      refine ev_ok (nI_in (show k < 4 by omega) (by decide)) rfl ?_
      rw [nI_clamp (by omega)]
      iterate 6 refine ev_go rfl ?_
      refine ev_ok (nI_in (show k < 4 by omega) (by decide)) rfl ?_
      rw [nI_clamp (by omega)]
      iterate 3 refine ev_go rfl ?_
      show mj_Ev _ _ _ _ _ _ _ [mv_i (1 + ((oa_ M k).1 23 k - (oa_ M k).1 23 k / 2 * 2)), mv_i ((oa_ M k).1 23 k / 2), _] _ _ _
      rw [hs, (hf k (by omega)).1]
      refine ev_ok (nI_in (hf k (by omega)).2 (by decide)) rfl ?_
      rw [nI_clamp (by have := (hf k (by omega)).2; omega), ← (hf k (by omega)).1]
      iterate 2 refine ev_go rfl ?_
      refine ev_lo ?_ (ih (k + 1) (by omega))
      rw [nI_1]
      exact mj_upo
theorem pm_accept {m : Nat} (hm : M.1 12 17 = nI m) (h0 : 0 < m) (h4 : m ≤ 4) (hf : ∀ i, i < m → M.1 23 i / 2 = nI (aq_fa M i) ∧ aq_fa M i < 24) (hp : ∀ i, i < m → M.1 19 (aq_fa M i) = 0) (hn : M.1 12 1 = nI (aq_n M)) (hl : aq_n M ≤ 24) : mj_C0 X (d + 4) mt_M_accept [mv_p 12] M (mv_R (aq_nd (mj_st (oa_ (mj_st M 12 0 0) m) 12 17 0) (aq_E (mj_st (oa_ (mj_st M 12 0 0) m) 12 17 0))) (mj_st (oa_ (mj_st M 12 0 0) m) 12 17 0)) := by
  have key := pm_accept_l2 (X := X) (d := d) (M := mj_st M 12 0 0) (m := m) hm h4 hf hn hl m 0 (by omega)
  iterate 3 refine ev_go rfl ?_
  refine ev_if rfl (fun h5 => ?_) (fun h5 => ?_)
  · exact absurd (hm.symm.trans h5) (nI_ne0 h0 (by omega))
  · iterate 4 refine ev_go rfl ?_
    refine pm_accept_l1 (M := mj_st M 12 0 0) (m := m) hm h4 hf hp ?_ m 0 (by omega)
    refine ev_go rfl ?_
    refine ev_go rfl ?_
    refine ev_go rfl ?_
    refine ev_go rfl ?_
    refine ev_go rfl ?_
    refine ev_lo ?_ key
    exact mj_upo
theorem pm_count_l1 {w : Int32} {r : mj_R} (hn : M.1 12 1 = nI (aq_n M)) (hl : aq_n M ≤ 24) (hq : ∀ lo, mj_Ev mj_S0 X mj_P (d + 3) mt_M_count 67 (mj_up (mj_up (mj_up (mj_up (mj_up lo 0 (mv_p 12)) 1 (mv_i w)) 2 (mv_i (sm (aq_ab M) (60)))) 3 (mv_i (sm (aq_so M) (60)))) 4 (mv_i (nI (60)))) [] M 0 r) : ∀ j k lo, k + j = 60 → mj_Ev mj_S0 X mj_P (d + 3) mt_M_count 12 (mj_up (mj_up (mj_up (mj_up (mj_up lo 0 (mv_p 12)) 1 (mv_i w)) 2 (mv_i (sm (aq_ab M) (k)))) 3 (mv_i (sm (aq_so M) (k)))) 4 (mv_i (nI (k)))) [] M 0 r := by
  intro j
  induction j with
  | zero =>
    intro k lo hk
    have e1 : k = 60 := by omega
    subst e1
    iterate 2 refine ev_go rfl ?_
    refine ev_go rfl ?_
    exact hq lo
  | succ j ih =>
    intro k lo hk
    iterate 2 refine ev_go rfl ?_
    refine ev_if rfl (fun h16 => ?_) (fun h16 => ?_)
    · exact absurd h16 (by rw [show (60 : Int32) = nI 60 from rfl]; exact nI_ge (by omega) (by omega))
    · iterate 2 refine ev_go rfl ?_
      refine ev_callr rfl rfl rfl (pm_differenceOf (by omega) hn hl) ?_
      iterate 3 refine ev_go rfl ?_
      refine ev_if rfl (fun h30 => ?_) (fun h30 => ?_)
      · iterate 7 refine ev_go rfl ?_
        refine ev_ok (nI_in (show k < 60 by omega) (by decide)) rfl ?_
        rw [nI_clamp (by omega)]
        refine ev_if rfl (fun h51 => ?_) (fun h51 => ?_)
        · iterate 5 refine ev_go rfl ?_
          refine ev_lo ?_ (ih (k + 1) (mj_up lo 5 (mv_i (aq_df M (aq_E M) k))) (by omega))
          have ea : sm (aq_ab M) (k + 1) = sm (aq_ab M) k + aq_ab M k := rfl
          have eb : sm (aq_so M) (k + 1) = sm (aq_so M) k + aq_so M k := rfl
          rw [nI_1, ea, eb]
          unfold aq_ab aq_so
          first
            | rw [if_pos h30, if_pos h51]
            | rw [if_pos h30, if_neg h51]
            | rw [if_neg h30, if_pos h51]
            | rw [if_neg h30, if_neg h51]
          funext z
          by_cases z0 : z = 0
          · subst z0
            first
              | rfl
              | simp [mj_up]
          by_cases z1 : z = 1
          · subst z1
            first
              | rfl
              | simp [mj_up]
          by_cases z2 : z = 2
          · subst z2
            first
              | rfl
              | simp [mj_up]
          by_cases z3 : z = 3
          · subst z3
            first
              | rfl
              | simp [mj_up]
          by_cases z4 : z = 4
          · subst z4
            first
              | rfl
              | simp [mj_up]
          by_cases z5 : z = 5
          · subst z5
            first
              | rfl
              | simp [mj_up]
          first
            | (simp [mj_up, z0, z1, z2, z3, z4, z5]; done)
            | (simp [mj_up, z0, z1, z2, z3, z4, z5]; intro q; first | exact absurd q z0 | exact absurd q z1 | exact absurd q z2 | exact absurd q z3 | exact absurd q z4 | exact absurd q z5)
        · iterate 6 refine ev_go rfl ?_
          refine ev_lo ?_ (ih (k + 1) (mj_up lo 5 (mv_i (aq_df M (aq_E M) k))) (by omega))
          have ea : sm (aq_ab M) (k + 1) = sm (aq_ab M) k + aq_ab M k := rfl
          have eb : sm (aq_so M) (k + 1) = sm (aq_so M) k + aq_so M k := rfl
          rw [nI_1, ea, eb]
          unfold aq_ab aq_so
          first
            | rw [if_pos h30, if_pos h51]
            | rw [if_pos h30, if_neg h51]
            | rw [if_neg h30, if_pos h51]
            | rw [if_neg h30, if_neg h51]
          funext z
          by_cases z0 : z = 0
          · subst z0
            first
              | rfl
              | simp [mj_up]
          by_cases z1 : z = 1
          · subst z1
            first
              | rfl
              | simp [mj_up]
          by_cases z2 : z = 2
          · subst z2
            first
              | rfl
              | simp [mj_up]
          by_cases z3 : z = 3
          · subst z3
            first
              | rfl
              | simp [mj_up]
          by_cases z4 : z = 4
          · subst z4
            first
              | rfl
              | simp [mj_up]
          by_cases z5 : z = 5
          · subst z5
            first
              | rfl
              | simp [mj_up]
          first
            | (simp [mj_up, z0, z1, z2, z3, z4, z5]; done)
            | (simp [mj_up, z0, z1, z2, z3, z4, z5]; intro q; first | exact absurd q z0 | exact absurd q z1 | exact absurd q z2 | exact absurd q z3 | exact absurd q z4 | exact absurd q z5)
      · iterate 9 refine ev_go rfl ?_
        refine ev_ok (nI_in (show k < 60 by omega) (by decide)) rfl ?_
        rw [nI_clamp (by omega)]
        refine ev_if rfl (fun h51 => ?_) (fun h51 => ?_)
        · iterate 5 refine ev_go rfl ?_
          refine ev_lo ?_ (ih (k + 1) (mj_up lo 5 (mv_i (aq_df M (aq_E M) k))) (by omega))
          have ea : sm (aq_ab M) (k + 1) = sm (aq_ab M) k + aq_ab M k := rfl
          have eb : sm (aq_so M) (k + 1) = sm (aq_so M) k + aq_so M k := rfl
          rw [nI_1, ea, eb]
          unfold aq_ab aq_so
          first
            | rw [if_pos h30, if_pos h51]
            | rw [if_pos h30, if_neg h51]
            | rw [if_neg h30, if_pos h51]
            | rw [if_neg h30, if_neg h51]
          funext z
          by_cases z0 : z = 0
          · subst z0
            first
              | rfl
              | simp [mj_up]
          by_cases z1 : z = 1
          · subst z1
            first
              | rfl
              | simp [mj_up]
          by_cases z2 : z = 2
          · subst z2
            first
              | rfl
              | simp [mj_up]
          by_cases z3 : z = 3
          · subst z3
            first
              | rfl
              | simp [mj_up]
          by_cases z4 : z = 4
          · subst z4
            first
              | rfl
              | simp [mj_up]
          by_cases z5 : z = 5
          · subst z5
            first
              | rfl
              | simp [mj_up]
          first
            | (simp [mj_up, z0, z1, z2, z3, z4, z5]; done)
            | (simp [mj_up, z0, z1, z2, z3, z4, z5]; intro q; first | exact absurd q z0 | exact absurd q z1 | exact absurd q z2 | exact absurd q z3 | exact absurd q z4 | exact absurd q z5)
        · iterate 6 refine ev_go rfl ?_
          refine ev_lo ?_ (ih (k + 1) (mj_up lo 5 (mv_i (aq_df M (aq_E M) k))) (by omega))
          have ea : sm (aq_ab M) (k + 1) = sm (aq_ab M) k + aq_ab M k := rfl
          have eb : sm (aq_so M) (k + 1) = sm (aq_so M) k + aq_so M k := rfl
          rw [nI_1, ea, eb]
          unfold aq_ab aq_so
          first
            | rw [if_pos h30, if_pos h51]
            | rw [if_pos h30, if_neg h51]
            | rw [if_neg h30, if_pos h51]
            | rw [if_neg h30, if_neg h51]
          funext z
          by_cases z0 : z = 0
          · subst z0
            first
              | rfl
              | simp [mj_up]
          by_cases z1 : z = 1
          · subst z1
            first
              | rfl
              | simp [mj_up]
          by_cases z2 : z = 2
          · subst z2
            first
              | rfl
              | simp [mj_up]
          by_cases z3 : z = 3
          · subst z3
            first
              | rfl
              | simp [mj_up]
          by_cases z4 : z = 4
          · subst z4
            first
              | rfl
              | simp [mj_up]
          by_cases z5 : z = 5
          · subst z5
            first
              | rfl
              | simp [mj_up]
          first
            | (simp [mj_up, z0, z1, z2, z3, z4, z5]; done)
            | (simp [mj_up, z0, z1, z2, z3, z4, z5]; intro q; first | exact absurd q z0 | exact absurd q z1 | exact absurd q z2 | exact absurd q z3 | exact absurd q z4 | exact absurd q z5)
theorem pm_count_l2 {w : Int32} {r : mj_R} (hn : M.1 12 1 = nI (aq_n M)) (hl : aq_n M ≤ 24) (hq : ∀ lo, mj_Ev mj_S0 X mj_P d mt_M_count 133 (mj_up (mj_up (mj_up (mj_up (mj_up (mj_up (mj_up lo 0 (mv_p 12)) 1 (mv_i w)) 2 (mv_i (sm (aq_ab M) 60))) 3 (mv_i (sm (aq_so M) 60))) 4 (mv_i (sm (aq_si M 1) (aq_n M)))) 5 (mv_i (sm (aq_si M 2) (aq_n M)))) 6 (mv_i (nI (aq_n M)))) [] M 0 r) : ∀ j k lo, k + j = aq_n M → mj_Ev mj_S0 X mj_P d mt_M_count 76 (mj_up (mj_up (mj_up (mj_up (mj_up (mj_up (mj_up lo 0 (mv_p 12)) 1 (mv_i w)) 2 (mv_i (sm (aq_ab M) 60))) 3 (mv_i (sm (aq_so M) 60))) 4 (mv_i (sm (aq_si M 1) (k)))) 5 (mv_i (sm (aq_si M 2) (k)))) 6 (mv_i (nI (k)))) [] M 0 r := by
  intro j
  induction j with
  | zero =>
    intro k lo hk
    iterate 3 refine ev_go rfl ?_
    refine ev_if rfl (fun h82 => ?_) (fun h82 => ?_)
    · rw [show k = aq_n M by omega]
      exact hq lo
    · exact absurd (show M.1 12 1 ≤ nI k by rw [hn]; exact nI_le (by omega) (by omega)) h82
  | succ j ih =>
    intro k lo hk
    iterate 3 refine ev_go rfl ?_
    refine ev_if rfl (fun h82 => ?_) (fun h82 => ?_)
    · exact absurd h82 (by rw [hn]; exact nI_ge (by omega) (by omega))
    · iterate 4 refine ev_go rfl ?_
      refine ev_ok (nI_in (show k < 24 by omega) (by decide)) rfl ?_
      rw [nI_clamp (by omega)]
      refine ev_go rfl ?_
      refine ev_if rfl (fun h95 => ?_) (fun h95 => ?_)
      · iterate 8 refine ev_go rfl ?_
        refine ev_ok (nI_in (show k < 24 by omega) (by decide)) rfl ?_
        rw [nI_clamp (by omega)]
        refine ev_go rfl ?_
        refine ev_if rfl (fun h116 => ?_) (fun h116 => ?_)
        · iterate 6 refine ev_go rfl ?_
          refine ev_lo ?_ (ih (k + 1) lo (by omega))
          have ea : sm (aq_si M 1) (k + 1) = sm (aq_si M 1) k + aq_si M 1 k := rfl
          have eb : sm (aq_si M 2) (k + 1) = sm (aq_si M 2) k + aq_si M 2 k := rfl
          rw [nI_1, ea, eb]
          unfold aq_si
          have xx : ¬ (M.1 19 k = 1 ∧ M.1 19 k = 2) := fun q => absurd (q.1.symm.trans q.2) (by decide)
          first
            | (have yy := And.intro h95 h116
               exact absurd yy xx)
            | (first
                | rw [if_pos h95, if_neg h116]
                | rw [if_neg h95, if_pos h116]
                | rw [if_neg h95, if_neg h116]
               funext z
               by_cases z0 : z = 0
               · subst z0
                 first
                   | rfl
                   | simp [mj_up]
               by_cases z1 : z = 1
               · subst z1
                 first
                   | rfl
                   | simp [mj_up]
               by_cases z2 : z = 2
               · subst z2
                 first
                   | rfl
                   | simp [mj_up]
               by_cases z3 : z = 3
               · subst z3
                 first
                   | rfl
                   | simp [mj_up]
               by_cases z4 : z = 4
               · subst z4
                 first
                   | rfl
                   | simp [mj_up]
               by_cases z5 : z = 5
               · subst z5
                 first
                   | rfl
                   | simp [mj_up]
               by_cases z6 : z = 6
               · subst z6
                 first
                   | rfl
                   | simp [mj_up]
               first
                 | (simp [mj_up, z0, z1, z2, z3, z4, z5, z6]; done)
                 | (simp [mj_up, z0, z1, z2, z3, z4, z5, z6]; intro q; first | exact absurd q z0 | exact absurd q z1 | exact absurd q z2 | exact absurd q z3 | exact absurd q z4 | exact absurd q z5 | exact absurd q z6))
        · iterate 5 refine ev_go rfl ?_
          refine ev_lo ?_ (ih (k + 1) lo (by omega))
          have ea : sm (aq_si M 1) (k + 1) = sm (aq_si M 1) k + aq_si M 1 k := rfl
          have eb : sm (aq_si M 2) (k + 1) = sm (aq_si M 2) k + aq_si M 2 k := rfl
          rw [nI_1, ea, eb]
          unfold aq_si
          have xx : ¬ (M.1 19 k = 1 ∧ M.1 19 k = 2) := fun q => absurd (q.1.symm.trans q.2) (by decide)
          first
            | (have yy := And.intro h95 h116
               exact absurd yy xx)
            | (first
                | rw [if_pos h95, if_neg h116]
                | rw [if_neg h95, if_pos h116]
                | rw [if_neg h95, if_neg h116]
               funext z
               by_cases z0 : z = 0
               · subst z0
                 first
                   | rfl
                   | simp [mj_up]
               by_cases z1 : z = 1
               · subst z1
                 first
                   | rfl
                   | simp [mj_up]
               by_cases z2 : z = 2
               · subst z2
                 first
                   | rfl
                   | simp [mj_up]
               by_cases z3 : z = 3
               · subst z3
                 first
                   | rfl
                   | simp [mj_up]
               by_cases z4 : z = 4
               · subst z4
                 first
                   | rfl
                   | simp [mj_up]
               by_cases z5 : z = 5
               · subst z5
                 first
                   | rfl
                   | simp [mj_up]
               by_cases z6 : z = 6
               · subst z6
                 first
                   | rfl
                   | simp [mj_up]
               first
                 | (simp [mj_up, z0, z1, z2, z3, z4, z5, z6]; done)
                 | (simp [mj_up, z0, z1, z2, z3, z4, z5, z6]; intro q; first | exact absurd q z0 | exact absurd q z1 | exact absurd q z2 | exact absurd q z3 | exact absurd q z4 | exact absurd q z5 | exact absurd q z6))
      · iterate 7 refine ev_go rfl ?_
        refine ev_ok (nI_in (show k < 24 by omega) (by decide)) rfl ?_
        rw [nI_clamp (by omega)]
        refine ev_go rfl ?_
        refine ev_if rfl (fun h116 => ?_) (fun h116 => ?_)
        · iterate 6 refine ev_go rfl ?_
          refine ev_lo ?_ (ih (k + 1) lo (by omega))
          have ea : sm (aq_si M 1) (k + 1) = sm (aq_si M 1) k + aq_si M 1 k := rfl
          have eb : sm (aq_si M 2) (k + 1) = sm (aq_si M 2) k + aq_si M 2 k := rfl
          rw [nI_1, ea, eb]
          unfold aq_si
          have xx : ¬ (M.1 19 k = 1 ∧ M.1 19 k = 2) := fun q => absurd (q.1.symm.trans q.2) (by decide)
          first
            | (have yy := And.intro h95 h116
               exact absurd yy xx)
            | (first
                | rw [if_pos h95, if_neg h116]
                | rw [if_neg h95, if_pos h116]
                | rw [if_neg h95, if_neg h116]
               funext z
               by_cases z0 : z = 0
               · subst z0
                 first
                   | rfl
                   | simp [mj_up]
               by_cases z1 : z = 1
               · subst z1
                 first
                   | rfl
                   | simp [mj_up]
               by_cases z2 : z = 2
               · subst z2
                 first
                   | rfl
                   | simp [mj_up]
               by_cases z3 : z = 3
               · subst z3
                 first
                   | rfl
                   | simp [mj_up]
               by_cases z4 : z = 4
               · subst z4
                 first
                   | rfl
                   | simp [mj_up]
               by_cases z5 : z = 5
               · subst z5
                 first
                   | rfl
                   | simp [mj_up]
               by_cases z6 : z = 6
               · subst z6
                 first
                   | rfl
                   | simp [mj_up]
               first
                 | (simp [mj_up, z0, z1, z2, z3, z4, z5, z6]; done)
                 | (simp [mj_up, z0, z1, z2, z3, z4, z5, z6]; intro q; first | exact absurd q z0 | exact absurd q z1 | exact absurd q z2 | exact absurd q z3 | exact absurd q z4 | exact absurd q z5 | exact absurd q z6))
        · iterate 5 refine ev_go rfl ?_
          refine ev_lo ?_ (ih (k + 1) lo (by omega))
          have ea : sm (aq_si M 1) (k + 1) = sm (aq_si M 1) k + aq_si M 1 k := rfl
          have eb : sm (aq_si M 2) (k + 1) = sm (aq_si M 2) k + aq_si M 2 k := rfl
          rw [nI_1, ea, eb]
          unfold aq_si
          have xx : ¬ (M.1 19 k = 1 ∧ M.1 19 k = 2) := fun q => absurd (q.1.symm.trans q.2) (by decide)
          first
            | (have yy := And.intro h95 h116
               exact absurd yy xx)
            | (first
                | rw [if_pos h95, if_neg h116]
                | rw [if_neg h95, if_pos h116]
                | rw [if_neg h95, if_neg h116]
               funext z
               by_cases z0 : z = 0
               · subst z0
                 first
                   | rfl
                   | simp [mj_up]
               by_cases z1 : z = 1
               · subst z1
                 first
                   | rfl
                   | simp [mj_up]
               by_cases z2 : z = 2
               · subst z2
                 first
                   | rfl
                   | simp [mj_up]
               by_cases z3 : z = 3
               · subst z3
                 first
                   | rfl
                   | simp [mj_up]
               by_cases z4 : z = 4
               · subst z4
                 first
                   | rfl
                   | simp [mj_up]
               by_cases z5 : z = 5
               · subst z5
                 first
                   | rfl
                   | simp [mj_up]
               by_cases z6 : z = 6
               · subst z6
                 first
                   | rfl
                   | simp [mj_up]
               first
                 | (simp [mj_up, z0, z1, z2, z3, z4, z5, z6]; done)
                 | (simp [mj_up, z0, z1, z2, z3, z4, z5, z6]; intro q; first | exact absurd q z0 | exact absurd q z1 | exact absurd q z2 | exact absurd q z3 | exact absurd q z4 | exact absurd q z5 | exact absurd q z6))
theorem pm_count_s {w : Int32} {lo : mj_L} (hv : vs_A M) : mj_Ev mj_S0 X mj_P (d + 4) mt_M_count 133 (mj_up (mj_up (mj_up (mj_up (mj_up (mj_up (mj_up lo 0 (mv_p 12)) 1 (mv_i w)) 2 (mv_i (sm (aq_ab M) 60))) 3 (mv_i (sm (aq_so M) 60))) 4 (mv_i (sm (aq_si M 1) (aq_n M)))) 5 (mv_i (sm (aq_si M 2) (aq_n M)))) 6 (mv_i (nI (aq_n M)))) [] M 0 (mv_R (aq_cn M w) M) := by
  have hn := hv.1.1
  have hl := hv.1.2
  refine ev_go rfl ?_
  by_cases g0 : 0 ≤ w ∧ w ≤ 7
  · obtain ⟨j9, g1, g2⟩ := nI_of2 (n := 7) rfl (by grind) g0.2
    have g3 : j9 = 0 ∨ j9 = 1 ∨ j9 = 2 ∨ j9 = 3 ∨ j9 = 4 ∨ j9 = 5 ∨ j9 = 6 ∨ j9 = 7 := by omega
    rcases g3 with g3 | g3 | g3 | g3 | g3 | g3 | g3 | g3 <;> subst g3 <;> subst g2
    · refine ev_go rfl ?_
      iterate 2 refine ev_go rfl ?_
      refine ev_end rfl ?_
      rfl
    · refine ev_go rfl ?_
      refine ev_go rfl ?_
      refine ev_callr rfl rfl rfl (pm_differences hn hl) ?_
      refine ev_end rfl ?_
      rfl
    · refine ev_go rfl ?_
      refine ev_go rfl ?_
      refine ev_end rfl ?_
      rfl
    · refine ev_go rfl ?_
      refine ev_go rfl ?_
      refine ev_callr rfl rfl rfl (pm_howMany hv) ?_
      refine ev_end rfl ?_
      rfl
    · refine ev_go rfl ?_
      refine ev_go rfl ?_
      refine ev_end rfl ?_
      rfl
    · refine ev_go rfl ?_
      refine ev_go rfl ?_
      refine ev_end rfl ?_
      rfl
    · refine ev_go rfl ?_
      refine ev_go rfl ?_
      refine ev_end rfl ?_
      rfl
    · refine ev_go rfl ?_
      iterate 2 refine ev_go rfl ?_
      refine ev_end rfl ?_
      rfl
  · have g4 : w.toInt < 0 ∨ 7 < w.toInt := by
      have g5 : w < 0 ∨ 7 < w := by grind
      rcases g5 with g5 | g5
      · exact Or.inl (Int32.lt_iff_toInt_lt.mp g5)
      · exact Or.inr (Int32.lt_iff_toInt_lt.mp g5)
    refine ev_pos g4 rfl ?_
    refine ev_go rfl ?_
    refine ev_end rfl ?_
    show some (mv_R (-1) M) = some (mv_R (aq_cn M w) M)
    unfold aq_cn
    rw [if_neg (by grind), if_neg (by grind), if_neg (by grind), if_neg (by grind), if_neg (by grind), if_neg (by grind), if_neg (by grind), if_neg (by grind)]
theorem pm_count {w : Int32} (hv : vs_A M) : mj_C0 X (d + 4) mt_M_count [mv_p 12, mv_i w] M (mv_R (aq_cn (mj_st M 12 0 0) w) (mj_st M 12 0 0)) := by
  have hv' : vs_A (mj_st M 12 0 0) := (rm_vA rm_0).2 hv
  iterate 9 refine ev_go rfl ?_
  have key := pm_count_l1 (X := X) (d := d + 1) (M := mj_st M 12 0 0) (w := w) (r := mv_R (aq_cn (mj_st M 12 0 0) w) (mj_st M 12 0 0)) hv'.1.1 hv'.1.2 (fun lo => by
    iterate 6 refine ev_go rfl ?_
    refine ev_lo ?_ (pm_count_l2 (M := mj_st M 12 0 0) (w := w) hv'.1.1 hv'.1.2 (fun lo => pm_count_s hv') (aq_n (mj_st M 12 0 0)) 0 lo (by omega))
    funext z
    by_cases z0 : z = 0
    · subst z0
      first
        | rfl
        | simp [mj_up]
    by_cases z1 : z = 1
    · subst z1
      first
        | rfl
        | simp [mj_up]
    by_cases z2 : z = 2
    · subst z2
      first
        | rfl
        | simp [mj_up]
    by_cases z3 : z = 3
    · subst z3
      first
        | rfl
        | simp [mj_up]
    by_cases z4 : z = 4
    · subst z4
      first
        | rfl
        | simp [mj_up]
    by_cases z5 : z = 5
    · subst z5
      first
        | rfl
        | simp [mj_up]
    by_cases z6 : z = 6
    · subst z6
      first
        | rfl
        | simp [mj_up]
    first
      | (simp [mj_up, z0, z1, z2, z3, z4, z5, z6]; done)
      | (simp [mj_up, z0, z1, z2, z3, z4, z5, z6]; intro q; first | exact absurd q z0 | exact absurd q z1 | exact absurd q z2 | exact absurd q z3 | exact absurd q z4 | exact absurd q z5 | exact absurd q z6)) 60 0 (fun j => [mv_p 12, mv_i w][j]?) (by omega)
  refine ev_lo ?_ key
  funext z
  by_cases z0 : z = 0
  · subst z0
    first
      | rfl
      | simp [mj_up]
  by_cases z1 : z = 1
  · subst z1
    first
      | rfl
      | simp [mj_up]
  by_cases z2 : z = 2
  · subst z2
    first
      | rfl
      | simp [mj_up]
  by_cases z3 : z = 3
  · subst z3
    first
      | rfl
      | simp [mj_up]
  by_cases z4 : z = 4
  · subst z4
    first
      | rfl
      | simp [mj_up]
  first
    | (simp [mj_up, z0, z1, z2, z3, z4]; done)
    | (simp [mj_up, z0, z1, z2, z3, z4]; intro q; first | exact absurd q z0 | exact absurd q z1 | exact absurd q z2 | exact absurd q z3 | exact absurd q z4)
end
end
section
/-! the search: what is left over, in the reference -/
/-- the part of the state that a search leaves alone -/
def rb_ (A M : mj_M) : Prop := ∀ q j, ((13 ≤ q ∧ q ≤ 21) ∨ (q = 12 ∧ (j = 1 ∨ j = 10 ∨ j = 11))) → M.1 q j = A.1 q j
theorem rm_.rb {A M : mj_M} (h : rm_ A M) : rb_ A M := fun q j hk => h q j (by unfold aq_k; omega)
theorem rb_.refl (A : mj_M) : rb_ A A := fun _ _ _ => rfl
theorem rb_.trans {A M N : mj_M} (h : rb_ A M) (h' : rb_ M N) : rb_ A N := fun q j hk => (h' q j hk).trans (h q j hk)
theorem rb_.q {A M : mj_M} (h : rb_ A M) {q j : Nat} (h1 : 13 ≤ q) (h2 : q ≤ 21) : M.1 q j = A.1 q j := h q j (Or.inl ⟨h1, h2⟩)
theorem rb_.s {A M : mj_M} (h : rb_ A M) {j : Nat} (h1 : j = 1 ∨ j = 10 ∨ j = 11) : M.1 12 j = A.1 12 j := h 12 j (Or.inr ⟨rfl, h1⟩)
section
variable {A M : mj_M}
theorem rb_n (h : rb_ A M) : aq_n M = aq_n A := by unfold aq_n; rw [h.s (by decide)]
theorem rb_ad (h : rb_ A M) (a : Nat) (c : Int32) : aq_ad M a c = aq_ad A a c := by
  unfold aq_ad
  simp only [h.q (show 13 ≤ 13 by decide) (by decide), h.q (show 13 ≤ 14 by decide) (by decide), h.q (show 13 ≤ 15 by decide) (by decide), h.q (show 13 ≤ 16 by decide) (by decide), h.q (show 13 ≤ 17 by decide) (by decide)]
theorem rb_tm (h : rb_ A M) (a : Nat) : aq_tm M a = aq_tm A a := by
  unfold aq_tm
  rw [h.q (by decide) (by decide)]
theorem rb_E (h : rb_ A M) : aq_E M = aq_E A := by
  funext c
  unfold aq_E aq_ex
  rw [rb_n h]
  exact sm_congr (fun a _ => by simp only [rb_tm h, rb_ad h])
theorem rb_df (h : rb_ A M) (L : Nat → Int32) (c : Nat) : aq_df M L c = aq_df A L c := by
  unfold aq_df
  rw [h.q (by decide) (by decide)]
theorem rb_w (h : rb_ A M) (L : Nat → Int32) : aq_w M L = aq_w A L := by
  funext c
  unfold aq_w
  rw [rb_df h]
theorem rb_nd (h : rb_ A M) (L : Nat → Int32) : aq_nd M L = aq_nd A L := by
  unfold aq_nd
  rw [rb_w h]
theorem rb_c1 (h : rb_ A M) (a : Nat) : aq_c1 M a = aq_c1 A a := by
  unfold aq_c1
  rw [h.q (show 13 ≤ 14 by decide) (by decide), h.q (show 13 ≤ 16 by decide) (by decide)]
theorem rb_c2 (h : rb_ A M) (a : Nat) : aq_c2 M a = aq_c2 A a := by
  unfold aq_c2
  rw [h.q (show 13 ≤ 15 by decide) (by decide), h.q (show 13 ≤ 16 by decide) (by decide)]
theorem rb_ca (h : rb_ A M) (a : Nat) : aq_ca M a = aq_ca A a := by
  unfold aq_ca
  rw [rb_c1 h, rb_c2 h, h.s (show 10 = 1 ∨ 10 = 10 ∨ 10 = 11 by decide), h.s (show 11 = 1 ∨ 11 = 10 ∨ 11 = 11 by decide)]
  simp only [h.q (show 13 ≤ 13 by decide) (by decide), h.q (show 13 ≤ 18 by decide) (by decide), h.q (show 13 ≤ 19 by decide) (by decide), h.q (show 13 ≤ 20 by decide) (by decide), h.q (show 13 ≤ 21 by decide) (by decide)]
theorem rb_rw (h : rb_ A M) (a : Nat) : vs_rw M a ↔ vs_rw A a := by
  unfold vs_rw
  simp only [h.q (show 13 ≤ 13 by decide) (by decide), h.q (show 13 ≤ 14 by decide) (by decide), h.q (show 13 ≤ 15 by decide) (by decide), h.q (show 13 ≤ 16 by decide) (by decide), h.q (show 13 ≤ 17 by decide) (by decide), h.q (show 13 ≤ 18 by decide) (by decide)]
end
/-- the reference's differences where L is expected -/
def rl_ (A : mj_M) (L : Nat → Int32) (M : mj_M) : Prop := (∀ c, c < 60 → M.1 24 c = aq_df A L c) ∧ M.1 12 20 = aq_nd A L
def fs_ (M M' : mj_M) : Prop := M'.2 = M.2 ∧ ∀ q j, ¬ (q = 24 ∨ (q = 12 ∧ j = 20)) → M'.1 q j = M.1 q j
theorem fs_.refl (M : mj_M) : fs_ M M := ⟨rfl, fun _ _ _ => rfl⟩
theorem fs_.trans {M M' M'' : mj_M} (h : fs_ M M') (h' : fs_ M' M'') : fs_ M M'' := ⟨h'.1.trans h.1, fun q j hq => (h'.2 q j hq).trans (h.2 q j hq)⟩
theorem fs_.st {M M' : mj_M} (h : fs_ M M') {q j : Nat} {x : Int32} (h1 : q = 24 ∨ (q = 12 ∧ j = 20)) : fs_ M (mj_st M' q j x) := ⟨h.1, fun q' j' hq => by rw [pm_st1 (by omega)]; exact h.2 q' j' hq⟩
theorem fs_.rb {A M M' : mj_M} (h : fs_ M M') (hb : rb_ A M) : rb_ A M' := fun q j hk => by rw [h.2 q j (by omega)]; exact hb q j hk
theorem fs_.rm {A M M' : mj_M} (h : fs_ M M') (hb : rm_ A M) : rm_ A M' := fun q j hk => by rw [h.2 q j (by unfold aq_k at hk; omega)]; exact hb q j hk
theorem fs_.fm {M M' : mj_M} (h : fs_ M M') : fm_ M M' := ⟨h.1, fun q j hq => h.2 q j (by omega)⟩
theorem aq_nd_c {A : mj_M} {L L' : Nat → Int32} (h : ∀ c, c < 60 → L c = L' c) : aq_nd A L = aq_nd A L' := sm_congr (fun c hc => by unfold aq_w aq_df; rw [h c hc])
theorem rl_.congr {A M : mj_M} {L L' : Nat → Int32} (h : rl_ A L M) (e : ∀ c, c < 60 → L c = L' c) : rl_ A L' M := ⟨fun c hc => by rw [h.1 c hc]; unfold aq_df; rw [e c hc], by rw [h.2, aq_nd_c e]⟩
def aq_sb (L : Nat → Int32) (c : Nat) (v : Int32) : Nat → Int32 := fun z => if z = c then L z - v else L z
def pm_ad1 (M : mj_M) (c : Nat) : mj_M := if M.1 24 c = 0 then M else mj_st M 12 20 (M.1 12 20 - 1)
def pm_ad2 (M : mj_M) (c : Nat) (v : Int32) : mj_M := mj_st (pm_ad1 M c) 24 c (M.1 24 c + v)
def pm_ad (M : mj_M) (c : Nat) (v : Int32) : mj_M := if M.1 21 c < 0 then M else if M.1 24 c + v = 0 then pm_ad2 M c v else mj_st (pm_ad2 M c v) 12 20 ((pm_ad2 M c v).1 12 20 + 1)
theorem aq_nd_one {A : mj_M} {L : Nat → Int32} {c : Nat} {v : Int32} (hc : c < 60) : aq_nd A (aq_sb L c v) = aq_nd A L + (aq_w A (aq_sb L c v) c - aq_w A L c) := by
  have h := sm_one (f := aq_w A L) (g := aq_w A (aq_sb L c v)) (c := c) (fun k hk => by unfold aq_w aq_df aq_sb; rw [if_neg hk]) 60
  rw [if_pos hc] at h
  exact h
theorem fs_ad (M : mj_M) (c : Nat) (v : Int32) : fs_ M (pm_ad M c v) := by
  unfold pm_ad pm_ad2 pm_ad1
  split
  · exact fs_.refl M
  · split
    · split
      · exact (fs_.refl M).st (by omega)
      · exact ((fs_.refl M).st (by omega)).st (by omega)
    · split
      · exact ((fs_.refl M).st (by omega)).st (by omega)
      · exact (((fs_.refl M).st (by omega)).st (by omega)).st (by omega)
theorem rl_ad {A M : mj_M} {L : Nat → Int32} {c : Nat} {v : Int32} (hc : c < 60) (hb : rb_ A M) (h : rl_ A L M) : rl_ A (aq_sb L c v) (pm_ad M c v) := by
  have e21 : M.1 21 c = A.1 21 c := hb.q (by decide) (by decide)
  obtain ⟨h1, h2⟩ := h
  have hn := aq_nd_one (A := A) (L := L) (c := c) (v := v) hc
  by_cases hz : A.1 21 c < 0
  · have e0 : pm_ad M c v = M := by unfold pm_ad; rw [e21, if_pos hz]
    rw [e0]
    have ew : ∀ L' : Nat → Int32, aq_df A L' c = 0 := fun L' => by unfold aq_df; rw [if_pos hz]
    refine ⟨fun z hz' => ?_, ?_⟩
    · rw [h1 z hz']
      by_cases hzc : z = c
      · subst hzc
        rw [ew, ew]
      · unfold aq_df aq_sb
        rw [if_neg hzc]
    · rw [hn, h2]
      unfold aq_w
      rw [ew, ew]
      grind
  · have d1 : M.1 24 c = A.1 21 c - L c := by rw [h1 c hc]; unfold aq_df; rw [if_neg hz]
    have dd : aq_df A (aq_sb L c v) c = M.1 24 c + v := by
      unfold aq_df aq_sb
      rw [if_neg hz, if_pos rfl, d1]
      grind
    have dl : aq_df A L c = M.1 24 c := (h1 c hc).symm
    have p24 : ∀ z, (pm_ad M c v).1 24 z = if z = c then M.1 24 c + v else M.1 24 z := by
      intro z
      have k2 : (pm_ad2 M c v).1 24 z = if z = c then M.1 24 c + v else M.1 24 z := by
        unfold pm_ad2
        by_cases hzc : z = c
        · subst hzc
          rw [pm_st0, if_pos rfl]
        · rw [pm_st1 (Or.inr hzc), if_neg hzc]
          unfold pm_ad1
          split
          · rfl
          · rw [pm_st1 (by omega)]
      unfold pm_ad
      rw [e21, if_neg hz]
      split
      · exact k2
      · rw [pm_st1 (by omega)]
        exact k2
    have p20 : (pm_ad M c v).1 12 20 = M.1 12 20 + ((if M.1 24 c + v = 0 then 0 else 1) - (if M.1 24 c = 0 then 0 else 1)) := by
      have k2 : (pm_ad2 M c v).1 12 20 = M.1 12 20 - (if M.1 24 c = 0 then 0 else 1) := by
        unfold pm_ad2 pm_ad1
        rw [pm_st1 (by omega)]
        split
        · grind
        · rw [pm_st0]
      unfold pm_ad
      rw [e21, if_neg hz]
      by_cases hv : M.1 24 c + v = 0
      · rw [if_pos hv, if_pos hv, k2]
        grind
      · rw [if_neg hv, if_neg hv, pm_st0, k2]
        grind
    refine ⟨fun z hz' => ?_, ?_⟩
    · rw [p24]
      by_cases hzc : z = c
      · subst hzc
        rw [if_pos rfl, dd]
      · rw [if_neg hzc, h1 z hz']
        unfold aq_df aq_sb
        rw [if_neg hzc]
    · rw [p20, hn, h2]
      unfold aq_w
      rw [dd, dl]
section
variable {X : Nat × (Nat → Int32)} {d : Nat} {M A : mj_M} {L : Nat → Int32}
theorem pm_add {c : Nat} {v : Int32} (hc : c < 60) : mj_C0 X d mt_M_add [mv_p 12, mv_i (nI c), mv_i v] M (mv_V (pm_ad M c v)) := by
  have h1 : mj_in (nI c) 60 := nI_in hc (by decide)
  have h2 : (nI c).toNatClampNeg = c := nI_clamp (by omega)
  iterate 3 refine ev_go rfl ?_
  refine ev_ok h1 rfl ?_
  rw [h2]
  refine ev_if rfl (fun h6 => ?_) (fun h6 => ?_)
  · iterate 3 refine ev_go rfl ?_
    refine ev_ok h1 rfl ?_
    rw [h2]
    refine ev_if rfl (fun h16 => ?_) (fun h16 => ?_)
    · iterate 6 refine ev_go rfl ?_
      refine ev_ok h1 rfl ?_
      rw [h2]
      iterate 2 refine ev_go rfl ?_
      refine ev_ok h1 rfl ?_
      rw [h2]
      iterate 3 refine ev_go rfl ?_
      refine ev_ok h1 rfl ?_
      rw [h2]
      refine ev_if rfl (fun h49 => ?_) (fun h49 => ?_)
      · refine ev_end rfl ?_
        show some (mv_V _) = some (mv_V _)
        unfold pm_ad pm_ad2 pm_ad1
        have g6 : ¬ M.1 21 c < 0 := by grind
        first
          | (have g16 : M.1 24 c = 0 := h16
             have g49 : M.1 24 c + v = 0 := by
               have q := h49
               simp only [pm_st0] at q
               exact q
             rw [if_neg g6, if_pos g49, if_pos g16])
          | (have g16 : M.1 24 c = 0 := h16
             have g49 : ¬ M.1 24 c + v = 0 := by
               have q := h49
               simp only [pm_st0] at q
               exact q
             rw [if_neg g6, if_neg g49, if_pos g16])
          | (have g16 : ¬ M.1 24 c = 0 := h16
             have g49 : M.1 24 c + v = 0 := by
               have q := h49
               simp only [pm_st0] at q
               exact q
             rw [if_neg g6, if_pos g49, if_neg g16]
             rfl)
          | (have g16 : ¬ M.1 24 c = 0 := h16
             have g49 : ¬ M.1 24 c + v = 0 := by
               have q := h49
               simp only [pm_st0] at q
               exact q
             rw [if_neg g6, if_neg g49, if_neg g16]
             rfl)
      · iterate 6 refine ev_go rfl ?_
        refine ev_end rfl ?_
        show some (mv_V _) = some (mv_V _)
        unfold pm_ad pm_ad2 pm_ad1
        have g6 : ¬ M.1 21 c < 0 := by grind
        first
          | (have g16 : M.1 24 c = 0 := h16
             have g49 : M.1 24 c + v = 0 := by
               have q := h49
               simp only [pm_st0] at q
               exact q
             rw [if_neg g6, if_pos g49, if_pos g16])
          | (have g16 : M.1 24 c = 0 := h16
             have g49 : ¬ M.1 24 c + v = 0 := by
               have q := h49
               simp only [pm_st0] at q
               exact q
             rw [if_neg g6, if_neg g49, if_pos g16])
          | (have g16 : ¬ M.1 24 c = 0 := h16
             have g49 : M.1 24 c + v = 0 := by
               have q := h49
               simp only [pm_st0] at q
               exact q
             rw [if_neg g6, if_pos g49, if_neg g16]
             rfl)
          | (have g16 : ¬ M.1 24 c = 0 := h16
             have g49 : ¬ M.1 24 c + v = 0 := by
               have q := h49
               simp only [pm_st0] at q
               exact q
             rw [if_neg g6, if_neg g49, if_neg g16]
             rfl)
    · iterate 12 refine ev_go rfl ?_
      refine ev_ok h1 rfl ?_
      rw [h2]
      iterate 2 refine ev_go rfl ?_
      refine ev_ok h1 rfl ?_
      rw [h2]
      iterate 3 refine ev_go rfl ?_
      refine ev_ok h1 rfl ?_
      rw [h2]
      refine ev_if rfl (fun h49 => ?_) (fun h49 => ?_)
      · refine ev_end rfl ?_
        show some (mv_V _) = some (mv_V _)
        unfold pm_ad pm_ad2 pm_ad1
        have g6 : ¬ M.1 21 c < 0 := by grind
        first
          | (have g16 : M.1 24 c = 0 := h16
             have g49 : M.1 24 c + v = 0 := by
               have q := h49
               simp only [pm_st0] at q
               exact q
             rw [if_neg g6, if_pos g49, if_pos g16])
          | (have g16 : M.1 24 c = 0 := h16
             have g49 : ¬ M.1 24 c + v = 0 := by
               have q := h49
               simp only [pm_st0] at q
               exact q
             rw [if_neg g6, if_neg g49, if_pos g16])
          | (have g16 : ¬ M.1 24 c = 0 := h16
             have g49 : M.1 24 c + v = 0 := by
               have q := h49
               simp only [pm_st0] at q
               exact q
             rw [if_neg g6, if_pos g49, if_neg g16]
             rfl)
          | (have g16 : ¬ M.1 24 c = 0 := h16
             have g49 : ¬ M.1 24 c + v = 0 := by
               have q := h49
               simp only [pm_st0] at q
               exact q
             rw [if_neg g6, if_neg g49, if_neg g16]
             rfl)
      · iterate 6 refine ev_go rfl ?_
        refine ev_end rfl ?_
        show some (mv_V _) = some (mv_V _)
        unfold pm_ad pm_ad2 pm_ad1
        have g6 : ¬ M.1 21 c < 0 := by grind
        first
          | (have g16 : M.1 24 c = 0 := h16
             have g49 : M.1 24 c + v = 0 := by
               have q := h49
               simp only [pm_st0] at q
               exact q
             rw [if_neg g6, if_pos g49, if_pos g16])
          | (have g16 : M.1 24 c = 0 := h16
             have g49 : ¬ M.1 24 c + v = 0 := by
               have q := h49
               simp only [pm_st0] at q
               exact q
             rw [if_neg g6, if_neg g49, if_pos g16])
          | (have g16 : ¬ M.1 24 c = 0 := h16
             have g49 : M.1 24 c + v = 0 := by
               have q := h49
               simp only [pm_st0] at q
               exact q
             rw [if_neg g6, if_pos g49, if_neg g16]
             rfl)
          | (have g16 : ¬ M.1 24 c = 0 := h16
             have g49 : ¬ M.1 24 c + v = 0 := by
               have q := h49
               simp only [pm_st0] at q
               exact q
             rw [if_neg g6, if_neg g49, if_neg g16]
             rfl)
  · refine ev_end rfl ?_
    show some (mv_V _) = some (mv_V _)
    unfold pm_ad
    rw [if_pos (show M.1 21 c < 0 by grind)]
theorem aq_ad0 {a z : Nat} (hr : vs_rw A a) (hz : z < 60) (h1 : z ≠ aq_c1 A a) (h2 : A.1 13 a = 2 → z ≠ aq_c2 A a) : aq_ad A a (nI z) = 0 := by
  unfold aq_ad
  have l1 := hr.c1.2
  rw [hr.c1.1, if_neg, if_neg]
  · rw [nI_eq (by omega) (by omega)]
    exact h1
  · rintro ⟨h3, h4⟩
    have l2 := (hr.c2 h3).2.1
    rw [(hr.c2 h3).1, nI_eq (by omega) (by omega)] at h4
    exact h2 h3 h4
theorem pm_apply_t {a : Nat} {x : mj_V} {s b : Int32} (ha : a < 24) (hr : vs_rw A a) (hb : rb_ A M) (h : rl_ A L M) : ∃ M', mj_Ev mj_S0 X mj_P (d + 1) mt_M_apply 20 (mj_up (fun j => [mv_p 12, x, mv_i s][j]?) 3 (mv_i (nI a))) [mv_i b] M 0 (mv_V M') ∧ rl_ A (fun z => L z - b * s * aq_ad A a (nI z)) M' ∧ fs_ M M' := by
  have h1 : mj_in (nI a) 24 := nI_in ha (by decide)
  have h2 : (nI a).toNatClampNeg = a := nI_clamp (by omega)
  have hrM : vs_rw M a := (rb_rw hb a).2 hr
  obtain ⟨e1, l1⟩ := hrM.c1
  rw [rb_c1 hb] at e1 l1
  have r1 := rl_ad (v := b * s * aq_ad A a (nI (aq_c1 A a))) l1 hb h
  have f1 := fs_ad M (aq_c1 A a) (b * s * aq_ad A a (nI (aq_c1 A a)))
  by_cases hk : A.1 13 a = 2
  · obtain ⟨e2, l2, n2⟩ := hrM.c2 (by rw [hb.q (by decide) (by decide)]; exact hk)
    rw [rb_c2 hb] at e2 l2 n2
    rw [rb_c1 hb] at n2
    refine ⟨pm_ad (pm_ad M (aq_c1 A a) (b * s * aq_ad A a (nI (aq_c1 A a)))) (aq_c2 A a) (b * s * aq_ad A a (nI (aq_c2 A a))), ?_, ?_, f1.trans (fs_ad _ _ _)⟩
    · iterate 7 refine ev_go rfl ?_
      refine ev_ok h1 rfl ?_
      rw [h2]
      iterate 4 refine ev_go rfl ?_
      refine ev_ok h1 rfl ?_
      refine ev_go rfl ?_
      rw [h2]
      show mj_Ev _ _ _ _ _ _ _ [mv_i (6 * M.1 14 a + M.1 16 a)] _ _ _
      rw [e1]
      iterate 7 refine ev_go rfl ?_
      refine ev_callr rfl rfl rfl (pm_adds ha) ?_
      rw [rb_ad hb]
      refine ev_go rfl ?_
      refine ev_callv rfl rfl rfl (pm_add l1) ?_
      iterate 3 refine ev_go rfl ?_
      refine ev_ok h1 rfl ?_
      rw [h2]
      rw [f1.2 13 a (by omega), hb.q (by decide) (by decide)]
      refine ev_go rfl ?_
      refine ev_if rfl (fun h65 => ?_) (fun h65 => ?_)
      · iterate 4 refine ev_go rfl ?_
        refine ev_ok h1 rfl ?_
        rw [h2]
        rw [f1.2 15 a (by omega)]
        iterate 4 refine ev_go rfl ?_
        refine ev_ok h1 rfl ?_
        refine ev_go rfl ?_
        rw [h2]
        rw [f1.2 16 a (by omega)]
        show mj_Ev _ _ _ _ _ _ _ [mv_i (6 * M.1 15 a + M.1 16 a)] _ _ _
        rw [e2]
        iterate 7 refine ev_go rfl ?_
        refine ev_callr rfl rfl rfl (pm_adds ha) ?_
        rw [rb_ad (f1.rb hb)]
        refine ev_go rfl ?_
        refine ev_callv rfl rfl rfl (pm_add l2) ?_
        first
          | exact absurd hk h65
          | (refine ev_end rfl ?_
             rfl)
      · first
          | exact absurd hk h65
          | (refine ev_end rfl ?_
             rfl)
    · refine (rl_ad l2 (f1.rb hb) r1).congr (fun z hz => ?_)
      unfold aq_sb
      by_cases z1 : z = aq_c1 A a
      · rw [if_neg (by omega), if_pos z1, z1]
      · rw [if_neg z1]
        by_cases z2 : z = aq_c2 A a
        · rw [if_pos z2, z2]
        · rw [if_neg z2, aq_ad0 hr hz z1 (fun _ => z2)]
          grind
  · refine ⟨pm_ad M (aq_c1 A a) (b * s * aq_ad A a (nI (aq_c1 A a))), ?_, ?_, f1⟩
    · iterate 7 refine ev_go rfl ?_
      refine ev_ok h1 rfl ?_
      rw [h2]
      iterate 4 refine ev_go rfl ?_
      refine ev_ok h1 rfl ?_
      refine ev_go rfl ?_
      rw [h2]
      show mj_Ev _ _ _ _ _ _ _ [mv_i (6 * M.1 14 a + M.1 16 a)] _ _ _
      rw [e1]
      iterate 7 refine ev_go rfl ?_
      refine ev_callr rfl rfl rfl (pm_adds ha) ?_
      rw [rb_ad hb]
      refine ev_go rfl ?_
      refine ev_callv rfl rfl rfl (pm_add l1) ?_
      iterate 3 refine ev_go rfl ?_
      refine ev_ok h1 rfl ?_
      rw [h2]
      rw [f1.2 13 a (by omega), hb.q (by decide) (by decide)]
      refine ev_go rfl ?_
      refine ev_if rfl (fun h65 => ?_) (fun h65 => ?_)
      · exact absurd h65 hk
      · refine ev_end rfl ?_
        rfl
    · refine r1.congr (fun z hz => ?_)
      unfold aq_sb
      by_cases z1 : z = aq_c1 A a
      · rw [if_pos z1, z1]
      · rw [if_neg z1, aq_ad0 hr hz z1 (fun q => absurd q hk)]
        grind
/-- 1 for an act left out, -1 for one done twice -/
def aq_sg (x : Nat) : Int32 := if x % 2 = 0 then 1 else -1
theorem pm_apply {x a : Nat} {s : Int32} (hx : x < 48) (hc : M.1 25 (x / 2) = nI a) (ha : a < 24) (hr : vs_rw A a) (hb : rb_ A M) (h : rl_ A L M) : ∃ M', mj_C0 X (d + 1) mt_M_apply [mv_p 12, mv_i (nI x), mv_i s] M (mv_V M') ∧ rl_ A (fun z => L z - aq_sg x * s * aq_ad A a (nI z)) M' ∧ fs_ M M' := by
  obtain ⟨M', e, r, f⟩ := pm_apply_t (X := X) (d := d) (x := mv_i (nI x)) (s := s) (b := aq_sg x) ha hr hb h
  refine ⟨M', ?_, r, f⟩
  have e1 : nI x / 2 = nI (x / 2) := pk_div (d := 2) (by omega) (by decide) (by decide)
  have e2 : nI x - nI x / 2 * 2 = nI (x % 2) := pk_rem (d := 2) (by omega) (by decide) (by decide)
  have i1 : mj_in (nI (x / 2)) 24 := nI_in (by omega) (by decide)
  iterate 5 refine ev_go rfl ?_
  show mj_Ev _ _ _ _ _ _ _ [mv_i (nI x / 2), _] _ _ _
  rw [e1]
  refine ev_ok i1 rfl ?_
  rw [nI_clamp (by omega), hc]
  iterate 4 refine ev_go rfl ?_
  show mj_Ev _ _ _ _ _ _ _ [mv_i (nI x - nI x / 2 * 2)] _ _ _
  rw [e2]
  refine ev_if rfl (fun h12 => ?_) (fun h12 => ?_)
  · have z9 : x % 2 = 0 := by
      rcases Nat.mod_two_eq_zero_or_one x with q | q
      · exact q
      · exact absurd h12 (by rw [q]; decide)
    unfold aq_sg at e
    rw [if_pos z9] at e
    iterate 2 refine ev_go rfl ?_
    exact e
  · have z9 : ¬ x % 2 = 0 := fun q => h12 (by rw [q]; rfl)
    unfold aq_sg at e
    rw [if_neg z9] at e
    refine ev_go rfl ?_
    exact e
end
end
section
/-! the search, told once for the class and for the reference -/
def upN (x : Nat → Nat) (n c : Nat) : Nat → Nat := fun i => if i = n then c else x i
/-- what is expected once the first n changes are made -/
def aq_L (A : mj_M) (cs x : Nat → Nat) : Nat → Nat → Int32
  | 0 => aq_E A
  | n + 1 => fun z => aq_L A cs x n z - aq_sg (x n) * aq_ad A (cs (x n / 2)) (nI z)
theorem aq_L_c {A : mj_M} {cs x y : Nat → Nat} : ∀ {n : Nat}, (∀ i, i < n → x i = y i) → aq_L A cs x n = aq_L A cs y n
  | 0, _ => rfl
  | n + 1, h => by
    show (fun z => aq_L A cs x n z - aq_sg (x n) * aq_ad A (cs (x n / 2)) (nI z)) = _
    rw [aq_L_c (fun i hi => h i (by omega)), h n (by omega)]
    rfl
/-- an explanation is written down -/
def nt_ (cs x : Nat → Nat) (s : mj_M) : Nat → mj_M
  | 0 => s
  | k + 1 => if s.1 12 15 = 1 then mj_st (mj_st (nt_ cs x s k) 22 (cs (x k / 2)) ((nt_ cs x s k).1 22 (cs (x k / 2)) + 1)) 23 k (2 * nI (cs (x k / 2)) + nI (x k % 2)) else mj_st (nt_ cs x s k) 22 (cs (x k / 2)) ((nt_ cs x s k).1 22 (cs (x k / 2)) + 1)
def nq_ (cs x : Nat → Nat) (n : Nat) (s : mj_M) : mj_M := if s.1 12 15 = 1 then mj_st (nt_ cs x s n) 12 17 (nI n) else nt_ cs x s n
def no_ (cs x : Nat → Nat) (n : Nat) (s : mj_M) : mj_M := nq_ cs x n (mj_st s 12 15 (s.1 12 15 + 1))
theorem nt_pos {cs x : Nat → Nat} {s : mj_M} {k : Nat} (h : s.1 12 15 = 1) : nt_ cs x s (k + 1) = mj_st (mj_st (nt_ cs x s k) 22 (cs (x k / 2)) ((nt_ cs x s k).1 22 (cs (x k / 2)) + 1)) 23 k (2 * nI (cs (x k / 2)) + nI (x k % 2)) := if_pos h
theorem nt_neg {cs x : Nat → Nat} {s : mj_M} {k : Nat} (h : ¬ s.1 12 15 = 1) : nt_ cs x s (k + 1) = mj_st (nt_ cs x s k) 22 (cs (x k / 2)) ((nt_ cs x s k).1 22 (cs (x k / 2)) + 1) := if_neg h
theorem nt_q {cs x : Nat → Nat} {s : mj_M} {q : Nat} (h1 : q ≠ 22) (h2 : q ≠ 23) (j : Nat) : ∀ k, (nt_ cs x s k).1 q j = s.1 q j
  | 0 => rfl
  | k + 1 => by
    unfold nt_
    split
    · rw [pm_st1 (Or.inl h2), pm_st1 (Or.inl h1)]
      exact nt_q h1 h2 j k
    · rw [pm_st1 (Or.inl h1)]
      exact nt_q h1 h2 j k
theorem nt_2 {cs x : Nat → Nat} {s : mj_M} : ∀ k, (nt_ cs x s k).2 = s.2
  | 0 => rfl
  | k + 1 => by
    unfold nt_
    split
    · rw [pm_st2, pm_st2]
      exact nt_2 k
    · rw [pm_st2]
      exact nt_2 k
theorem nt_rm {cs x : Nat → Nat} {s M : mj_M} (h : rm_ s M) : ∀ k, rm_ (nt_ cs x s k) (nt_ cs x M k)
  | 0 => h
  | k + 1 => by
    have ih := nt_rm (cs := cs) (x := x) h k
    have e1 : M.1 12 15 = s.1 12 15 := h.s (by decide)
    have e2 : (nt_ cs x M k).1 22 (cs (x k / 2)) = (nt_ cs x s k).1 22 (cs (x k / 2)) := ih.q (by decide) (by decide)
    unfold nt_
    rw [e1, e2]
    split
    · exact (ih.st _ _ _).st _ _ _
    · exact ih.st _ _ _
theorem no_rm {cs x : Nat → Nat} {n : Nat} {s M : mj_M} (h : rm_ s M) : rm_ (no_ cs x n s) (no_ cs x n M) := by
  have e1 : M.1 12 15 = s.1 12 15 := h.s (by decide)
  unfold no_ nq_
  rw [pm_st0, pm_st0, e1]
  have h2 := nt_rm (cs := cs) (x := x) (h.st 12 15 (s.1 12 15 + 1)) n
  split
  · exact h2.st _ _ _
  · exact h2
theorem nq_q {cs x : Nat → Nat} {n : Nat} {s : mj_M} {q : Nat} (h1 : q ≠ 22) (h2 : q ≠ 23) {j : Nat} (h3 : q ≠ 12 ∨ j ≠ 17) : (nq_ cs x n s).1 q j = s.1 q j := by
  unfold nq_
  split
  · rw [pm_st1 h3]
    exact nt_q h1 h2 j n
  · exact nt_q h1 h2 j n
theorem no_q {cs x : Nat → Nat} {n : Nat} {s : mj_M} {q : Nat} (h1 : q ≠ 22) (h2 : q ≠ 23) {j : Nat} (h3 : q ≠ 12 ∨ (j ≠ 17 ∧ j ≠ 15)) : (no_ cs x n s).1 q j = s.1 q j := by
  unfold no_
  rw [nq_q h1 h2 (by omega), pm_st1 (by omega)]
theorem no_2 {cs x : Nat → Nat} {n : Nat} {s : mj_M} : (no_ cs x n s).2 = s.2 := by
  unfold no_ nq_
  split
  · rw [pm_st2, nt_2, pm_st2]
  · rw [nt_2, pm_st2]
/-- the codes from m2 - j on are tried at place n; false: the steps have run out -/
def se_l (rec : (Nat → Nat) → mj_M → Bool × mj_M) (lim : Int32) (m2 n : Nat) : Nat → (Nat → Nat) → mj_M → Bool × mj_M
  | 0, _, s => (true, s)
  | j + 1, x, s => if s.1 12 14 = lim then (false, s) else (match rec (upN x n (m2 - (j + 1))) (mj_st s 12 14 (s.1 12 14 + 1)) with
    | (true, s') => se_l rec lim m2 n j x s'
    | (false, s') => (false, s'))
def se_ (A : mj_M) (cs : Nat → Nat) (lim : Int32) (m2 : Nat) : Nat → Nat → Nat → (Nat → Nat) → mj_M → Bool × mj_M
  | 0, n, _, x, s => (true, if aq_nd A (aq_L A cs x n) = 0 then no_ cs x n s else s)
  | r + 1, n, c0, x, s => se_l (fun x' s' => se_ A cs lim m2 r (n + 1) ((x' n / 2 + 1) * 2) x' s') lim m2 n (m2 - c0) x s
/-- what the search keeps -/
theorem se_l_keep {P : mj_M → Prop} {rec : (Nat → Nat) → mj_M → Bool × mj_M} {lim : Int32} {m2 n : Nat} (hs : ∀ s, P s → P (mj_st s 12 14 (s.1 12 14 + 1))) (hr : ∀ x s, P s → P (rec x s).2) : ∀ j x s, P s → P (se_l rec lim m2 n j x s).2
  | 0, _, _, h => h
  | j + 1, x, s, h => by
    unfold se_l
    split
    · exact h
    · have h2 := hr (upN x n (m2 - (j + 1))) _ (hs s h)
      split
      · rename_i s' e
        rw [e] at h2
        exact se_l_keep hs hr j x s' h2
      · rename_i s' e
        rw [e] at h2
        exact h2
theorem se_keep {P : mj_M → Prop} {A : mj_M} {cs : Nat → Nat} {lim : Int32} {m2 : Nat} (hs : ∀ s, P s → P (mj_st s 12 14 (s.1 12 14 + 1))) (hn : ∀ x n s, P s → P (no_ cs x n s)) : ∀ r n c0 x s, P s → P (se_ A cs lim m2 r n c0 x s).2
  | 0, n, c0, x, s, h => by
    show P (if aq_nd A (aq_L A cs x n) = 0 then no_ cs x n s else s)
    split
    · exact hn x n s h
    · exact h
  | r + 1, n, c0, x, s, h => se_l_keep hs (fun x' s' h' => se_keep hs hn r (n + 1) _ x' s' h') _ x s h
theorem rb_.st {A M : mj_M} (h : rb_ A M) {q j : Nat} {x : Int32} (hk : ¬ ((13 ≤ q ∧ q ≤ 21) ∨ (q = 12 ∧ (j = 1 ∨ j = 10 ∨ j = 11)))) : rb_ A (mj_st M q j x) := by
  intro q' j' hk'
  have h2 : q' ≠ q ∨ j' ≠ j := by
    by_cases h1 : q' = q ∧ j' = j
    · obtain ⟨h1, h2⟩ := h1
      subst h1 h2
      exact absurd hk' hk
    · omega
  rw [pm_st1 h2]
  exact h q' j' hk'
theorem no_rb {A : mj_M} {cs x : Nat → Nat} {n : Nat} {s : mj_M} (h : rb_ A s) : rb_ A (no_ cs x n s) := fun q j hk => by rw [no_q (by omega) (by omega) (by omega)]; exact h q j hk
theorem se_rb {A : mj_M} {cs : Nat → Nat} {lim : Int32} {m2 : Nat} {r n c0 : Nat} {x : Nat → Nat} {s : mj_M} (h : rb_ A s) : rb_ A (se_ A cs lim m2 r n c0 x s).2 := se_keep (P := fun s => rb_ A s) (fun _ h => h.st (by omega)) (fun _ _ _ h => no_rb h) r n c0 x s h
section
variable {X : Nat × (Nat → Int32)} {d : Nat} {M A : mj_M} {L : Nat → Int32}
theorem pm_foundOne_l {cs x : Nat → Nat} {n m : Nat} (hn : n ≤ 4) (hm : m ≤ 24) (hc : ∀ i, i < m → M.1 25 i = nI (cs i) ∧ cs i < 24) (hx : ∀ i, i < n → M.1 26 i = nI (x i) ∧ x i < 2 * m) : ∀ j k lo, k + j = n → mj_Ev mj_S0 X mj_P d mt_M_foundOne 12 (mj_up (mj_up (mj_up lo 0 (mv_p 12)) 1 (mv_i (nI n))) 2 (mv_i (nI k))) [] (nt_ cs x M k) 0 (mv_V (nq_ cs x n M)) := by
  have e15 : ∀ k, (nt_ cs x M k).1 12 15 = M.1 12 15 := fun k => nt_q (by decide) (by decide) 15 k
  intro j
  induction j with
  | zero =>
    intro k lo hk
    iterate 2 refine ev_go rfl ?_
    refine ev_if rfl (fun h14 => ?_) (fun h14 => ?_)
    · iterate 3 refine ev_go rfl ?_
      refine ev_if rfl (fun h82 => ?_) (fun h82 => ?_)
      · iterate 3 refine ev_go rfl ?_
        refine ev_end rfl ?_
        show some (mv_V _) = some (mv_V _)
        unfold nq_
        rw [show k = n by omega] at h82 ⊢
        rw [e15] at h82
        first
          | rw [if_pos h82]
          | rw [if_neg h82]
      · refine ev_end rfl ?_
        show some (mv_V _) = some (mv_V _)
        unfold nq_
        rw [show k = n by omega] at h82 ⊢
        rw [e15] at h82
        first
          | rw [if_pos h82]
          | rw [if_neg h82]
    · exact absurd (nI_le (show n ≤ k by omega) (by omega)) h14
  | succ j ih =>
    intro k lo hk
    have hk2 : x k / 2 < m := by have := (hx k (by omega)).2; omega
    have a1 := (hc _ hk2).2
    have e1 : nI (x k) / 2 = nI (x k / 2) := pk_div (d := 2) (by omega) (by decide) (by decide)
    have e2 : nI (x k) - nI (x k) / 2 * 2 = nI (x k % 2) := pk_rem (d := 2) (by omega) (by decide) (by decide)
    have s26 : ∀ (s : mj_M), s = nt_ cs x M k → s.1 26 k = nI (x k) := fun s hs => by rw [hs, nt_q (by decide) (by decide)]; exact (hx k (by omega)).1
    have s25 : (nt_ cs x M k).1 25 (x k / 2) = nI (cs (x k / 2)) := by rw [nt_q (by decide) (by decide)]; exact (hc _ hk2).1
    iterate 2 refine ev_go rfl ?_
    refine ev_if rfl (fun h14 => ?_) (fun h14 => ?_)
    · exact absurd h14 (nI_ge (by omega) (by omega))
    · iterate 5 refine ev_go rfl ?_
      refine ev_ok (nI_in (show k < 5 by omega) (by decide)) rfl ?_
      rw [nI_clamp (by omega), s26 _ rfl]
      iterate 2 refine ev_go rfl ?_
      show mj_Ev _ _ _ _ _ _ _ [mv_i (nI (x k) / 2), _] _ _ _
      rw [e1]
      refine ev_ok (nI_in (show x k / 2 < 24 by omega) (by decide)) rfl ?_
      rw [nI_clamp (by omega), s25]
      iterate 7 refine ev_go rfl ?_
      refine ev_ok (nI_in a1 (by decide)) rfl ?_
      rw [nI_clamp (by omega)]
      iterate 2 refine ev_go rfl ?_
      refine ev_ok (nI_in a1 (by decide)) rfl ?_
      rw [nI_clamp (by omega)]
      iterate 3 refine ev_go rfl ?_
      refine ev_if rfl (fun h50 => ?_) (fun h50 => ?_)
      · iterate 9 refine ev_go rfl ?_
        refine ev_ok (nI_in (show k < 5 by omega) (by decide)) rfl ?_
        rw [nI_clamp (by omega)]
        rw [show (mj_st (nt_ cs x M k) 22 (cs (x k / 2)) ((fun x y => x + y) ((nt_ cs x M k).1 22 (cs (x k / 2))) 1)).1 26 k = nI (x k) from s26 (nt_ cs x M k) rfl]
        iterate 3 refine ev_go rfl ?_
        show mj_Ev _ _ _ _ _ _ _ [mv_i (2 * nI (cs (x k / 2)) + (nI (x k) - nI (x k) / 2 * 2)), _, _] _ _ _
        rw [e2]
        refine ev_ok (nI_in (show k < 4 by omega) (by decide)) rfl ?_
        try rw [nI_clamp (show k < 2 ^ 31 by omega)]
        iterate 2 refine ev_go rfl ?_
        first
          | (have k50 : M.1 12 15 = 1 := by rw [← e15 k]; exact h50
             refine ev_lo ?_ (nt_pos (cs := cs) (x := x) (k := k) k50 ▸ ih (k + 1) (mj_up lo 3 (mv_i (nI (cs (x k / 2))))) (by omega)))
          | (have k50 : ¬ M.1 12 15 = 1 := by rw [← e15 k]; exact h50
             refine ev_lo ?_ (nt_neg (cs := cs) (x := x) (k := k) k50 ▸ ih (k + 1) (mj_up lo 3 (mv_i (nI (cs (x k / 2))))) (by omega)))
        rw [nI_1]
        funext z
        by_cases z0 : z = 0
        · subst z0
          first
            | rfl
            | simp [mj_up]
        by_cases z1 : z = 1
        · subst z1
          first
            | rfl
            | simp [mj_up]
        by_cases z2 : z = 2
        · subst z2
          first
            | rfl
            | simp [mj_up]
        by_cases z3 : z = 3
        · subst z3
          first
            | rfl
            | simp [mj_up]
        first
          | (simp [mj_up, z0, z1, z2, z3]; done)
          | (simp [mj_up, z0, z1, z2, z3]; intro q; first | exact absurd q z0 | exact absurd q z1 | exact absurd q z2 | exact absurd q z3)
      · try rw [nI_clamp (show k < 2 ^ 31 by omega)]
        iterate 2 refine ev_go rfl ?_
        first
          | (have k50 : M.1 12 15 = 1 := by rw [← e15 k]; exact h50
             refine ev_lo ?_ (nt_pos (cs := cs) (x := x) (k := k) k50 ▸ ih (k + 1) (mj_up lo 3 (mv_i (nI (cs (x k / 2))))) (by omega)))
          | (have k50 : ¬ M.1 12 15 = 1 := by rw [← e15 k]; exact h50
             refine ev_lo ?_ (nt_neg (cs := cs) (x := x) (k := k) k50 ▸ ih (k + 1) (mj_up lo 3 (mv_i (nI (cs (x k / 2))))) (by omega)))
        rw [nI_1]
        funext z
        by_cases z0 : z = 0
        · subst z0
          first
            | rfl
            | simp [mj_up]
        by_cases z1 : z = 1
        · subst z1
          first
            | rfl
            | simp [mj_up]
        by_cases z2 : z = 2
        · subst z2
          first
            | rfl
            | simp [mj_up]
        by_cases z3 : z = 3
        · subst z3
          first
            | rfl
            | simp [mj_up]
        first
          | (simp [mj_up, z0, z1, z2, z3]; done)
          | (simp [mj_up, z0, z1, z2, z3]; intro q; first | exact absurd q z0 | exact absurd q z1 | exact absurd q z2 | exact absurd q z3)
theorem pm_foundOne {cs x : Nat → Nat} {n m : Nat} (hn : n ≤ 4) (hm : m ≤ 24) (hc : ∀ i, i < m → M.1 25 i = nI (cs i) ∧ cs i < 24) (hx : ∀ i, i < n → M.1 26 i = nI (x i) ∧ x i < 2 * m) : mj_C0 X d mt_M_foundOne [mv_p 12, mv_i (nI n)] M (mv_V (no_ cs x n M)) := by
  have key := pm_foundOne_l (X := X) (d := d) (M := mj_st M 12 15 (M.1 12 15 + 1)) (cs := cs) (x := x) hn hm hc hx n 0 (fun j => [mv_p 12, mv_i (nI n)][j]?) (by omega)
  iterate 8 refine ev_go rfl ?_
  refine ev_lo ?_ key
  funext z
  by_cases z0 : z = 0
  · subst z0
    first
      | rfl
      | simp [mj_up]
  by_cases z1 : z = 1
  · subst z1
    first
      | rfl
      | simp [mj_up]
  by_cases z2 : z = 2
  · subst z2
    first
      | rfl
      | simp [mj_up]
  first
    | (simp [mj_up, z0, z1, z2]; done)
    | (simp [mj_up, z0, z1, z2]; intro q; first | exact absurd q z0 | exact absurd q z1 | exact absurd q z2)
end
end
section
/-! the reference goes through the sets of one size -/
def fz_ (M M' : mj_M) : Prop := fm_ M M' ∧ M'.1 12 0 = M.1 12 0
theorem fz_.refl (M : mj_M) : fz_ M M := ⟨fm_.refl M, rfl⟩
theorem fz_.trans {M M' M'' : mj_M} (h : fz_ M M') (h' : fz_ M' M'') : fz_ M M'' := ⟨h.1.trans h'.1, h'.2.trans h.2⟩
theorem fz_.st {M M' : mj_M} (h : fz_ M M') {q j : Nat} {x : Int32} (h1 : 12 ≤ q ∧ (q ≠ 12 ∨ j ≠ 0)) (h2 : q < 28) : fz_ M (mj_st M' q j x) := ⟨h.1.st h1.1 h2, by rw [pm_st1 (by omega)]; exact h.2⟩
theorem fs_.fz {M M' : mj_M} (h : fs_ M M') : fz_ M M' := ⟨h.fm, h.2 12 0 (by omega)⟩
def gs_ (A : mj_M) (cs : Nat → Nat) (m : Nat) (x : Nat → Nat) (n : Nat) (M : mj_M) : Prop := rl_ A (aq_L A cs x n) M ∧ M.1 12 21 = nI m ∧ (∀ i, i < m → M.1 25 i = nI (cs i)) ∧ (∀ i, i < n → (M.1 26 i = nI (x i) ∧ x i < 2 * m) ∧ M.1 27 i = 1)
theorem gs_.st {A M : mj_M} {cs x : Nat → Nat} {m n q j : Nat} {v : Int32} (h : gs_ A cs m x n M) (h1 : q ≠ 24 ∧ q ≠ 25 ∧ ((q ≠ 26 ∧ q ≠ 27) ∨ n ≤ j) ∧ (q ≠ 12 ∨ (j ≠ 20 ∧ j ≠ 21))) : gs_ A cs m x n (mj_st M q j v) := by
  obtain ⟨⟨a1, a2⟩, a3, a4, a5⟩ := h
  refine ⟨⟨fun c hc => ?_, ?_⟩, ?_, fun i hi => ?_, fun i hi => ⟨⟨?_, (a5 i hi).1.2⟩, ?_⟩⟩
  · rw [pm_st1 (by omega)]; exact a1 c hc
  · rw [pm_st1 (by omega)]; exact a2
  · rw [pm_st1 (by omega)]; exact a3
  · rw [pm_st1 (by omega)]; exact a4 i hi
  · rw [pm_st1 (by omega)]; exact (a5 i hi).1.1
  · rw [pm_st1 (by omega)]; exact (a5 i hi).2
theorem gs_.fs {A M M' : mj_M} {cs x : Nat → Nat} {m n n' : Nat} (h : gs_ A cs m x n M) (f : fs_ M M') (hn : n' ≤ n) (hr : rl_ A (aq_L A cs x n') M') : gs_ A cs m x n' M' := by
  obtain ⟨-, a3, a4, a5⟩ := h
  refine ⟨hr, ?_, fun i hi => ?_, fun i hi => ⟨⟨?_, (a5 i (by omega)).1.2⟩, ?_⟩⟩
  · rw [f.2 _ _ (by omega)]; exact a3
  · rw [f.2 _ _ (by omega)]; exact a4 i hi
  · rw [f.2 _ _ (by omega)]; exact (a5 i (by omega)).1.1
  · rw [f.2 _ _ (by omega)]; exact (a5 i (by omega)).2
theorem gs_.cx {A M : mj_M} {cs x y : Nat → Nat} {m n : Nat} (h : gs_ A cs m x n M) (e : ∀ i, i < n → x i = y i) : gs_ A cs m y n M := by
  obtain ⟨a1, a3, a4, a5⟩ := h
  refine ⟨?_, a3, a4, fun i hi => ?_⟩
  · rw [← aq_L_c e]; exact a1
  · rw [← e i hi]; exact a5 i hi
theorem upN_s {x : Nat → Nat} {n c : Nat} : upN x n c n = c := if_pos rfl
theorem upN_n {x : Nat → Nat} {n c i : Nat} (h : i ≠ n) : upN x n c i = x i := if_neg h
section
variable {X : Nat × (Nat → Int32)} {d : Nat} {M A s : mj_M} {cs x : Nat → Nat} {m n c size : Nat} {lim : Int32}
theorem gt_lim (hn : n < 4) (hm : m ≤ 24) (hc : c < 2 * m) (h : gs_ A cs m x n M) (h2 : M.1 26 n = nI c - 1) (hs : rm_ s M) (hl : s.1 12 14 = lim) : ∃ M', rm_ s M' ∧ fz_ M M' ∧ mj_Ev mj_S0 X mj_P (d + 2) mt_M_goThrough 40 (mj_up (fun j => [mv_p 12, mv_i (nI size), mv_i lim][j]?) 3 (mv_i (nI n))) [] M 0 (mv_R 0 M') := by
  have i5 : mj_in (nI n) 5 := nI_in (by omega) (by decide)
  have j5 : (nI n).toNatClampNeg = n := nI_clamp (by omega)
  refine ⟨mj_st (mj_st M 27 n 0) 26 n (nI c), (hs.sr (by unfold aq_k; omega)).sr (by unfold aq_k; omega), ((fz_.refl M).st (by omega) (by omega)).st (by omega) (by omega), ?_⟩
  iterate 4 refine ev_go rfl ?_
  refine ev_ok ⟨i5, Or.inl rfl⟩ rfl ?_
  rw [j5]
  iterate 6 refine ev_go rfl ?_
  refine ev_ok i5 rfl ?_
  rw [j5]
  iterate 2 refine ev_go rfl ?_
  show mj_Ev _ _ _ _ _ _ _ [mv_i (M.1 26 n + 1), _, _] _ _ _
  rw [h2, Int32.sub_add_cancel]
  refine ev_ok i5 rfl ?_
  rw [j5]
  iterate 3 refine ev_go rfl ?_
  refine ev_ok i5 rfl ?_
  rw [j5, pm_st0]
  iterate 4 refine ev_go rfl ?_
  show mj_Ev _ _ _ _ _ _ _ [mv_i (2 * M.1 12 21), _] _ _ _
  rw [h.2.1, show (2 : Int32) = nI 2 from rfl, pk_mul]
  refine ev_if rfl (fun h73 => ?_) (fun h73 => ?_)
  · iterate 3 refine ev_go rfl ?_
    refine ev_if rfl (fun h87 => ?_) (fun h87 => ?_)
    · refine ev_go rfl ?_
      refine ev_end rfl ?_
      rfl
    · exact absurd (show M.1 12 14 = lim by rw [hs.s (by decide)]; exact hl) h87
  · exact absurd (nI_lt hc (by omega)) h73
theorem gt_end (hn : n < 4) (hm : m ≤ 24) (h : gs_ A cs m x n M) (h2 : M.1 26 n = nI (2 * m) - 1) (hs : rm_ s M) : ∃ M', gs_ A cs m x n M' ∧ rm_ s M' ∧ fz_ M M' ∧ ∀ R, mj_Ev mj_S0 X mj_P (d + 2) mt_M_goThrough 16 (mj_up (fun j => [mv_p 12, mv_i (nI size), mv_i lim][j]?) 3 (mv_i (nI n + -1))) [] M' 0 R → mj_Ev mj_S0 X mj_P (d + 2) mt_M_goThrough 40 (mj_up (fun j => [mv_p 12, mv_i (nI size), mv_i lim][j]?) 3 (mv_i (nI n))) [] M 0 R := by
  have i5 : mj_in (nI n) 5 := nI_in (by omega) (by decide)
  have j5 : (nI n).toNatClampNeg = n := nI_clamp (by omega)
  refine ⟨mj_st (mj_st M 27 n 0) 26 n (nI (2 * m)), (h.st (by omega)).st (by omega), (hs.sr (by unfold aq_k; omega)).sr (by unfold aq_k; omega), ((fz_.refl M).st (by omega) (by omega)).st (by omega) (by omega), fun R hR => ?_⟩
  iterate 4 refine ev_go rfl ?_
  refine ev_ok ⟨i5, Or.inl rfl⟩ rfl ?_
  rw [j5]
  iterate 6 refine ev_go rfl ?_
  refine ev_ok i5 rfl ?_
  rw [j5]
  iterate 2 refine ev_go rfl ?_
  show mj_Ev _ _ _ _ _ _ _ [mv_i (M.1 26 n + 1), _, _] _ _ _
  rw [h2, Int32.sub_add_cancel]
  refine ev_ok i5 rfl ?_
  rw [j5]
  iterate 3 refine ev_go rfl ?_
  refine ev_ok i5 rfl ?_
  rw [j5, pm_st0]
  iterate 4 refine ev_go rfl ?_
  show mj_Ev _ _ _ _ _ _ _ [mv_i (2 * M.1 12 21), _] _ _ _
  rw [h.2.1, show (2 : Int32) = nI 2 from rfl, pk_mul]
  refine ev_if rfl (fun h73 => ?_) (fun h73 => ?_)
  · exact absurd h73 (nI_nlt (Nat.le_refl _) (by omega))
  · iterate 2 refine ev_go rfl ?_
    refine ev_lo ?_ hR
    exact mj_upo
theorem gt_step (hn : n < 4) (hm : m ≤ 24) (hcs : ∀ i, i < m → cs i < 24 ∧ vs_rw A (cs i)) (hc : c < 2 * m) (h : gs_ A cs m x n M) (h2 : M.1 26 n = nI c - 1) (hs : rm_ s M) (hb : rb_ A s) (hl : ¬ s.1 12 14 = lim) : ∃ M', gs_ A cs m (upN x n c) (n + 1) M' ∧ rm_ (mj_st s 12 14 (s.1 12 14 + 1)) M' ∧ fz_ M M' ∧ ∀ R, mj_Ev mj_S0 X mj_P (d + 2) mt_M_goThrough 120 (mj_up (fun j => [mv_p 12, mv_i (nI size), mv_i lim][j]?) 3 (mv_i (nI n))) [] M' 0 R → mj_Ev mj_S0 X mj_P (d + 2) mt_M_goThrough 40 (mj_up (fun j => [mv_p 12, mv_i (nI size), mv_i lim][j]?) 3 (mv_i (nI n))) [] M 0 R := by
  have i5 : mj_in (nI n) 5 := nI_in (by omega) (by decide)
  have j5 : (nI n).toNatClampNeg = n := nI_clamp (by omega)
  have e14 : M.1 12 14 = s.1 12 14 := hs.s (by decide)
  have gB : gs_ A cs m x n (mj_st (mj_st (mj_st M 27 n 0) 26 n (nI c)) 12 14 (s.1 12 14 + 1)) := ((h.st (by omega)).st (by omega)).st (by omega)
  have sB : rm_ (mj_st s 12 14 (s.1 12 14 + 1)) (mj_st (mj_st (mj_st M 27 n 0) 26 n (nI c)) 12 14 (s.1 12 14 + 1)) := ((hs.sr (by unfold aq_k; omega)).sr (by unfold aq_k; omega)).st _ _ _
  have fB : fz_ M (mj_st (mj_st (mj_st M 27 n 0) 26 n (nI c)) 12 14 (s.1 12 14 + 1)) := (((fz_.refl M).st (by omega) (by omega)).st (by omega) (by omega)).st (by omega) (by omega)
  have bB : rb_ A (mj_st (mj_st (mj_st M 27 n 0) 26 n (nI c)) 12 14 (s.1 12 14 + 1)) := (hb.st (by omega)).trans sB.rb
  have e26 : (mj_st (mj_st (mj_st M 27 n 0) 26 n (nI c)) 12 14 (s.1 12 14 + 1)).1 26 n = nI c := by rw [pm_st1 (by omega), pm_st0]
  obtain ⟨c1, c2⟩ := hcs (c / 2) (by omega)
  obtain ⟨Md, ev, rd, fd⟩ := pm_apply (X := X) (d := d) (x := c) (a := cs (c / 2)) (s := 1) (by omega) (gB.2.2.1 _ (by omega)) c1 c2 bB gB.1
  refine ⟨mj_st Md 27 n 1, ⟨⟨fun z hz => ?_, ?_⟩, ?_, fun i hi => ?_, fun i hi => ?_⟩, (fd.rm sB).sr (by unfold aq_k; omega), (fB.trans fd.fz).st (by omega) (by omega), fun R hR => ?_⟩
  · rw [pm_st1 (by omega), rd.1 z hz]
    unfold aq_df
    show (if A.1 21 z < 0 then 0 else A.1 21 z - (aq_L A cs x n z - aq_sg c * 1 * aq_ad A (cs (c / 2)) (nI z))) = (if A.1 21 z < 0 then 0 else A.1 21 z - (aq_L A cs (upN x n c) n z - aq_sg (upN x n c n) * aq_ad A (cs (upN x n c n / 2)) (nI z)))
    rw [upN_s, aq_L_c (x := upN x n c) (y := x) (fun i hi => upN_n (by omega)), Int32.mul_one]
  · rw [pm_st1 (by omega), rd.2]
    refine aq_nd_c (fun z _ => ?_)
    show aq_L A cs x n z - aq_sg c * 1 * aq_ad A (cs (c / 2)) (nI z) = aq_L A cs (upN x n c) n z - aq_sg (upN x n c n) * aq_ad A (cs (upN x n c n / 2)) (nI z)
    rw [upN_s, aq_L_c (x := upN x n c) (y := x) (fun i hi => upN_n (by omega)), Int32.mul_one]
  · rw [pm_st1 (by omega), fd.2 _ _ (by omega)]
    exact gB.2.1
  · rw [pm_st1 (by omega), fd.2 _ _ (by omega)]
    exact gB.2.2.1 i hi
  · by_cases hin : i = n
    · subst hin
      rw [upN_s, pm_st0, pm_st1 (by omega), fd.2 _ _ (by omega)]
      exact ⟨⟨e26, hc⟩, rfl⟩
    · rw [upN_n hin, pm_st1 (by omega), pm_st1 (by omega), fd.2 _ _ (by omega), fd.2 _ _ (by omega)]
      exact gB.2.2.2 i (by omega)
  · iterate 4 refine ev_go rfl ?_
    refine ev_ok ⟨i5, Or.inl rfl⟩ rfl ?_
    rw [j5]
    iterate 6 refine ev_go rfl ?_
    refine ev_ok i5 rfl ?_
    rw [j5]
    iterate 2 refine ev_go rfl ?_
    show mj_Ev _ _ _ _ _ _ _ [mv_i (M.1 26 n + 1), _, _] _ _ _
    rw [h2, Int32.sub_add_cancel]
    refine ev_ok i5 rfl ?_
    rw [j5]
    iterate 3 refine ev_go rfl ?_
    refine ev_ok i5 rfl ?_
    rw [j5, pm_st0]
    iterate 4 refine ev_go rfl ?_
    show mj_Ev _ _ _ _ _ _ _ [mv_i (2 * M.1 12 21), _] _ _ _
    rw [h.2.1, show (2 : Int32) = nI 2 from rfl, pk_mul]
    refine ev_if rfl (fun h73 => ?_) (fun h73 => ?_)
    · iterate 3 refine ev_go rfl ?_
      rw [show (mj_st (mj_st M 27 n 0) 26 n (nI c)).1 12 14 = s.1 12 14 from e14]
      refine ev_if rfl (fun h87 => ?_) (fun h87 => ?_)
      · exact absurd h87 hl
      · iterate 5 refine ev_go rfl ?_
        show mj_Ev _ _ _ _ _ _ _ [mv_i (M.1 12 14 + 1), _] _ _ _
        rw [e14]
        iterate 5 refine ev_go rfl ?_
        refine ev_ok i5 rfl ?_
        rw [j5, e26]
        refine ev_go rfl ?_
        refine ev_callv rfl rfl rfl ev ?_
        iterate 4 refine ev_go rfl ?_
        refine ev_ok ⟨i5, Or.inr rfl⟩ rfl ?_
        rw [j5]
        exact hR
    · exact absurd (nI_lt hc (by omega)) h73
theorem gt_undo (hn : n < 4) (hm : m ≤ 24) (hcs : ∀ i, i < m → cs i < 24 ∧ vs_rw A (cs i)) (h : gs_ A cs m (upN x n c) (n + 1) M) (hb : rb_ A M) : ∃ M', gs_ A cs m x n M' ∧ M'.1 26 n = nI c ∧ fs_ M M' ∧ ∀ R, mj_Ev mj_S0 X mj_P (d + 2) mt_M_goThrough 40 (mj_up (fun j => [mv_p 12, mv_i (nI size), mv_i lim][j]?) 3 (mv_i (nI n))) [] M' 0 R → mj_Ev mj_S0 X mj_P (d + 2) mt_M_goThrough 16 (mj_up (fun j => [mv_p 12, mv_i (nI size), mv_i lim][j]?) 3 (mv_i (nI n))) [] M 0 R := by
  have i5 : mj_in (nI n) 5 := nI_in (by omega) (by decide)
  have j5 : (nI n).toNatClampNeg = n := nI_clamp (by omega)
  obtain ⟨⟨e26, lc⟩, e27⟩ := h.2.2.2 n (by omega)
  rw [upN_s] at e26 lc
  obtain ⟨c1, c2⟩ := hcs (c / 2) (by omega)
  obtain ⟨Md, ev, rd, fd⟩ := pm_apply (X := X) (d := d) (x := c) (a := cs (c / 2)) (s := -1) (by omega) (h.2.2.1 _ (by omega)) c1 c2 hb h.1
  refine ⟨Md, (h.fs fd (by omega) ?_).cx (fun i hi => upN_n (by omega)), by rw [fd.2 _ _ (by omega)]; exact e26, fd, fun R hR => ?_⟩
  · refine rd.congr (fun z _ => ?_)
    show aq_L A cs (upN x n c) n z - aq_sg (upN x n c n) * aq_ad A (cs (upN x n c n / 2)) (nI z) - aq_sg c * -1 * aq_ad A (cs (c / 2)) (nI z) = aq_L A cs (upN x n c) n z
    rw [upN_s]
    grind
  · refine ev_go rfl ?_
    refine ev_if rfl (fun h17 => ?_) (fun h17 => ?_)
    · exact absurd h17 (nI_pos (by omega))
    · iterate 3 refine ev_go rfl ?_
      refine ev_ok i5 rfl ?_
      rw [j5, e27]
      iterate 5 refine ev_go rfl ?_
      refine ev_ok i5 rfl ?_
      rw [j5, e26]
      refine ev_go rfl ?_
      refine ev_callv rfl rfl rfl ev ?_
      exact hR
theorem gt_down (hn : n + 1 < size) (hz : size ≤ 4) (hm : m ≤ 24) (h : gs_ A cs m (upN x n c) (n + 1) M) (hs : rm_ s M) : ∃ M', gs_ A cs m (upN x n c) (n + 1) M' ∧ M'.1 26 (n + 1) = nI ((c / 2 + 1) * 2) - 1 ∧ rm_ s M' ∧ fz_ M M' ∧ ∀ R, mj_Ev mj_S0 X mj_P (d + 2) mt_M_goThrough 40 (mj_up (fun j => [mv_p 12, mv_i (nI size), mv_i lim][j]?) 3 (mv_i (nI (n + 1)))) [] M' 0 R → mj_Ev mj_S0 X mj_P (d + 2) mt_M_goThrough 120 (mj_up (fun j => [mv_p 12, mv_i (nI size), mv_i lim][j]?) 3 (mv_i (nI n))) [] M 0 R := by
  have i5 : mj_in (nI (n + 1)) 5 := nI_in (by omega) (by decide)
  have j5 : (nI (n + 1)).toNatClampNeg = n + 1 := nI_clamp (by omega)
  have i4 : mj_in (nI n) 5 := nI_in (by omega) (by decide)
  have j4 : (nI n).toNatClampNeg = n := nI_clamp (by omega)
  obtain ⟨⟨e26, lc⟩, e27⟩ := h.2.2.2 n (by omega)
  rw [upN_s] at e26 lc
  have ev : nI c / 2 * 2 + 1 = nI (c / 2 * 2 + 1) := by
    rw [show (2 : Int32) = nI 2 from rfl, pk_div (by omega) (by decide) (by decide), pk_mul, nI_1]
  refine ⟨mj_st (mj_st M 27 (n + 1) 0) 26 (n + 1) (nI (c / 2 * 2 + 1)), (h.st (by omega)).st (by omega), ?_, (hs.sr (by unfold aq_k; omega)).sr (by unfold aq_k; omega), ((fz_.refl M).st (by omega) (by omega)).st (by omega) (by omega), fun R hR => ?_⟩
  · rw [pm_st0, show (c / 2 + 1) * 2 = (c / 2 * 2 + 1) + 1 by omega, nI_pred]
  · iterate 4 refine ev_go rfl ?_
    show mj_Ev _ _ _ _ _ _ _ [_, mv_i (nI n + 1)] _ _ _
    rw [nI_1]
    refine ev_if rfl (fun h124 => ?_) (fun h124 => ?_)
    · exact absurd h124 (nI_ge (by omega) (by omega))
    · refine ev_go rfl ?_
      rw [nI_1]
      iterate 4 refine ev_go rfl ?_
      refine ev_ok ⟨i5, Or.inl rfl⟩ rfl ?_
      rw [j5]
      iterate 8 refine ev_go rfl ?_
      show mj_Ev _ _ _ _ _ _ _ [mv_i (nI (n + 1) - 1), _, _, _] _ _ _
      rw [nI_pred]
      refine ev_ok i4 rfl ?_
      rw [j4, show (mj_st M 27 (n + 1) 0).1 26 n = nI c from e26]
      iterate 6 refine ev_go rfl ?_
      show mj_Ev _ _ _ _ _ _ _ [mv_i (nI c / 2 * 2 + 1), _, _] _ _ _
      rw [ev]
      refine ev_ok i5 rfl ?_
      rw [j5]
      iterate 2 refine ev_go rfl ?_
      refine ev_if rfl (fun h17 => ?_) (fun h17 => ?_)
      · exact absurd h17 (nI_pos (by omega))
      · iterate 3 refine ev_go rfl ?_
        refine ev_ok i5 rfl ?_
        rw [j5, pm_st1 (by omega), pm_st0]
        refine ev_go rfl ?_
        rw [mj_upo]
        exact hR
theorem gt_leaf (hn : n + 1 = size) (hz : size ≤ 4) (hm : m ≤ 24) (hcs : ∀ i, i < m → cs i < 24 ∧ vs_rw A (cs i)) (h : gs_ A cs m x (n + 1) M) (hs : rm_ s M) : ∃ M', gs_ A cs m x (n + 1) M' ∧ rm_ (if aq_nd A (aq_L A cs x (n + 1)) = 0 then no_ cs x (n + 1) s else s) M' ∧ fz_ M M' ∧ ∀ R, mj_Ev mj_S0 X mj_P (d + 2) mt_M_goThrough 16 (mj_up (fun j => [mv_p 12, mv_i (nI size), mv_i lim][j]?) 3 (mv_i (nI n))) [] M' 0 R → mj_Ev mj_S0 X mj_P (d + 2) mt_M_goThrough 120 (mj_up (fun j => [mv_p 12, mv_i (nI size), mv_i lim][j]?) 3 (mv_i (nI n))) [] M 0 R := by
  subst hn
  have e20 := h.1.2
  by_cases hw : aq_nd A (aq_L A cs x (n + 1)) = 0
  · refine ⟨no_ cs x (n + 1) M, ?_, ?_, ?_, fun R hR => ?_⟩
    · obtain ⟨⟨a1, a2⟩, a3, a4, a5⟩ := h
      refine ⟨⟨fun z hz => ?_, ?_⟩, ?_, fun i hi => ?_, fun i hi => ⟨⟨?_, (a5 i hi).1.2⟩, ?_⟩⟩
      · rw [no_q (by omega) (by omega) (by omega)]; exact a1 z hz
      · rw [no_q (by omega) (by omega) (by omega)]; exact a2
      · rw [no_q (by omega) (by omega) (by omega)]; exact a3
      · rw [no_q (by omega) (by omega) (by omega)]; exact a4 i hi
      · rw [no_q (by omega) (by omega) (by omega)]; exact (a5 i hi).1.1
      · rw [no_q (by omega) (by omega) (by omega)]; exact (a5 i hi).2
    · rw [if_pos hw]
      exact no_rm hs
    · exact ⟨⟨no_2, fun q j hq => no_q (by omega) (by omega) (by omega)⟩, no_q (by omega) (by omega) (by omega)⟩
    · iterate 4 refine ev_go rfl ?_
      show mj_Ev _ _ _ _ _ _ _ [_, mv_i (nI n + 1)] _ _ _
      rw [nI_1]
      refine ev_if rfl (fun h124 => ?_) (fun h124 => ?_)
      · iterate 2 refine ev_go rfl ?_
        refine ev_if rfl (fun h164 => ?_) (fun h164 => ?_)
        · iterate 2 refine ev_go rfl ?_
          refine ev_callv rfl rfl rfl (pm_foundOne (cs := cs) (x := x) (m := m) (by omega) hm (fun i hi => ⟨h.2.2.1 i hi, (hcs i hi).1⟩) (fun i hi => (h.2.2.2 i hi).1)) ?_
          refine ev_go rfl ?_
          first
            | exact absurd (e20.trans hw) h164
            | exact hR
        · first
            | exact absurd (e20.trans hw) h164
            | exact hR
      · exact absurd (Int32.le_refl _) h124
  · refine ⟨M, h, by rw [if_neg hw]; exact hs, fz_.refl M, fun R hR => ?_⟩
    iterate 4 refine ev_go rfl ?_
    show mj_Ev _ _ _ _ _ _ _ [_, mv_i (nI n + 1)] _ _ _
    rw [nI_1]
    refine ev_if rfl (fun h124 => ?_) (fun h124 => ?_)
    · iterate 2 refine ev_go rfl ?_
      refine ev_if rfl (fun h164 => ?_) (fun h164 => ?_)
      · exact absurd (e20.symm.trans h164) hw
      · exact hR
    · exact absurd (Int32.le_refl _) h124
end
end
section
/-! the reference goes through the sets of one size: all of it -/
section
variable {X : Nat × (Nat → Int32)} {d : Nat} {M A s : mj_M} {cs x : Nat → Nat} {m n c size : Nat} {lim : Int32}
theorem gt_loop {rec : (Nat → Nat) → mj_M → Bool × mj_M} (hn : n < 4) (hm : m ≤ 24) (hcs : ∀ i, i < m → cs i < 24 ∧ vs_rw A (cs i)) (hk : ∀ x s, rb_ A s → rb_ A (rec x s).2) (hrec : ∀ x' s1 M1, gs_ A cs m x' (n + 1) M1 → rm_ s1 M1 → rb_ A s1 → ∃ M', rm_ (rec x' s1).2 M' ∧ fz_ M1 M' ∧ (((rec x' s1).1 = true ∧ gs_ A cs m x' (n + 1) M' ∧ ∀ R, mj_Ev mj_S0 X mj_P (d + 2) mt_M_goThrough 16 (mj_up (fun j => [mv_p 12, mv_i (nI size), mv_i lim][j]?) 3 (mv_i (nI n))) [] M' 0 R → mj_Ev mj_S0 X mj_P (d + 2) mt_M_goThrough 120 (mj_up (fun j => [mv_p 12, mv_i (nI size), mv_i lim][j]?) 3 (mv_i (nI n))) [] M1 0 R) ∨ ((rec x' s1).1 = false ∧ mj_Ev mj_S0 X mj_P (d + 2) mt_M_goThrough 120 (mj_up (fun j => [mv_p 12, mv_i (nI size), mv_i lim][j]?) 3 (mv_i (nI n))) [] M1 0 (mv_R 0 M')))) : ∀ j c x s M, c + j = 2 * m → gs_ A cs m x n M → M.1 26 n = nI c - 1 → rm_ s M → rb_ A s → ∃ M', rm_ (se_l rec lim (2 * m) n j x s).2 M' ∧ fz_ M M' ∧ (((se_l rec lim (2 * m) n j x s).1 = true ∧ gs_ A cs m x n M' ∧ ∀ R, mj_Ev mj_S0 X mj_P (d + 2) mt_M_goThrough 16 (mj_up (fun j => [mv_p 12, mv_i (nI size), mv_i lim][j]?) 3 (mv_i (nI n + -1))) [] M' 0 R → mj_Ev mj_S0 X mj_P (d + 2) mt_M_goThrough 40 (mj_up (fun j => [mv_p 12, mv_i (nI size), mv_i lim][j]?) 3 (mv_i (nI n))) [] M 0 R) ∨ ((se_l rec lim (2 * m) n j x s).1 = false ∧ mj_Ev mj_S0 X mj_P (d + 2) mt_M_goThrough 40 (mj_up (fun j => [mv_p 12, mv_i (nI size), mv_i lim][j]?) 3 (mv_i (nI n))) [] M 0 (mv_R 0 M'))) := by
  intro j
  induction j with
  | zero =>
    intro c x s M hc h h2 hs hb
    have ec : c = 2 * m := by omega
    subst ec
    obtain ⟨M', a1, a2, a3, a4⟩ := gt_end (X := X) (d := d) (size := size) (lim := lim) hn hm h h2 hs
    exact ⟨M', a2, a3, Or.inl ⟨rfl, a1, a4⟩⟩
  | succ j ih =>
    intro c x s M hc h h2 hs hb
    by_cases hl : s.1 12 14 = lim
    · obtain ⟨M', a2, a3, a4⟩ := gt_lim (X := X) (d := d) (size := size) hn hm (show c < 2 * m by omega) h h2 hs hl
      have e : se_l rec lim (2 * m) n (j + 1) x s = (false, s) := if_pos hl
      rw [e]
      exact ⟨M', a2, a3, Or.inr ⟨rfl, a4⟩⟩
    · obtain ⟨M1, b1, b2, b3, b4⟩ := gt_step (X := X) (d := d) (size := size) hn hm hcs (show c < 2 * m by omega) h h2 hs hb hl
      have hb1 : rb_ A (mj_st s 12 14 (s.1 12 14 + 1)) := hb.st (by omega)
      obtain ⟨M2, c1, c2, c3⟩ := hrec (upN x n c) _ M1 b1 b2 hb1
      have hb2 := hk (upN x n c) _ hb1
      have e : se_l rec lim (2 * m) n (j + 1) x s = (match rec (upN x n c) (mj_st s 12 14 (s.1 12 14 + 1)) with
          | (true, s') => se_l rec lim (2 * m) n j x s'
          | (false, s') => (false, s')) := by
        have e0 : 2 * m - (j + 1) = c := by omega
        rw [← e0]
        exact if_neg hl
      rw [e]
      cases hq : rec (upN x n c) (mj_st s 12 14 (s.1 12 14 + 1)) with
      | mk b s' =>
        rw [hq] at c1 c3 hb2
        cases b with
        | false =>
          rcases c3 with ⟨c4, -⟩ | ⟨-, c5⟩
          · exact Bool.noConfusion c4
          · exact ⟨M2, c1, b3.trans c2, Or.inr ⟨rfl, b4 _ c5⟩⟩
        | true =>
          rcases c3 with ⟨-, c5, c6⟩ | ⟨c4, -⟩
          · obtain ⟨M3, d1, d2, d3, d4⟩ := gt_undo (X := X) (d := d) (size := size) (lim := lim) hn hm hcs c5 (hb2.trans c1.rb)
            obtain ⟨M4, e1, e2, e3⟩ := ih (c + 1) x s' M3 (by omega) d1 (by rw [d2, nI_pred]) (d3.rm c1) hb2
            refine ⟨M4, e1, ((b3.trans c2).trans d3.fz).trans e2, ?_⟩
            rcases e3 with ⟨e4, e5, e6⟩ | ⟨e4, e5⟩
            · exact Or.inl ⟨e4, e5, fun R hR => b4 R (c6 R (d4 R (e6 R hR)))⟩
            · exact Or.inr ⟨e4, b4 _ (c6 _ (d4 _ e5))⟩
          · exact Bool.noConfusion c4
theorem gt_rec (hz : size ≤ 4) (hm : m ≤ 24) (hcs : ∀ i, i < m → cs i < 24 ∧ vs_rw A (cs i)) : ∀ r n x' s1 M1, n + r + 1 = size → gs_ A cs m x' (n + 1) M1 → rm_ s1 M1 → rb_ A s1 → ∃ M', rm_ (se_ A cs lim (2 * m) r (n + 1) ((x' n / 2 + 1) * 2) x' s1).2 M' ∧ fz_ M1 M' ∧ (((se_ A cs lim (2 * m) r (n + 1) ((x' n / 2 + 1) * 2) x' s1).1 = true ∧ gs_ A cs m x' (n + 1) M' ∧ ∀ R, mj_Ev mj_S0 X mj_P (d + 2) mt_M_goThrough 16 (mj_up (fun j => [mv_p 12, mv_i (nI size), mv_i lim][j]?) 3 (mv_i (nI n))) [] M' 0 R → mj_Ev mj_S0 X mj_P (d + 2) mt_M_goThrough 120 (mj_up (fun j => [mv_p 12, mv_i (nI size), mv_i lim][j]?) 3 (mv_i (nI n))) [] M1 0 R) ∨ ((se_ A cs lim (2 * m) r (n + 1) ((x' n / 2 + 1) * 2) x' s1).1 = false ∧ mj_Ev mj_S0 X mj_P (d + 2) mt_M_goThrough 120 (mj_up (fun j => [mv_p 12, mv_i (nI size), mv_i lim][j]?) 3 (mv_i (nI n))) [] M1 0 (mv_R 0 M'))) := by
  intro r
  induction r with
  | zero =>
    intro n x' s1 M1 hn h hs hb
    obtain ⟨M', a1, a2, a3, a4⟩ := gt_leaf (X := X) (d := d) (lim := lim) (show n + 1 = size by omega) hz hm hcs h hs
    exact ⟨M', a2, a3, Or.inl ⟨rfl, a1, a4⟩⟩
  | succ r ih =>
    intro n x' s1 M1 hn h hs hb
    have ex : upN x' n (x' n) = x' := by
      funext i
      by_cases hi : i = n
      · rw [hi, upN_s]
      · exact upN_n hi
    have lx : x' n < 2 * m := (h.2.2.2 n (by omega)).1.2
    obtain ⟨M2, b1, b2, b3, b4, b5⟩ := gt_down (X := X) (d := d) (lim := lim) (c := x' n) (x := x') (show n + 1 < size by omega) hz hm (by rw [ex]; exact h) hs
    rw [ex] at b1
    obtain ⟨M3, c1, c2, c3⟩ := gt_loop (X := X) (d := d) (size := size) (lim := lim) (rec := fun y t => se_ A cs lim (2 * m) r (n + 1 + 1) ((y (n + 1) / 2 + 1) * 2) y t) (n := n + 1) (by omega) hm hcs (fun y t ht => se_rb ht) (fun y t N hN1 hN2 hN3 => ih (n + 1) y t N (by omega) hN1 hN2 hN3) (2 * m - (x' n / 2 + 1) * 2) ((x' n / 2 + 1) * 2) x' s1 M2 (by omega) b1 b2 b3 hb
    refine ⟨M3, c1, b4.trans c2, ?_⟩
    rw [pk_m1] at c3
    rcases c3 with ⟨c4, c5, c6⟩ | ⟨c4, c5⟩
    · exact Or.inl ⟨c4, c5, fun R hR => b5 R (c6 R hR)⟩
    · exact Or.inr ⟨c4, b5 _ c5⟩
theorem pm_goThrough (h0 : 0 < size) (hz : size ≤ 4) (hm : m ≤ 24) (hcs : ∀ i, i < m → cs i < 24 ∧ vs_rw A (cs i)) (h : gs_ A cs m x 0 M) (hs : rm_ s M) (hb : rb_ A s) : ∃ M', mj_C0 X (d + 2) mt_M_goThrough [mv_p 12, mv_i (nI size), mv_i lim] M (mv_R (if (se_ A cs lim (2 * m) size 0 0 x s).1 = true then 1 else 0) M') ∧ rm_ (se_ A cs lim (2 * m) size 0 0 x s).2 M' ∧ fz_ M M' ∧ ((se_ A cs lim (2 * m) size 0 0 x s).1 = true → gs_ A cs m x 0 M') := by
  obtain ⟨r, hr⟩ : ∃ r, size = r + 1 := ⟨size - 1, by omega⟩
  have g1 : gs_ A cs m x 0 (mj_st (mj_st M 26 0 (-1)) 27 0 0) := (h.st (by omega)).st (by omega)
  have g2 : rm_ s (mj_st (mj_st M 26 0 (-1)) 27 0 0) := (hs.sr (by unfold aq_k; omega)).sr (by unfold aq_k; omega)
  have g3 : fz_ M (mj_st (mj_st M 26 0 (-1)) 27 0 0) := ((fz_.refl M).st (by omega) (by omega)).st (by omega) (by omega)
  obtain ⟨M3, c1, c2, c3⟩ := gt_loop (X := X) (d := d) (size := size) (lim := lim) (rec := fun y t => se_ A cs lim (2 * m) r (0 + 1) ((y 0 / 2 + 1) * 2) y t) (n := 0) (by omega) hm hcs (fun y t ht => se_rb ht) (fun y t N hN1 hN2 hN3 => gt_rec hz hm hcs r 0 y t N (by omega) hN1 hN2 hN3) (2 * m) 0 x s _ (by omega) g1 (by rw [pm_st1 (by omega), pm_st0]; rfl) g2 hb
  have e : se_ A cs lim (2 * m) size 0 0 x s = se_l (fun y t => se_ A cs lim (2 * m) r (0 + 1) ((y 0 / 2 + 1) * 2) y t) lim (2 * m) 0 (2 * m) x s := by
    rw [hr]
    rfl
  rw [e]
  refine ⟨M3, ?_, c1, g3.trans c2, fun q => ?_⟩
  · have key : ∀ R, mj_Ev mj_S0 X mj_P (d + 2) mt_M_goThrough 40 (mj_up (fun j => [mv_p 12, mv_i (nI size), mv_i lim][j]?) 3 (mv_i (nI 0))) [] (mj_st (mj_st M 26 0 (-1)) 27 0 0) 0 R → mj_C0 X (d + 2) mt_M_goThrough [mv_p 12, mv_i (nI size), mv_i lim] M R := by
      intro R hR
      iterate 19 refine ev_go rfl ?_
      exact hR
    rcases c3 with ⟨c4, c5, c6⟩ | ⟨c4, c5⟩
    · rw [if_pos c4]
      refine key _ (c6 _ ?_)
      refine ev_go rfl ?_
      refine ev_go rfl ?_
      refine ev_go rfl ?_
      refine ev_end rfl ?_
      rfl
    · rw [if_neg (by rw [c4]; decide)]
      exact key _ c5
  · rcases c3 with ⟨c4, c5, c6⟩ | ⟨c4, c5⟩
    · exact c5
    · rw [c4] at q
      exact absurd q (by decide)
end
end
section
/-! the reference's search -/
def aq_cf (A : mj_M) (a : Nat) : Int32 := if a < aq_n A then aq_ca A a else 0
/-- the candidates in their order -/
def cl_ (f : Nat → Int32) : Nat → Nat → Nat
  | 0 => fun _ => 0
  | k + 1 => if f k = 0 then cl_ f k else upN (cl_ f k) (ct f k) k
theorem ct_0 {f : Nat → Int32} {k : Nat} (h : f k = 0) : ct f (k + 1) = ct f k := by
  show ct f k + (if f k = 0 then 0 else 1) = _
  rw [if_pos h]
  rfl
theorem ct_1 {f : Nat → Int32} {k : Nat} (h : ¬ f k = 0) : ct f (k + 1) = ct f k + 1 := by
  show ct f k + (if f k = 0 then 0 else 1) = _
  rw [if_neg h]
theorem cl_0 {f : Nat → Int32} {k : Nat} (h : f k = 0) : cl_ f (k + 1) = cl_ f k := if_pos h
theorem cl_1 {f : Nat → Int32} {k : Nat} (h : ¬ f k = 0) : cl_ f (k + 1) = upN (cl_ f k) (ct f k) k := if_neg h
theorem cl_in {f : Nat → Int32} : ∀ {k i : Nat}, i < ct f k → cl_ f k i < k ∧ ¬ f (cl_ f k i) = 0
  | 0, i, h => absurd h (Nat.not_lt_zero _)
  | k + 1, i, h => by
    by_cases hk : f k = 0
    · rw [ct_0 hk] at h
      rw [cl_0 hk]
      obtain ⟨h1, h2⟩ := cl_in h
      exact ⟨by omega, h2⟩
    · rw [ct_1 hk] at h
      rw [cl_1 hk]
      by_cases hi : i = ct f k
      · rw [hi, upN_s]
        exact ⟨by omega, hk⟩
      · rw [upN_n hi]
        obtain ⟨h1, h2⟩ := cl_in (show i < ct f k by omega)
        exact ⟨by omega, h2⟩
theorem cl_st {f : Nat → Int32} {n : Nat} (h : ∀ k, n ≤ k → f k = 0) : ∀ j, ct f (n + j) = ct f n ∧ cl_ f (n + j) = cl_ f n
  | 0 => ⟨rfl, rfl⟩
  | j + 1 => by
    have h0 := h (n + j) (by omega)
    obtain ⟨h1, h2⟩ := cl_st h j
    rw [← Nat.add_assoc, ct_0 h0, cl_0 h0]
    exact ⟨h1, h2⟩
def aq_m (A : mj_M) : Nat := ct (aq_cf A) 24
def aq_cs (A : mj_M) : Nat → Nat := cl_ (aq_cf A) 24
theorem aq_cf0 {A : mj_M} {k : Nat} (h : aq_n A ≤ k) : aq_cf A k = 0 := if_neg (by omega)
theorem aq_cs_in {A : mj_M} {i : Nat} (h : i < aq_m A) : aq_cs A i < aq_n A := by
  obtain ⟨h1, h2⟩ := cl_in h
  rcases Nat.lt_or_ge (cl_ (aq_cf A) 24 i) (aq_n A) with h3 | h3
  · exact h3
  · exact absurd (aq_cf0 h3) h2
theorem aq_m_le (A : mj_M) : aq_m A ≤ 24 := ct_le _ _
def zr_ (A : mj_M) : Nat → mj_M
  | 0 => A
  | k + 1 => mj_st (zr_ A k) 22 k 0
theorem zr_q {A : mj_M} {q : Nat} (h : q ≠ 22) (j : Nat) : ∀ k, (zr_ A k).1 q j = A.1 q j
  | 0 => rfl
  | k + 1 => by
    show (mj_st (zr_ A k) 22 k 0).1 q j = _
    rw [pm_st1 (Or.inl h)]
    exact zr_q h j k
theorem zr_in {A : mj_M} {a : Nat} : ∀ {k : Nat}, a < k → (zr_ A k).1 22 a = 0
  | 0, h => absurd h (Nat.not_lt_zero _)
  | k + 1, h => by
    show (mj_st (zr_ A k) 22 k 0).1 22 a = _
    by_cases hk : a = k
    · rw [hk, pm_st0]
    · rw [pm_st1 (Or.inr hk)]
      exact zr_in (by omega)
def oz_ (A : mj_M) : mj_M := mj_st (mj_st (mj_st (mj_st A 12 17 0) 12 15 0) 12 14 0) 12 13 1
/-- a search begins -/
def ob_ (A : mj_M) : mj_M := zr_ (oz_ A) 24
theorem oz_rb (A : mj_M) (k : Nat) : rb_ A (zr_ (oz_ A) k) := fun q j hk => by
  rw [zr_q (by omega)]
  unfold oz_
  rw [pm_st1 (by omega), pm_st1 (by omega), pm_st1 (by omega), pm_st1 (by omega)]
/-- size after size -/
def ss_ (A : mj_M) (cs : Nat → Nat) (lim : Int32) (m2 : Nat) : Nat → Nat → mj_M → mj_M
  | 0, _, s => s
  | j + 1, z, s => if s.1 12 13 = 0 ∨ ¬ s.1 12 15 = 0 then s else ss_ A cs lim m2 j (z + 1) (mj_st (se_ A cs lim m2 z 0 0 (fun _ => 0) s).2 12 13 (if (se_ A cs lim m2 z 0 0 (fun _ => 0) s).1 = true then 1 else 0))
def sr_ (A : mj_M) (lim : Int32) (mo : Nat) : mj_M := if aq_nd A (aq_E A) = 0 then ob_ A else ss_ A (aq_cs A) lim (2 * aq_m A) mo 1 (ob_ A)
def sv_ (A : mj_M) (lim : Int32) (mo : Nat) : Int32 := if aq_nd A (aq_E A) = 0 then 0 else if (sr_ A lim mo).1 12 15 = 0 then -1 else (sr_ A lim mo).1 12 17
section
variable {X : Nat × (Nat → Int32)} {d : Nat} {M A s : mj_M} {cs x : Nat → Nat} {m n c size mo : Nat} {lim : Int32} {Q : mj_R → Prop}
theorem pm_search_x {a b : Int32} (h : ¬ (1 ≤ a ∧ a ≤ 4 ∧ 0 ≤ b ∧ b ≤ 20000)) : mj_C0 X (d + 1) mt_M_search [mv_p 12, mv_i a, mv_i b] M (mv_R 0 (mj_st M 12 0 1)) := by
  iterate 4 refine ev_go rfl ?_
  refine ev_callr rfl rfl rfl pm_not ?_
  refine ev_if rfl (fun h7 => ?_) (fun h7 => ?_)
  · iterate 3 refine ev_go rfl ?_
    refine ev_callr rfl rfl rfl pm_not ?_
    refine ev_if rfl (fun h18 => ?_) (fun h18 => ?_)
    · exfalso
      grind [pd_no0]
    · iterate 7 refine ev_go rfl ?_
      refine ev_end rfl ?_
      rfl
  · iterate 7 refine ev_go rfl ?_
    refine ev_end rfl ?_
    rfl
def s1_ (A M0 : mj_M) (k : Nat) (M : mj_M) : Prop := rm_ (zr_ (oz_ A) k) M ∧ M.1 12 21 = nI (ct (aq_cf A) k) ∧ (∀ i, i < ct (aq_cf A) k → M.1 25 i = nI (cl_ (aq_cf A) k i)) ∧ M.1 12 20 = 0 ∧ fz_ M0 M
theorem pm_search_l1 {M0 : mj_M} (hv : vs_A A) (hq : ∀ M, s1_ A M0 24 M → ∃ r, mj_Ev mj_S0 X mj_P (d + 3) mt_M_search 125 (mj_up (fun j => [mv_p 12, mv_i (nI mo), mv_i lim][j]?) 3 (mv_i (nI 24))) [] M 0 r ∧ Q r) : ∀ j k M, k + j = 24 → s1_ A M0 k M → ∃ r, mj_Ev mj_S0 X mj_P (d + 3) mt_M_search 70 (mj_up (fun j => [mv_p 12, mv_i (nI mo), mv_i lim][j]?) 3 (mv_i (nI k))) [] M 0 r ∧ Q r := by
  intro j
  induction j with
  | zero =>
    intro k M hk h
    have e : k = 24 := by omega
    subst e
    obtain ⟨r, e1, e2⟩ := hq M h
    refine ⟨r, ?_, e2⟩
    iterate 3 refine ev_go rfl ?_
    exact e1
  | succ j ih =>
    intro k M hk h
    obtain ⟨h1, h2, h3, h4, h5⟩ := h
    have i24 : mj_in (nI k) 24 := nI_in (by omega) (by decide)
    have j24 : (nI k).toNatClampNeg = k := nI_clamp (by omega)
    have r1 : rm_ (zr_ (oz_ A) (k + 1)) (mj_st M 22 k 0) := h1.st _ _ _
    have b1 : rb_ A (mj_st M 22 k 0) := (oz_rb A (k + 1)).trans r1.rb
    have f1 : fz_ M0 (mj_st M 22 k 0) := h5.st (by omega) (by omega)
    have n1 : (mj_st M 22 k 0).1 12 1 = nI (aq_n A) := by rw [b1.s (by decide)]; exact hv.1.1
    have hn := hv.1.2
    have lc := ct_le (aq_cf A) k
    by_cases hf : aq_cf A k = 0
    · obtain ⟨r, e1, e2⟩ := ih (k + 1) (mj_st M 22 k 0) (by omega) ⟨r1, by rw [pm_st1 (by omega), ct_0 hf]; exact h2, fun i hi => by rw [ct_0 hf] at hi; rw [pm_st1 (by omega), cl_0 hf]; exact h3 i hi, by rw [pm_st1 (by omega)]; exact h4, f1⟩
      refine ⟨r, ?_, e2⟩
      iterate 2 refine ev_go rfl ?_
      refine ev_if rfl (fun h73 => ?_) (fun h73 => ?_)
      · exact absurd h73 (by rw [show (24 : Int32) = nI 24 from rfl]; exact nI_ge (by omega) (by omega))
      · iterate 4 refine ev_go rfl ?_
        refine ev_ok i24 rfl ?_
        rw [j24]
        iterate 3 refine ev_go rfl ?_
        rw [n1]
        refine ev_if rfl (fun h88 => ?_) (fun h88 => ?_)
        · iterate 2 refine ev_go rfl ?_
          refine ev_lo ?_ e1
          rw [nI_1]
          exact mj_upo
        · have kn : k < aq_n A := by
            rcases Nat.lt_or_ge k (aq_n A) with q | q
            · exact q
            · exact absurd (nI_le q (by omega)) h88
          iterate 2 refine ev_go rfl ?_
          refine ev_callr rfl rfl rfl (pm_isCandidate (by omega) ((rb_rw b1 k).2 (hv.2.1 k kn))) ?_
          refine ev_if rfl (fun h96 => ?_) (fun h96 => ?_)
          · iterate 2 refine ev_go rfl ?_
            refine ev_lo ?_ e1
            rw [nI_1]
            exact mj_upo
          · exact absurd (show aq_ca (mj_st M 22 k 0) k = 0 by rw [rb_ca b1]; unfold aq_cf at hf; rw [if_pos kn] at hf; exact hf) h96
    · have kn : k < aq_n A := by
        rcases Nat.lt_or_ge k (aq_n A) with q | q
        · exact q
        · exact absurd (aq_cf0 q) hf
      have hca : ¬ aq_ca (mj_st M 22 k 0) k = 0 := by
        rw [rb_ca b1]
        unfold aq_cf at hf
        rw [if_pos kn] at hf
        exact hf
      have h2' : (mj_st M 22 k 0).1 12 21 = nI (ct (aq_cf A) k) := by rw [pm_st1 (by omega)]; exact h2
      have i25 : mj_in (nI (ct (aq_cf A) k)) 24 := nI_in (by omega) (by decide)
      have j25 : (nI (ct (aq_cf A) k)).toNatClampNeg = ct (aq_cf A) k := nI_clamp (by omega)
      obtain ⟨r, e1, e2⟩ := ih (k + 1) (mj_st (mj_st (mj_st M 22 k 0) 25 (ct (aq_cf A) k) (nI k)) 12 21 (nI (ct (aq_cf A) k + 1))) (by omega) ⟨(r1.sr (by unfold aq_k; omega)).sr (by unfold aq_k; omega), by rw [pm_st0, ct_1 hf], fun i hi => by
          rw [pm_st1 (by omega), cl_1 hf]
          rw [ct_1 hf] at hi
          by_cases hic : i = ct (aq_cf A) k
          · rw [hic, pm_st0, upN_s]
          · rw [pm_st1 (by omega), pm_st1 (by omega), upN_n hic]
            exact h3 i (by omega), by rw [pm_st1 (by omega), pm_st1 (by omega), pm_st1 (by omega)]; exact h4, (f1.st (by omega) (by omega)).st (by omega) (by omega)⟩
      refine ⟨r, ?_, e2⟩
      iterate 2 refine ev_go rfl ?_
      refine ev_if rfl (fun h73 => ?_) (fun h73 => ?_)
      · exact absurd h73 (by rw [show (24 : Int32) = nI 24 from rfl]; exact nI_ge (by omega) (by omega))
      · iterate 4 refine ev_go rfl ?_
        refine ev_ok i24 rfl ?_
        rw [j24]
        iterate 3 refine ev_go rfl ?_
        rw [n1]
        refine ev_if rfl (fun h88 => ?_) (fun h88 => ?_)
        · first
            | exact absurd h88 (nI_ge kn (by omega))
            | exact absurd h96 hca
            | (refine ev_go rfl ?_
               refine ev_go rfl ?_
               refine ev_lo ?_ e1
               rw [nI_1]
               exact mj_upo)
        · iterate 2 refine ev_go rfl ?_
          refine ev_callr rfl rfl rfl (pm_isCandidate (by omega) ((rb_rw b1 k).2 (hv.2.1 k kn))) ?_
          refine ev_if rfl (fun h96 => ?_) (fun h96 => ?_)
          · first
              | exact absurd h88 (nI_ge kn (by omega))
              | exact absurd h96 hca
              | (refine ev_go rfl ?_
                 refine ev_go rfl ?_
                 refine ev_lo ?_ e1
                 rw [nI_1]
                 exact mj_upo)
          · iterate 4 refine ev_go rfl ?_
            rw [h2']
            refine ev_go rfl ?_
            refine ev_ok i25 rfl ?_
            rw [j25]
            iterate 5 refine ev_go rfl ?_
            show mj_Ev _ _ _ _ _ _ _ [mv_i ((mj_st M 22 k 0).1 12 21 + 1), _] _ _ _
            rw [h2', nI_1]
            refine ev_go rfl ?_
            first
              | exact absurd h88 (nI_ge kn (by omega))
              | exact absurd h96 hca
              | (refine ev_go rfl ?_
                 refine ev_go rfl ?_
                 refine ev_lo ?_ e1
                 rw [nI_1]
                 exact mj_upo)
def s2_ (A M0 : mj_M) (k : Nat) (M : mj_M) : Prop := rm_ (ob_ A) M ∧ M.1 12 21 = nI (aq_m A) ∧ (∀ i, i < aq_m A → M.1 25 i = nI (aq_cs A i)) ∧ (∀ c, c < k → M.1 24 c = aq_df A (aq_E A) c) ∧ M.1 12 20 = sm (aq_w A (aq_E A)) k ∧ fz_ M0 M
theorem pm_search_l2 {M0 : mj_M} (hv : vs_A A) (hq : ∀ M, s2_ A M0 60 M → ∃ r, mj_Ev mj_S0 X mj_P (d + 3) mt_M_search 173 (mj_up (fun j => [mv_p 12, mv_i (nI mo), mv_i lim][j]?) 3 (mv_i (nI 60))) [] M 0 r ∧ Q r) : ∀ j k M, k + j = 60 → s2_ A M0 k M → ∃ r, mj_Ev mj_S0 X mj_P (d + 3) mt_M_search 127 (mj_up (fun j => [mv_p 12, mv_i (nI mo), mv_i lim][j]?) 3 (mv_i (nI k))) [] M 0 r ∧ Q r := by
  intro j
  induction j with
  | zero =>
    intro k M hk h
    have e : k = 60 := by omega
    subst e
    obtain ⟨r, e1, e2⟩ := hq M h
    refine ⟨r, ?_, e2⟩
    iterate 3 refine ev_go rfl ?_
    exact e1
  | succ j ih =>
    intro k M hk h
    obtain ⟨h1, h2, h3, h4, h5, h6⟩ := h
    have i60 : mj_in (nI k) 60 := nI_in (by omega) (by decide)
    have j60 : (nI k).toNatClampNeg = k := nI_clamp (by omega)
    have b1 : rb_ A M := (oz_rb A 24).trans h1.rb
    have n1 : M.1 12 1 = nI (aq_n M) := by rw [rb_n b1, b1.s (by decide)]; exact hv.1.1
    have n2 : aq_n M ≤ 24 := by rw [rb_n b1]; exact hv.1.2
    have ed : aq_df M (aq_E M) k = aq_df A (aq_E A) k := by rw [rb_df b1, rb_E b1]
    obtain ⟨r, e1, e2⟩ := ih (k + 1) (mj_st (mj_st M 24 k (aq_df A (aq_E A) k)) 12 20 (sm (aq_w A (aq_E A)) k + aq_w A (aq_E A) k)) (by omega) ⟨(h1.sr (by unfold aq_k; omega)).sr (by unfold aq_k; omega), by rw [pm_st1 (by omega), pm_st1 (by omega)]; exact h2, fun i hi => by rw [pm_st1 (by omega), pm_st1 (by omega)]; exact h3 i hi, fun c hc => by
        rw [pm_st1 (by omega)]
        by_cases hck : c = k
        · rw [hck, pm_st0]
        · rw [pm_st1 (by omega)]
          exact h4 c (by omega), by rw [pm_st0]; rfl, (h6.st (by omega) (by omega)).st (by omega) (by omega)⟩
    refine ⟨r, ?_, e2⟩
    iterate 2 refine ev_go rfl ?_
    refine ev_if rfl (fun h130 => ?_) (fun h130 => ?_)
    · exact absurd h130 (by rw [show (60 : Int32) = nI 60 from rfl]; exact nI_ge (by omega) (by omega))
    · iterate 5 refine ev_go rfl ?_
      refine ev_callr rfl rfl rfl (pm_differenceOf (by omega) n1 n2) ?_
      rw [ed]
      refine ev_ok i60 rfl ?_
      rw [j60]
      iterate 6 refine ev_go rfl ?_
      refine ev_ok i60 rfl ?_
      rw [j60, pm_st0]
      refine ev_if rfl (fun h155 => ?_) (fun h155 => ?_)
      · iterate 2 refine ev_go rfl ?_
        show mj_Ev _ _ _ _ _ _ _ [mv_i (M.1 12 20 + _), _] _ _ _
        rw [h5]
        iterate 3 refine ev_go rfl ?_
        unfold aq_w at e1
        first
          | rw [if_pos h155] at e1
          | rw [if_neg h155] at e1
        refine ev_lo ?_ e1
        rw [nI_1]
        exact mj_upo
      · iterate 3 refine ev_go rfl ?_
        show mj_Ev _ _ _ _ _ _ _ [mv_i (M.1 12 20 + _), _] _ _ _
        rw [h5]
        iterate 3 refine ev_go rfl ?_
        unfold aq_w at e1
        first
          | rw [if_pos h155] at e1
          | rw [if_neg h155] at e1
        refine ev_lo ?_ e1
        rw [nI_1]
        exact mj_upo
def s3_ (A M0 s M : mj_M) : Prop := rm_ s M ∧ rb_ A s ∧ (s.1 12 13 = 0 ∨ (s.1 12 13 = 1 ∧ gs_ A (aq_cs A) (aq_m A) (fun _ => 0) 0 M)) ∧ fz_ M0 M
theorem pm_search_l3 {M0 : mj_M} (hv : vs_A A) (hmo : mo ≤ 4) (hQ : ∀ s M, s3_ A M0 s M → s = ss_ A (aq_cs A) lim (2 * aq_m A) mo 1 (ob_ A) → Q (mv_R (if s.1 12 15 = 0 then -1 else s.1 12 17) M)) : ∀ j z s M, z + j = mo + 1 → 0 < z → s3_ A M0 s M → ss_ A (aq_cs A) lim (2 * aq_m A) j z s = ss_ A (aq_cs A) lim (2 * aq_m A) mo 1 (ob_ A) → ∃ r, mj_Ev mj_S0 X mj_P (d + 3) mt_M_search 184 (mj_up (fun j => [mv_p 12, mv_i (nI mo), mv_i lim][j]?) 3 (mv_i (nI z))) [] M 0 r ∧ Q r := by
  have hcs : ∀ i, i < aq_m A → aq_cs A i < 24 ∧ vs_rw A (aq_cs A i) := fun i hi => by
    have := aq_cs_in hi
    have := hv.1.2
    exact ⟨by omega, hv.2.1 _ (by omega)⟩
  have ex : ∀ z s M, s3_ A M0 s M → s = ss_ A (aq_cs A) lim (2 * aq_m A) mo 1 (ob_ A) → ∃ r, mj_Ev mj_S0 X mj_P (d + 3) mt_M_search 219 (mj_up (fun j => [mv_p 12, mv_i (nI mo), mv_i lim][j]?) 3 (mv_i (nI z))) [] M 0 r ∧ Q r := by
    intro z s M h he
    refine ⟨_, ?_, hQ s M h he⟩
    have e15 : M.1 12 15 = s.1 12 15 := h.1.s (by decide)
    have e17 : M.1 12 17 = s.1 12 17 := h.1.s (by decide)
    iterate 2 refine ev_go rfl ?_
    rw [e15]
    refine ev_if rfl (fun h223 => ?_) (fun h223 => ?_)
    · iterate 2 refine ev_go rfl ?_
      refine ev_end rfl ?_
      show some _ = some (mv_R _ M)
      first
        | (rw [if_pos h223]; done)
        | (rw [if_neg h223, ← e17]; done)
    · iterate 2 refine ev_go rfl ?_
      refine ev_end rfl ?_
      show some _ = some (mv_R _ M)
      first
        | (rw [if_pos h223]; done)
        | (rw [if_neg h223, ← e17]; done)
  intro j
  induction j with
  | zero =>
    intro z s M hz h0 h he
    obtain ⟨r, e1, e2⟩ := ex z s M h he
    refine ⟨r, ?_, e2⟩
    iterate 2 refine ev_go rfl ?_
    refine ev_if rfl (fun h186 => ?_) (fun h186 => ?_)
    · exact e1
    · exact absurd (nI_lt (show mo < z by omega) (by omega)) h186
  | succ j ih =>
    intro z s M hz h0 h he
    have e13 : M.1 12 13 = s.1 12 13 := h.1.s (by decide)
    have e15 : M.1 12 15 = s.1 12 15 := h.1.s (by decide)
    by_cases hx : s.1 12 13 = 0 ∨ ¬ s.1 12 15 = 0
    · have he' : s = ss_ A (aq_cs A) lim (2 * aq_m A) mo 1 (ob_ A) := (if_pos hx).symm.trans he
      obtain ⟨r, e1, e2⟩ := ex z s M h he'
      refine ⟨r, ?_, e2⟩
      iterate 2 refine ev_go rfl ?_
      refine ev_if rfl (fun h186 => ?_) (fun h186 => ?_)
      · exact e1
      · iterate 2 refine ev_go rfl ?_
        refine ev_if rfl (fun h193 => ?_) (fun h193 => ?_)
        · exact e1
        · iterate 2 refine ev_go rfl ?_
          refine ev_if rfl (fun h200 => ?_) (fun h200 => ?_)
          · rw [e13] at h193
            rw [e15] at h200
            rcases hx with q | q
            · exact absurd q h193
            · exact absurd h200 q
          · exact e1
    · have k13 : ¬ s.1 12 13 = 0 := fun q => hx (Or.inl q)
      have k15 : s.1 12 15 = 0 := by
        by_cases q : s.1 12 15 = 0
        · exact q
        · exact absurd (Or.inr q) hx
      obtain ⟨h1, h2, h3, h4⟩ := h
      have hg : gs_ A (aq_cs A) (aq_m A) (fun _ => 0) 0 M := by
        rcases h3 with q | q
        · exact absurd q k13
        · exact q.2
      obtain ⟨M1, g1, g2, g3, g4⟩ := pm_goThrough (X := X) (d := d) (lim := lim) h0 (by omega) (aq_m_le A) hcs hg h1 h2
      have he' : ss_ A (aq_cs A) lim (2 * aq_m A) j (z + 1) (mj_st (se_ A (aq_cs A) lim (2 * aq_m A) z 0 0 (fun _ => 0) s).2 12 13 (if (se_ A (aq_cs A) lim (2 * aq_m A) z 0 0 (fun _ => 0) s).1 = true then 1 else 0)) = ss_ A (aq_cs A) lim (2 * aq_m A) mo 1 (ob_ A) := (if_neg hx).symm.trans he
      have ok3 : s3_ A M0 (mj_st (se_ A (aq_cs A) lim (2 * aq_m A) z 0 0 (fun _ => 0) s).2 12 13 (if (se_ A (aq_cs A) lim (2 * aq_m A) z 0 0 (fun _ => 0) s).1 = true then 1 else 0)) (mj_st M1 12 13 (if (se_ A (aq_cs A) lim (2 * aq_m A) z 0 0 (fun _ => 0) s).1 = true then 1 else 0)) := by
        refine ⟨g2.st _ _ _, (se_rb h2).st (by omega), ?_, (h4.trans g3).st (by omega) (by omega)⟩
        rw [pm_st0]
        cases hb : (se_ A (aq_cs A) lim (2 * aq_m A) z 0 0 (fun _ => 0) s).1 with
        | true => exact Or.inr ⟨rfl, (g4 hb).st (by omega)⟩
        | false => exact Or.inl rfl
      obtain ⟨r, e1, e2⟩ := ih (z + 1) _ _ (by omega) (by omega) ok3 he'
      have e01 : (if (se_ A (aq_cs A) lim (2 * aq_m A) z 0 0 (fun _ => 0) s).1 = true then (1 : Int32) else 0) = 0 ∨ (if (se_ A (aq_cs A) lim (2 * aq_m A) z 0 0 (fun _ => 0) s).1 = true then (1 : Int32) else 0) = 1 := by
        split
        · exact Or.inr rfl
        · exact Or.inl rfl
      refine ⟨r, ?_, e2⟩
      iterate 2 refine ev_go rfl ?_
      refine ev_if rfl (fun h186 => ?_) (fun h186 => ?_)
      · first
          | exact absurd h186 (nI_nlt (show z ≤ mo by omega) (by omega))
          | exact absurd (e13.symm.trans h193) k13
          | exact absurd (e15.trans k15) h200
      · iterate 2 refine ev_go rfl ?_
        refine ev_if rfl (fun h193 => ?_) (fun h193 => ?_)
        · first
            | exact absurd h186 (nI_nlt (show z ≤ mo by omega) (by omega))
            | exact absurd (e13.symm.trans h193) k13
            | exact absurd (e15.trans k15) h200
        · iterate 2 refine ev_go rfl ?_
          refine ev_if rfl (fun h200 => ?_) (fun h200 => ?_)
          · iterate 4 refine ev_go rfl ?_
            refine ev_callr rfl rfl rfl g1 ?_
            refine ev_ok (Or.inr e01) rfl ?_
            iterate 2 refine ev_go rfl ?_
            refine ev_lo ?_ e1
            rw [nI_1]
            exact mj_upo
          · first
              | exact absurd h186 (nI_nlt (show z ≤ mo by omega) (by omega))
              | exact absurd (e13.symm.trans h193) k13
              | exact absurd (e15.trans k15) h200
theorem pm_search (hv : vs_A A) (h0 : 0 < mo) (hmo : mo ≤ 4) (hl : 0 ≤ lim ∧ lim ≤ 20000) : rs_ X (d + 3) mt_M_search [mv_p 12, mv_i (nI mo), mv_i lim] A 0 (sv_ A lim mo) (sr_ A lim mo) := by
  intro M hr
  have hmm : 1 ≤ nI mo ∧ nI mo ≤ 4 := ⟨nI_le (a := 1) (by omega) (by omega), nI_le (b := 4) (by omega) (by decide)⟩
  let Q : mj_R → Prop := fun r => ∃ M', r = mv_R (sv_ A lim mo) M' ∧ rm_ (sr_ A lim mo) M' ∧ fm_ M M' ∧ M'.1 12 0 = 0
  suffices h : ∃ r, mj_C0 X (d + 3) mt_M_search [mv_p 12, mv_i (nI mo), mv_i lim] M r ∧ Q r by
    obtain ⟨r, e1, M', e2, e3⟩ := h
    subst e2
    exact ⟨M', e1, e3⟩
  have fin : ∀ M', fz_ (mj_st M 12 0 0) M' → fm_ M M' ∧ M'.1 12 0 = 0 := fun M' f => ⟨((fm_.refl M).st (by decide) (by decide)).trans f.1, by rw [f.2, pm_st0]⟩
  have a3 : ∀ M1, s2_ A (mj_st M 12 0 0) 60 M1 → ∃ r, mj_Ev mj_S0 X mj_P (d + 3) mt_M_search 173 (mj_up (fun j => [mv_p 12, mv_i (nI mo), mv_i lim][j]?) 3 (mv_i (nI 60))) [] M1 0 r ∧ Q r := by
    intro M1 h
    obtain ⟨h1, h2, h3, h4, h5, h6⟩ := h
    by_cases hz : aq_nd A (aq_E A) = 0
    · have er : sr_ A lim mo = ob_ A := if_pos hz
      have ev : sv_ A lim mo = 0 := if_pos hz
      refine ⟨mv_R 0 M1, ?_, M1, by rw [ev], by rw [er]; exact h1, fin M1 h6⟩
      iterate 2 refine ev_go rfl ?_
      refine ev_if rfl (fun h177 => ?_) (fun h177 => ?_)
      · refine ev_go rfl ?_
        refine ev_end rfl ?_
        rfl
      · exact absurd (h5.trans hz) h177
    · have er : sr_ A lim mo = ss_ A (aq_cs A) lim (2 * aq_m A) mo 1 (ob_ A) := if_neg hz
      have ev : sv_ A lim mo = if (sr_ A lim mo).1 12 15 = 0 then -1 else (sr_ A lim mo).1 12 17 := if_neg hz
      have eo : (ob_ A).1 12 13 = 1 := by
        unfold ob_ oz_
        rw [zr_q (by decide), pm_st0]
      obtain ⟨r, e1, e2⟩ := pm_search_l3 (X := X) (d := d) (A := A) (M0 := mj_st M 12 0 0) (lim := lim) (mo := mo) (Q := Q) hv hmo (fun s M' h he => ⟨M', by rw [ev, er, he], by rw [er, ← he]; exact h.1, fin M' h.2.2.2⟩) mo 1 (ob_ A) M1 (by omega) (by omega) ⟨h1, oz_rb A 24, Or.inr ⟨eo, ⟨h4, h5⟩, h2, h3, fun i hi => absurd hi (Nat.not_lt_zero _)⟩, h6⟩ rfl
      refine ⟨r, ?_, e2⟩
      iterate 2 refine ev_go rfl ?_
      refine ev_if rfl (fun h177 => ?_) (fun h177 => ?_)
      · exact absurd (h5.symm.trans h177) hz
      · iterate 2 refine ev_go rfl ?_
        refine ev_lo ?_ e1
        exact mj_upo
  have a2 : ∀ M1, s1_ A (mj_st M 12 0 0) 24 M1 → ∃ r, mj_Ev mj_S0 X mj_P (d + 3) mt_M_search 125 (mj_up (fun j => [mv_p 12, mv_i (nI mo), mv_i lim][j]?) 3 (mv_i (nI 24))) [] M1 0 r ∧ Q r := by
    intro M1 h
    obtain ⟨h1, h2, h3, h4, h5⟩ := h
    obtain ⟨r, e1, e2⟩ := pm_search_l2 (X := X) (d := d) (A := A) (M0 := mj_st M 12 0 0) (lim := lim) (mo := mo) (Q := Q) hv a3 60 0 M1 (by omega) ⟨h1, h2, h3, fun c hc => absurd hc (Nat.not_lt_zero _), h4, h5⟩
    refine ⟨r, ?_, e2⟩
    refine ev_go rfl ?_
    refine ev_go rfl ?_
    refine ev_lo ?_ e1
    exact mj_upo
  have r0 : rm_ (oz_ A) (mj_st (mj_st (mj_st (mj_st (mj_st (mj_st (mj_st M 12 0 0) 12 17 0) 12 15 0) 12 14 0) 12 13 1) 12 20 0) 12 21 0) := (((((hr.sr (by unfold aq_k; omega)).st 12 17 0).st 12 15 0).st 12 14 0).st 12 13 1 |>.sr (by unfold aq_k; omega)).sr (by unfold aq_k; omega)
  obtain ⟨r, e1, e2⟩ := pm_search_l1 (X := X) (d := d) (A := A) (M0 := mj_st M 12 0 0) (lim := lim) (mo := mo) (Q := Q) hv a2 24 0 _ (by omega) ⟨r0, pm_st0, fun i hi => absurd hi (Nat.not_lt_zero _), by rw [pm_st1 (by omega), pm_st0], (((((fz_.refl _).st (by omega) (by omega)).st (by omega) (by omega)).st (by omega) (by omega)).st (by omega) (by omega)).st (by omega) (by omega) |>.st (by omega) (by omega)⟩
  refine ⟨r, ?_, e2⟩
  iterate 4 refine ev_go rfl ?_
  refine ev_callr rfl rfl rfl pm_not ?_
  refine ev_if rfl (fun h7 => ?_) (fun h7 => ?_)
  · iterate 3 refine ev_go rfl ?_
    refine ev_callr rfl rfl rfl pm_not ?_
    refine ev_if rfl (fun h18 => ?_) (fun h18 => ?_)
    · iterate 25 refine ev_go rfl ?_
      exact e1
    · exfalso
      grind [pd_no0]
  · exfalso
    grind [pd_no0]

end
end
section
/-! the class's memory against the state; what its ledger answers -/
def rc_b (A M : mj_M) : Prop := (∀ a, a < 24 → ∀ j, j < 8 → M.1 (pr_ a) j = A.1 (13 + j) a) ∧ (∀ c, c < 60 → M.1 5 c = A.1 21 c) ∧ M.1 1 3 = A.1 12 1 ∧ M.1 1 5 = A.1 12 10 ∧ M.1 1 6 = A.1 12 11
def rc_L (A : mj_M) (L : Nat → Int32) (M : mj_M) : Prop := (∀ c, c < 60 → M.1 4 c = L c) ∧ M.1 1 4 = aq_nd A L
def rc_s (A M : mj_M) : Prop := M.1 2 9 = A.1 12 14 ∧ M.1 2 10 = A.1 12 15 ∧ M.1 2 11 = A.1 12 17 ∧ (∀ a, a < 24 → M.1 11 a = A.1 22 a) ∧ (∀ i, i < (A.1 12 17).toNatClampNeg → ∃ a h, a < 24 ∧ h < 2 ∧ M.1 9 i = nI a ∧ M.1 10 i = nI h ∧ A.1 23 i = nI (2 * a + h))
def rc_ (A M : mj_M) : Prop := rc_b A M ∧ rc_L A (aq_E A) M ∧ rc_s A M ∧ M.1 2 12 = A.1 12 13
/-- cells that the class's own calls change and others leave -/
theorem rc_.fm {A M M' : mj_M} (h : rc_ A M) (f : fm_ M M') : rc_ A M' := by
  obtain ⟨⟨a1, a2, a3, a4, a5⟩, ⟨b1, b2⟩, ⟨c1, c2, c3, c4, c5⟩, d1⟩ := h
  have g : ∀ q j, q < 12 ∨ 28 ≤ q → M'.1 q j = M.1 q j := f.2
  refine ⟨⟨fun a ha j hj => ?_, fun c hc => ?_, ?_, ?_, ?_⟩, ⟨fun c hc => ?_, ?_⟩, ⟨?_, ?_, ?_, fun a ha => ?_, fun i hi => ?_⟩, ?_⟩
  · rw [g _ _ (by rw [pr_e]; omega)]; exact a1 a ha j hj
  · rw [g _ _ (by omega)]; exact a2 c hc
  · rw [g _ _ (by omega)]; exact a3
  · rw [g _ _ (by omega)]; exact a4
  · rw [g _ _ (by omega)]; exact a5
  · rw [g _ _ (by omega)]; exact b1 c hc
  · rw [g _ _ (by omega)]; exact b2
  · rw [g _ _ (by omega)]; exact c1
  · rw [g _ _ (by omega)]; exact c2
  · rw [g _ _ (by omega)]; exact c3
  · rw [g _ _ (by omega)]; exact c4 a ha
  · rw [g _ _ (by omega), g _ _ (by omega)]; exact c5 i hi
  · rw [g _ _ (by omega)]; exact d1
theorem rc_b.pv {A M : mj_M} {a : Nat} (h : rc_b A M) (ha : a < 24) (hr : vs_rw A a) : pv_row M a ∧ pd_c1 M a = aq_c1 A a ∧ pd_c2 M a = aq_c2 A a := by
  have e0 := h.1 a ha 0 (by decide)
  have e1 := h.1 a ha 1 (by decide)
  have e2 := h.1 a ha 2 (by decide)
  have e3 := h.1 a ha 3 (by decide)
  obtain ⟨p, g, hp, hg, f1, f2, f3, -⟩ := hr
  refine ⟨⟨p, g, hp, hg, e1.trans f1, e3.trans f2, fun q => ?_⟩, ?_, ?_⟩
  · obtain ⟨t, ht, -, f4⟩ := f3 (e0.symm.trans q)
    exact ⟨t, ht, e2.trans f4⟩
  · unfold pd_c1 aq_c1
    rw [e1, e3, Int32.mul_comm]
  · unfold pd_c2 aq_c2
    rw [e2, e3, Int32.mul_comm]
/-- 1 where a cell of the act is counted -/
def aq_cc (A : mj_M) (a : Nat) : Int32 := if ¬ A.1 21 (aq_c1 A a) < 0 ∨ A.1 13 a = 2 ∧ ¬ A.1 21 (aq_c2 A a) < 0 then 1 else 0
def aq_ci (A : mj_M) (w : Nat) (v : Int32) (a : Nat) : Int32 := if A.1 (13 + w) a = v then 1 else 0
theorem i_m1 {x : Int32} (h : -1 ≤ x) : x = -1 ↔ x < 0 := by grind
section
variable {X : Nat × (Nat → Int32)} {d : Nat} {M A s : mj_M}
theorem pl_isAtCountedCell {a : Nat} (ha : a < 24) (hr : vs_rw A a) (hb : rc_b A M) (ht : ∀ c, -1 ≤ A.1 21 c) : mj_C0 X (d + 1) mt_L_isAtCountedCell [mv_p 1, mv_r a] M (mv_R (aq_cc A a) M) := by
  obtain ⟨hp, g1, g2⟩ := hb.pv ha hr
  obtain ⟨e1, l1⟩ := hp.c1
  have t1 : pd_ct M (pd_c1 M a) = if A.1 21 (aq_c1 A a) < 0 then 0 else 1 := by
    unfold pd_ct
    rw [g1] at l1 ⊢
    rw [hb.2.1 _ l1]
    simp only [i_m1 (ht _)]
  have e0 : M.1 (pr_ a) 0 = A.1 13 a := hb.1 a ha 0 (by decide)
  iterate 3 refine ev_go rfl ?_
  refine ev_ok ⟨ha, by decide⟩ rfl ?_
  iterate 2 refine ev_go rfl ?_
  refine ev_ok ⟨ha, by decide⟩ rfl ?_
  refine ev_callr rfl rfl rfl pe_cellOf ?_
  simp only [tn_1, tn_3]
  rw [e1]
  refine ev_callr rfl rfl rfl (pl_isCounted l1) ?_
  rw [t1]
  refine ev_if rfl (fun h13 => ?_) (fun h13 => ?_)
  · iterate 2 refine ev_go rfl ?_
    refine ev_ok ⟨ha, by decide⟩ rfl ?_
    refine ev_go rfl ?_
    simp only [tn_0]
    rw [e0]
    refine ev_if rfl (fun h20 => ?_) (fun h20 => ?_)
    · iterate 3 refine ev_go rfl ?_
      refine ev_ok ⟨ha, by decide⟩ rfl ?_
      iterate 2 refine ev_go rfl ?_
      refine ev_ok ⟨ha, by decide⟩ rfl ?_
      refine ev_callr rfl rfl rfl pe_cellOf ?_
      simp only [tn_2, tn_3]
      obtain ⟨e2, l2⟩ := hp.c2 (e0.trans h20)
      have t2 : pd_ct M (pd_c2 M a) = if A.1 21 (aq_c2 A a) < 0 then 0 else 1 := by
        unfold pd_ct
        rw [g2] at l2 ⊢
        rw [hb.2.1 _ l2]
        simp only [i_m1 (ht _)]
      rw [e2]
      refine ev_callr rfl rfl rfl (pl_isCounted l2) ?_
      rw [t2]
      refine ev_if rfl (fun h36 => ?_) (fun h36 => ?_)
      · refine ev_go rfl ?_
        refine ev_end rfl ?_
        show some (mv_R _ M) = some (mv_R _ M)
        unfold aq_cc
        grind
      · iterate 2 refine ev_go rfl ?_
        refine ev_end rfl ?_
        show some (mv_R _ M) = some (mv_R _ M)
        unfold aq_cc
        grind
    · refine ev_go rfl ?_
      refine ev_end rfl ?_
      show some (mv_R _ M) = some (mv_R _ M)
      unfold aq_cc
      grind
  · iterate 2 refine ev_go rfl ?_
    refine ev_end rfl ?_
    show some (mv_R _ M) = some (mv_R _ M)
    unfold aq_cc
    grind
theorem pl_isCandidate {a : Nat} (ha : a < 24) (hr : vs_rw A a) (hb : rc_b A M) (ht : ∀ c, -1 ≤ A.1 21 c) : mj_C0 X (d + 2) mt_L_isCandidate [mv_p 1, mv_i (nI a)] M (mv_R (aq_ca A a) M) := by
  have h1 : mj_in (nI a) 24 := nI_in ha (by decide)
  have h2 : (nI a).toNatClampNeg = a := nI_clamp (by omega)
  have e5 : M.1 (pr_ a) 5 = A.1 18 a := hb.1 a ha 5 (by decide)
  have e6 : M.1 (pr_ a) 6 = A.1 19 a := hb.1 a ha 6 (by decide)
  have e7 : M.1 (pr_ a) 7 = A.1 20 a := hb.1 a ha 7 (by decide)
  have f5 := hb.2.2.2.1
  have f6 := hb.2.2.2.2
  iterate 3 refine ev_go rfl ?_
  refine ev_ok h1 rfl ?_
  rw [h2]
  iterate 3 refine ev_go rfl ?_
  refine ev_ok ⟨ha, by decide⟩ rfl ?_
  simp only [tn_6]
  rw [e6]
  refine ev_if rfl (fun h11 => ?_) (fun h11 => ?_)
  · iterate 2 refine ev_go rfl ?_
    refine ev_ok ⟨ha, by decide⟩ rfl ?_
    simp only [tn_7]
    rw [e7]
    refine ev_if rfl (fun h18 => ?_) (fun h18 => ?_)
    · iterate 2 refine ev_go rfl ?_
      refine ev_ok ⟨ha, by decide⟩ rfl ?_
      iterate 4 refine ev_go rfl ?_
      simp only [tn_5]
      rw [e5, f5, f6]
      refine ev_callr rfl rfl rfl pe_isWithin ?_
      refine ev_if rfl (fun h35 => ?_) (fun h35 => ?_)
      · refine ev_go rfl ?_
        refine ev_end rfl ?_
        show some (mv_R _ M) = some (mv_R _ M)
        unfold aq_ca
        try unfold pd_wi at *
        try unfold aq_cc at *
        grind
      · iterate 2 refine ev_go rfl ?_
        refine ev_callr rfl rfl rfl (pl_isAtCountedCell ha hr hb ht) ?_
        refine ev_if rfl (fun h43 => ?_) (fun h43 => ?_)
        · refine ev_go rfl ?_
          refine ev_end rfl ?_
          show some (mv_R _ M) = some (mv_R _ M)
          unfold aq_ca
          try unfold pd_wi at *
          try unfold aq_cc at *
          grind
        · iterate 2 refine ev_go rfl ?_
          refine ev_end rfl ?_
          show some (mv_R _ M) = some (mv_R _ M)
          unfold aq_ca
          try unfold pd_wi at *
          try unfold aq_cc at *
          grind
    · refine ev_go rfl ?_
      refine ev_end rfl ?_
      show some (mv_R _ M) = some (mv_R _ M)
      unfold aq_ca
      try unfold pd_wi at *
      try unfold aq_cc at *
      grind
  · refine ev_go rfl ?_
    refine ev_end rfl ?_
    show some (mv_R _ M) = some (mv_R _ M)
    unfold aq_ca
    try unfold pd_wi at *
    try unfold aq_cc at *
    grind
theorem pl_candidates_l {X : Nat × (Nat → Int32)} {d : Nat} {M A : mj_M} (hv : vs_A A) (hb : rc_b A M) : ∀ j k, k + j = aq_n A → mj_Ev mj_S0 X mj_P (d + 3) mt_L_candidates 4 (mj_up (mj_up (fun j => [mv_p 1][j]?) 1 (mv_i (sm (aq_ca A) k))) 2 (mv_i (nI k))) [] M 0 (mv_R (sm (aq_ca A) (aq_n A)) M) := by
  have hl := hv.1.2
  intro j
  induction j with
  | zero =>
    intro k hk
    iterate 3 refine ev_go rfl ?_
    refine ev_if rfl (fun h9 => ?_) (fun h9 => ?_)
    · refine ev_go rfl ?_
      refine ev_end rfl ?_
      show some _ = some _
      rw [show aq_n A = k by omega]
    · exact absurd (show M.1 1 3 ≤ nI k by rw [hb.2.2.1.trans hv.1.1]; exact nI_le (by omega) (by omega)) h9
  | succ j ih =>
    intro k hk
    iterate 3 refine ev_go rfl ?_
    refine ev_if rfl (fun h9 => ?_) (fun h9 => ?_)
    · exact absurd h9 (by rw [hb.2.2.1.trans hv.1.1]; exact nI_ge (by omega) (by omega))
    · iterate 2 refine ev_go rfl ?_
      refine ev_callr rfl rfl rfl (pl_isCandidate (by omega) (hv.2.1 k (by omega)) hb hv.2.2.2.2.2.1) ?_
      refine ev_if rfl (fun h17 => ?_) (fun h17 => ?_)
      · iterate 2 refine ev_go rfl ?_
        refine ev_lo ?_ (ih (k + 1) (by omega))
        rw [nI_1]
        have ea : sm (aq_ca A) (k + 1) = sm (aq_ca A) k + (aq_ca A) k := rfl
        rw [ea]
        first
          | (have ev : (aq_ca A) k = 0 := h17
             rw [ev, Int32.add_zero, mj_upo])
          | (have ev : (aq_ca A) k = 1 := (by rcases aq_ca01 A k with q | q
                                              · exact absurd q h17
                                              · exact q)
             rw [ev]
             exact mj_upn (i := 1) (j := 2) (by decide))
      · iterate 3 refine ev_go rfl ?_
        refine ev_lo ?_ (ih (k + 1) (by omega))
        rw [nI_1]
        have ea : sm (aq_ca A) (k + 1) = sm (aq_ca A) k + (aq_ca A) k := rfl
        rw [ea]
        first
          | (have ev : (aq_ca A) k = 0 := h17
             rw [ev, Int32.add_zero, mj_upo])
          | (have ev : (aq_ca A) k = 1 := (by rcases aq_ca01 A k with q | q
                                              · exact absurd q h17
                                              · exact q)
             rw [ev]
             exact mj_upn (i := 1) (j := 2) (by decide))
theorem pl_candidates (hv : vs_A A) (hb : rc_b A M) : mj_C0 X (d + 3) mt_L_candidates [mv_p 1] M (mv_R (sm (aq_ca A) (aq_n A)) M) := by
  iterate 4 refine ev_go rfl ?_
  exact pl_candidates_l hv hb (aq_n A) 0 (by omega)
theorem pl_actsWith_l {X : Nat × (Nat → Int32)} {d : Nat} {M A : mj_M} {w : Nat} {v : Int32} (hv : vs_A A) (hb : rc_b A M) (hw : w < 8) : ∀ j k, k + j = aq_n A → mj_Ev mj_S0 X mj_P (d) mt_L_actsWith 5 (mj_up (mj_up (fun j => [mv_p 1, mv_i (nI w), mv_i v][j]?) 3 (mv_i (sm (aq_ci A w v) k))) 4 (mv_i (nI k))) [] M 0 (mv_R (sm (aq_ci A w v) (aq_n A)) M) := by
  have hl := hv.1.2
  intro j
  induction j with
  | zero =>
    intro k hk
    iterate 3 refine ev_go rfl ?_
    refine ev_if rfl (fun h11 => ?_) (fun h11 => ?_)
    · refine ev_go rfl ?_
      refine ev_end rfl ?_
      show some _ = some _
      rw [show aq_n A = k by omega]
    · exact absurd (show M.1 1 3 ≤ nI k by rw [hb.2.2.1.trans hv.1.1]; exact nI_le (by omega) (by omega)) h11
  | succ j ih =>
    intro k hk
    iterate 3 refine ev_go rfl ?_
    refine ev_if rfl (fun h11 => ?_) (fun h11 => ?_)
    · exact absurd h11 (by rw [hb.2.2.1.trans hv.1.1]; exact nI_ge (by omega) (by omega))
    · iterate 3 refine ev_go rfl ?_
      refine ev_ok (nI_in (show k < 24 by omega) (by decide)) rfl ?_
      rw [nI_clamp (by omega)]
      refine ev_go rfl ?_
      refine ev_ok ⟨by omega, nI_in hw (by decide)⟩ rfl ?_
      rw [nI_clamp (by omega)]
      rw [hb.1 k (by omega) w hw]
      refine ev_go rfl ?_
      refine ev_if rfl (fun h24 => ?_) (fun h24 => ?_)
      · iterate 3 refine ev_go rfl ?_
        refine ev_lo ?_ (ih (k + 1) (by omega))
        rw [nI_1]
        have ea : sm (aq_ci A w v) (k + 1) = sm (aq_ci A w v) k + (aq_ci A w v) k := rfl
        rw [ea]
        first
          | (have ev : (aq_ci A w v) k = 0 := if_neg h24
             rw [ev, Int32.add_zero, mj_upo])
          | (have ev : (aq_ci A w v) k = 1 := if_pos h24
             rw [ev]
             exact mj_upn (i := 3) (j := 4) (by decide))
      · iterate 2 refine ev_go rfl ?_
        refine ev_lo ?_ (ih (k + 1) (by omega))
        rw [nI_1]
        have ea : sm (aq_ci A w v) (k + 1) = sm (aq_ci A w v) k + (aq_ci A w v) k := rfl
        rw [ea]
        first
          | (have ev : (aq_ci A w v) k = 0 := if_neg h24
             rw [ev, Int32.add_zero, mj_upo])
          | (have ev : (aq_ci A w v) k = 1 := if_pos h24
             rw [ev]
             exact mj_upn (i := 3) (j := 4) (by decide))
theorem pl_actsWith {w : Nat} {v : Int32} (hv : vs_A A) (hb : rc_b A M) (hw : w < 8) : mj_C0 X d mt_L_actsWith [mv_p 1, mv_i (nI w), mv_i v] M (mv_R (sm (aq_ci A w v) (aq_n A)) M) := by
  iterate 4 refine ev_go rfl ?_
  exact pl_actsWith_l hv hb hw (aq_n A) 0 (by omega)
theorem pl_countedCells_l {X : Nat × (Nat → Int32)} {d : Nat} {M A : mj_M} (hb : rc_b A M) (ht : ∀ c, -1 ≤ A.1 21 c) : ∀ j k, k + j = 60 → mj_Ev mj_S0 X mj_P (d + 1) mt_L_countedCells 4 (mj_up (mj_up (fun j => [mv_p 1][j]?) 1 (mv_i (sm (aq_so A) k))) 2 (mv_i (nI k))) [] M 0 (mv_R (sm (aq_so A) 60) M) := by
  intro j
  induction j with
  | zero =>
    intro k hk
    iterate 2 refine ev_go rfl ?_
    refine ev_if rfl (fun h7 => ?_) (fun h7 => ?_)
    · refine ev_go rfl ?_
      refine ev_end rfl ?_
      show some _ = some _
      rw [show k = 60 by omega]
    · exact absurd (show (60 : Int32) ≤ nI k by rw [show (60 : Int32) = nI 60 from rfl]; exact nI_le (by omega) (by omega)) h7
  | succ j ih =>
    intro k hk
    iterate 2 refine ev_go rfl ?_
    refine ev_if rfl (fun h7 => ?_) (fun h7 => ?_)
    · exact absurd h7 (by rw [show (60 : Int32) = nI 60 from rfl]; exact nI_ge (by omega) (by omega))
    · iterate 2 refine ev_go rfl ?_
      refine ev_callr rfl rfl rfl (pl_isCounted (by omega)) ?_
      rw [show pd_ct M k = aq_so A k by unfold pd_ct aq_so; rw [hb.2.1 k (by omega)]; simp only [i_m1 (ht _)]]
      refine ev_if rfl (fun h15 => ?_) (fun h15 => ?_)
      · iterate 2 refine ev_go rfl ?_
        refine ev_lo ?_ (ih (k + 1) (by omega))
        rw [nI_1]
        have ea : sm (aq_so A) (k + 1) = sm (aq_so A) k + (aq_so A) k := rfl
        rw [ea]
        first
          | (have ev : (aq_so A) k = 0 := h15
             rw [ev, Int32.add_zero, mj_upo])
          | (have ev : (aq_so A) k = 1 := (by
               unfold aq_so at h15 ⊢
               split
               · rename_i q
                 exact absurd (if_pos q) h15
               · rfl)
             rw [ev]
             exact mj_upn (i := 1) (j := 2) (by decide))
      · iterate 3 refine ev_go rfl ?_
        refine ev_lo ?_ (ih (k + 1) (by omega))
        rw [nI_1]
        have ea : sm (aq_so A) (k + 1) = sm (aq_so A) k + (aq_so A) k := rfl
        rw [ea]
        first
          | (have ev : (aq_so A) k = 0 := h15
             rw [ev, Int32.add_zero, mj_upo])
          | (have ev : (aq_so A) k = 1 := (by
               unfold aq_so at h15 ⊢
               split
               · rename_i q
                 exact absurd (if_pos q) h15
               · rfl)
             rw [ev]
             exact mj_upn (i := 1) (j := 2) (by decide))
theorem pl_countedCells (hb : rc_b A M) (ht : ∀ c, -1 ≤ A.1 21 c) : mj_C0 X (d + 1) mt_L_countedCells [mv_p 1] M (mv_R (sm (aq_so A) 60) M) := by
  iterate 4 refine ev_go rfl ?_
  exact pl_countedCells_l hb ht 60 0 (by omega)
theorem pd_w {c : Nat} {L : Nat → Int32} (hc : c < 60) (hb : rc_b A M) (hL : rc_L A L M) (ht : ∀ c, -1 ≤ A.1 21 c) : pd_dif M c = aq_w A L c := by
  unfold pd_dif aq_w aq_df
  rw [hb.2.1 c hc, hL.1 c hc]
  have := ht c
  grind
theorem pd_ab {c : Nat} (hc : c < 60) (hb : rc_b A M) (hL : rc_L A (aq_E A) M) (ht : ∀ c, -1 ≤ A.1 21 c) : pd_dif M c * (if 0 ≤ M.1 5 c - M.1 4 c then M.1 5 c - M.1 4 c else 0 - (M.1 5 c - M.1 4 c)) = aq_ab A c := by
  rw [pd_w hc hb hL ht, hb.2.1 c hc, hL.1 c hc]
  unfold aq_ab aq_w aq_df
  have := ht c
  grind
theorem pl_pieces_l {X : Nat × (Nat → Int32)} {d : Nat} {M A : mj_M} (hb : rc_b A M) (hL : rc_L A (aq_E A) M) (ht : ∀ c, -1 ≤ A.1 21 c) : ∀ j k, k + j = 60 → mj_Ev mj_S0 X mj_P (d + 1) mt_L_piecesOfDifferences 4 (mj_up (mj_up (fun j => [mv_p 1][j]?) 1 (mv_i (sm (aq_ab A) k))) 2 (mv_i (nI k))) [] M 0 (mv_R (sm (aq_ab A) 60) M) := by
  intro j
  induction j with
  | zero =>
    intro k hk
    iterate 2 refine ev_go rfl ?_
    refine ev_if rfl (fun h7 => ?_) (fun h7 => ?_)
    · refine ev_go rfl ?_
      refine ev_end rfl ?_
      show some _ = some _
      rw [show k = 60 by omega]
    · exact absurd (show (60 : Int32) ≤ nI k by rw [show (60 : Int32) = nI 60 from rfl]; exact nI_le (by omega) (by omega)) h7
  | succ j ih =>
    intro k hk
    iterate 2 refine ev_go rfl ?_
    refine ev_if rfl (fun h7 => ?_) (fun h7 => ?_)
    · exact absurd h7 (by rw [show (60 : Int32) = nI 60 from rfl]; exact nI_ge (by omega) (by omega))
    · iterate 3 refine ev_go rfl ?_
      refine ev_callr rfl rfl rfl (pl_differs (by omega)) ?_
      iterate 2 refine ev_go rfl ?_
      refine ev_callr rfl rfl rfl (pl_gap (by omega)) ?_
      iterate 6 refine ev_go rfl ?_
      refine ev_lo ?_ (ih (k + 1) (by omega))
      rw [nI_1]
      have ea : sm (aq_ab A) (k + 1) = sm (aq_ab A) k + aq_ab A k := rfl
      rw [ea, ← pd_ab (by omega) hb hL ht]
      exact mj_upn (i := 1) (j := 2) (by decide)
theorem pl_pieces (hb : rc_b A M) (hL : rc_L A (aq_E A) M) (ht : ∀ c, -1 ≤ A.1 21 c) : mj_C0 X (d + 1) mt_L_piecesOfDifferences [mv_p 1] M (mv_R (sm (aq_ab A) 60) M) := by
  iterate 4 refine ev_go rfl ?_
  exact pl_pieces_l hb hL ht 60 0 (by omega)
end
end
section
/-! the class's ledger: finding, carrying, adding, turning, telling -/
def aq_ia (A : mj_M) (a : Nat) (c : Int32) : Int32 := if 6 * A.1 14 a + A.1 16 a = c ∨ (A.1 13 a = 2 ∧ 6 * A.1 15 a + A.1 16 a = c) then 1 else 0
theorem aq_ia0 {A : mj_M} {a : Nat} {c : Int32} (hr : vs_rw A a) : aq_ia A a c = 0 ↔ aq_ad A a c = 0 := by
  obtain ⟨p, g, -, -, -, -, -, h1, h2, -⟩ := hr
  unfold aq_ia aq_ad
  grind
/-- a class's call that changes only what is expected -/
def fl_ (M M' : mj_M) : Prop := M'.2 = M.2 ∧ ∀ q j, ¬ (q = 4 ∨ (q = 1 ∧ j = 4)) → M'.1 q j = M.1 q j
theorem fl_.refl (M : mj_M) : fl_ M M := ⟨rfl, fun _ _ _ => rfl⟩
theorem fl_.trans {M M' M'' : mj_M} (h : fl_ M M') (h' : fl_ M' M'') : fl_ M M'' := ⟨h'.1.trans h.1, fun q j hq => (h'.2 q j hq).trans (h.2 q j hq)⟩
theorem fl_.st {M M' : mj_M} (h : fl_ M M') {q j : Nat} {x : Int32} (h1 : q = 4 ∨ (q = 1 ∧ j = 4)) : fl_ M (mj_st M' q j x) := ⟨h.1, fun q' j' hq => by rw [pm_st1 (by omega)]; exact h.2 q' j' hq⟩
theorem fl_.fc {M M' : mj_M} (h : fl_ M M') : fc_ M M' := fun q j h1 h2 => h.2 q j (by omega)
theorem fl_.rb {A M M' : mj_M} (h : fl_ M M') (hb : rc_b A M) : rc_b A M' := by
  obtain ⟨a1, a2, a3, a4, a5⟩ := hb
  refine ⟨fun a ha j hj => ?_, fun c hc => ?_, ?_, ?_, ?_⟩
  · rw [h.2 _ _ (by rw [pr_e]; omega)]; exact a1 a ha j hj
  · rw [h.2 _ _ (by omega)]; exact a2 c hc
  · rw [h.2 _ _ (by omega)]; exact a3
  · rw [h.2 _ _ (by omega)]; exact a4
  · rw [h.2 _ _ (by omega)]; exact a5
theorem fl_.rs {A M M' : mj_M} (h : fl_ M M') (hb : rc_s A M) : rc_s A M' := by
  obtain ⟨c1, c2, c3, c4, c5⟩ := hb
  refine ⟨?_, ?_, ?_, fun a ha => ?_, fun i hi => ?_⟩
  · rw [h.2 _ _ (by omega)]; exact c1
  · rw [h.2 _ _ (by omega)]; exact c2
  · rw [h.2 _ _ (by omega)]; exact c3
  · rw [h.2 _ _ (by omega)]; exact c4 a ha
  · rw [h.2 _ _ (by omega), h.2 _ _ (by omega)]; exact c5 i hi
theorem fl_sh (M : mj_M) (c : Nat) (v : Int32) : fl_ M (pm_sh M c v) := ((fl_.refl M).st (by omega)).st (by omega)
theorem fl_ca (M : mj_M) (a : Nat) (t : Int32) : fl_ M (pm_ca M a t) := by
  unfold pm_ca pm_ca1
  split
  · exact (fl_sh _ _ _).trans (fl_sh _ _ _)
  · exact fl_sh _ _ _
theorem rc_L.congr {A M : mj_M} {L L' : Nat → Int32} (h : rc_L A L M) (e : ∀ c, c < 60 → L c = L' c) : rc_L A L' M := ⟨fun c hc => by rw [h.1 c hc, e c hc], by rw [h.2, aq_nd_c e]⟩
section
variable {X : Nat × (Nat → Int32)} {d : Nat} {M A s : mj_M} {L : Nat → Int32}
theorem pl_isAt {a : Nat} {c : Int32} (ha : a < 24) (hb : rc_b A M) : mj_C0 X (d + 1) mt_L_isAt [mv_r a, mv_i c] M (mv_R (aq_ia A a c) M) := by
  have e0 : M.1 (pr_ a) 0 = A.1 13 a := hb.1 a ha 0 (by decide)
  have e1 : M.1 (pr_ a) 1 = A.1 14 a := hb.1 a ha 1 (by decide)
  have e2 : M.1 (pr_ a) 2 = A.1 15 a := hb.1 a ha 2 (by decide)
  have e3 : M.1 (pr_ a) 3 = A.1 16 a := hb.1 a ha 3 (by decide)
  iterate 2 refine ev_go rfl ?_
  refine ev_ok ⟨ha, by decide⟩ rfl ?_
  iterate 2 refine ev_go rfl ?_
  refine ev_ok ⟨ha, by decide⟩ rfl ?_
  refine ev_callr rfl rfl rfl pe_cellOf ?_
  refine ev_go rfl ?_
  simp only [tn_1, tn_3]
  rw [e1, e3, Int32.mul_comm]
  refine ev_if rfl (fun h10 => ?_) (fun h10 => ?_)
  · iterate 2 refine ev_go rfl ?_
    refine ev_end rfl ?_
    show some (mv_R _ M) = some (mv_R _ M)
    unfold aq_ia
    grind
  · iterate 2 refine ev_go rfl ?_
    refine ev_ok ⟨ha, by decide⟩ rfl ?_
    refine ev_go rfl ?_
    simp only [tn_0]
    rw [e0]
    refine ev_if rfl (fun h17 => ?_) (fun h17 => ?_)
    · iterate 2 refine ev_go rfl ?_
      refine ev_ok ⟨ha, by decide⟩ rfl ?_
      iterate 2 refine ev_go rfl ?_
      refine ev_ok ⟨ha, by decide⟩ rfl ?_
      refine ev_callr rfl rfl rfl pe_cellOf ?_
      refine ev_go rfl ?_
      simp only [tn_2, tn_3]
      rw [e2, e3, Int32.mul_comm]
      refine ev_if rfl (fun h30 => ?_) (fun h30 => ?_)
      · iterate 2 refine ev_go rfl ?_
        refine ev_end rfl ?_
        show some (mv_R _ M) = some (mv_R _ M)
        unfold aq_ia
        grind
      · refine ev_go rfl ?_
        refine ev_end rfl ?_
        show some (mv_R _ M) = some (mv_R _ M)
        unfold aq_ia
        grind
    · refine ev_go rfl ?_
      refine ev_end rfl ?_
      show some (mv_R _ M) = some (mv_R _ M)
      unfold aq_ia
      grind
theorem pl_actAt_l {c i : Int32} (hv : vs_A A) (hb : rc_b A M) : ∀ j k b, k + j = aq_n A → mj_Ev mj_S0 X mj_P (d + 2) mt_L_actAt 5 (mj_up (mj_up (fun j => [mv_p 1, mv_i c, mv_i i][j]?) 3 (mv_i b)) 4 (mv_i (nI k))) [] M 0 (mv_R (aq_fo (fun a => aq_ad A a c) i j k b) M) := by
  have hn : M.1 1 3 = nI (aq_n A) := hb.2.2.1.trans hv.1.1
  have hl := hv.1.2
  intro j
  induction j with
  | zero =>
    intro k b hk
    iterate 3 refine ev_go rfl ?_
    refine ev_if rfl (fun h11 => ?_) (fun h11 => ?_)
    · refine ev_go rfl ?_
      refine ev_end rfl ?_
      rfl
    · exact absurd (show M.1 1 3 ≤ nI k by rw [hn]; exact nI_le (by omega) (by omega)) h11
  | succ j ih =>
    intro k b hk
    have hx := aq_ia0 (c := c) (hv.2.1 k (by omega))
    iterate 3 refine ev_go rfl ?_
    refine ev_if rfl (fun h11 => ?_) (fun h11 => ?_)
    · exact absurd h11 (by rw [hn]; exact nI_ge (by omega) (by omega))
    · iterate 3 refine ev_go rfl ?_
      refine ev_ok (nI_in (show k < 24 by omega) (by decide)) rfl ?_
      rw [nI_clamp (by omega)]
      refine ev_go rfl ?_
      refine ev_callr rfl rfl rfl (pl_isAt (by omega) hb) ?_
      refine ev_if rfl (fun h25 => ?_) (fun h25 => ?_)
      · first
          | (have k74 := h30)
          | (have k68 : aq_ad A k c = 0 := hx.1 h25)
        iterate 2 refine ev_go rfl ?_
        first
          | (have e : aq_fo (fun a => aq_ad A a c) i (j + 1) k b = aq_fo (fun a => aq_ad A a c) i j (k + 1) b := if_pos k68
             rw [e]
             refine ev_lo ?_ (ih (k + 1) b (by omega))
             rw [nI_1, mj_upo])
          | (have e : aq_fo (fun a => aq_ad A a c) i (j + 1) k b = aq_fo (fun a => aq_ad A a c) i j (k + 1) (b + 1) := (if_neg k68).trans (if_neg h30)
             rw [e]
             refine ev_lo ?_ (ih (k + 1) (b + 1) (by omega))
             rw [nI_1]
             exact mj_upn (i := 3) (j := 4) (by decide))
      · have k68 : ¬ aq_ad A k c = 0 := fun q => h25 (hx.2 q)
        iterate 2 refine ev_go rfl ?_
        refine ev_if rfl (fun h30 => ?_) (fun h30 => ?_)
        · refine ev_go rfl ?_
          refine ev_end rfl ?_
          show some _ = some _
          rw [show aq_fo (fun a => aq_ad A a c) i (j + 1) k b = nI k from (if_neg k68).trans (if_pos h30)]
        · refine ev_go rfl ?_
          first
            | (have k74 := h30)
            | (have k68 : aq_ad A k c = 0 := hx.1 h25)
          iterate 2 refine ev_go rfl ?_
          first
            | (have e : aq_fo (fun a => aq_ad A a c) i (j + 1) k b = aq_fo (fun a => aq_ad A a c) i j (k + 1) b := if_pos k68
               rw [e]
               refine ev_lo ?_ (ih (k + 1) b (by omega))
               rw [nI_1, mj_upo])
            | (have e : aq_fo (fun a => aq_ad A a c) i (j + 1) k b = aq_fo (fun a => aq_ad A a c) i j (k + 1) (b + 1) := (if_neg k68).trans (if_neg h30)
               rw [e]
               refine ev_lo ?_ (ih (k + 1) (b + 1) (by omega))
               rw [nI_1]
               exact mj_upn (i := 3) (j := 4) (by decide))
theorem pl_actAt {c i : Int32} (hv : vs_A A) (hb : rc_b A M) : mj_C0 X (d + 2) mt_L_actAt [mv_p 1, mv_i c, mv_i i] M (mv_R (aq_fo (fun a => aq_ad A a c) i (aq_n A) 0 0) M) := by
  iterate 4 refine ev_go rfl ?_
  exact pl_actAt_l hv hb (aq_n A) 0 0 (by omega)
theorem pl_differingCell_l {c i : Nat} (hb : rc_b A M) (hL : rc_L A (aq_E A) M) (ht : ∀ c, -1 ≤ A.1 21 c) (hc : c < 60) (h1 : ct (aq_df A (aq_E A)) c = i) (h2 : ¬ aq_df A (aq_E A) c = 0) : ∀ j k, k + j = c → mj_Ev mj_S0 X mj_P (d + 1) mt_L_differingCell 8 (mj_up (mj_up (fun j => [mv_p 1, mv_i (nI i)][j]?) 2 (mv_i (nI k))) 3 (mv_i (nI (ct (aq_df A (aq_E A)) (k + 1))))) [] M 0 (mv_R (nI c) M) := by
  have hu : ∀ k, ct (aq_df A (aq_E A)) k ≤ k := ct_le _
  intro j
  induction j with
  | zero =>
    intro k hk
    have ek : k = c := by omega
    subst ek
    have e3 := ct_1 h2
    have u1 := hu k
    iterate 2 refine ev_go rfl ?_
    refine ev_if rfl (fun h10 => ?_) (fun h10 => ?_)
    · refine ev_go rfl ?_
      refine ev_end rfl ?_
      rfl
    · exact absurd (nI_lt (show i < ct (aq_df A (aq_E A)) (k + 1) by omega) (by omega)) h10
  | succ j ih =>
    intro k hk
    have u1 := hu (k + 1)
    have u2 : ct (aq_df A (aq_E A)) (k + 1) ≤ i := by rw [← h1]; exact ct_mono _ (by omega)
    iterate 2 refine ev_go rfl ?_
    refine ev_if rfl (fun h10 => ?_) (fun h10 => ?_)
    · first
        | exact absurd h10 (nI_nlt u2 (by have := hu c; omega))
        | exact absurd h16 (by rw [show (59 : Int32) = nI 59 from rfl]; exact nI_ge (by omega) (by omega))
    · iterate 2 refine ev_go rfl ?_
      refine ev_if rfl (fun h16 => ?_) (fun h16 => ?_)
      · first
          | exact absurd h10 (nI_nlt u2 (by have := hu c; omega))
          | exact absurd h16 (by rw [show (59 : Int32) = nI 59 from rfl]; exact nI_ge (by omega) (by omega))
      · refine ev_go rfl ?_
        rw [nI_1]
        iterate 3 refine ev_go rfl ?_
        refine ev_callr rfl rfl rfl (pl_differs (by omega)) ?_
        rw [pd_w (by omega) hb hL ht]
        iterate 3 refine ev_go rfl ?_
        refine ev_lo ?_ (ih (k + 1) (by omega))
        by_cases q : aq_df A (aq_E A) (k + 1) = 0
        · rw [ct_0 q, show aq_w A (aq_E A) (k + 1) = 0 from if_pos q]
          show mj_up (mj_up (mj_up (mj_up _ 2 _) 3 _) 2 _) 3 (mv_i (nI (ct (aq_df A (aq_E A)) (k + 1)) + 0)) = _
          rw [Int32.add_zero]
          exact mj_upn (i := 2) (j := 3) (by decide)
        · rw [ct_1 q, show aq_w A (aq_E A) (k + 1) = 1 from if_neg q]
          show mj_up (mj_up (mj_up (mj_up _ 2 _) 3 _) 2 _) 3 (mv_i (nI (ct (aq_df A (aq_E A)) (k + 1)) + 1)) = _
          rw [nI_1]
          exact mj_upn (i := 2) (j := 3) (by decide)
theorem pl_differingCell {c i : Nat} (hb : rc_b A M) (hL : rc_L A (aq_E A) M) (ht : ∀ c, -1 ≤ A.1 21 c) (hc : c < 60) (h1 : ct (aq_df A (aq_E A)) c = i) (h2 : ¬ aq_df A (aq_E A) c = 0) : mj_C0 X (d + 1) mt_L_differingCell [mv_p 1, mv_i (nI i)] M (mv_R (nI c) M) := by
  have key := pl_differingCell_l (X := X) (d := d) hb hL ht hc h1 h2 c 0 (by omega)
  have e0 : pd_dif M 0 = nI (ct (aq_df A (aq_E A)) (0 + 1)) := by
    rw [pd_w (by decide) hb hL ht]
    by_cases q : aq_df A (aq_E A) 0 = 0
    · rw [ct_0 q]
      exact if_pos q
    · rw [ct_1 q]
      exact if_neg q
  iterate 4 refine ev_go rfl ?_
  refine ev_callr rfl rfl rfl (pl_differs (c := 0) (by decide)) ?_
  rw [show pd_dif M 0 = _ from e0]
  refine ev_go rfl ?_
  exact key
theorem rc_sh {c : Nat} {v : Int32} (hc : c < 60) (hb : rc_b A M) (hL : rc_L A L M) (ht : ∀ c, -1 ≤ A.1 21 c) : rc_L A (aq_sb L c (-v)) (pm_sh M c v) := by
  have f1 : fl_ M (mj_st M 4 c (M.1 4 c + v)) := (fl_.refl M).st (by omega)
  have k4 : ∀ z, z < 60 → (mj_st M 4 c (M.1 4 c + v)).1 4 z = aq_sb L c (-v) z := fun z hz => by
    unfold aq_sb
    by_cases q : z = c
    · rw [q, pm_st0, if_pos rfl, hL.1 c hc]
      grind
    · rw [pm_st1 (by omega), if_neg q, hL.1 z hz]
  refine ⟨fun z hz => ?_, ?_⟩
  · unfold pm_sh
    rw [pm_st1 (by omega)]
    exact k4 z hz
  · unfold pm_sh
    rw [pm_st0, aq_nd_one hc, hL.2, pd_w hc hb hL ht]
    have e : pd_dif (mj_st M 4 c (M.1 4 c + v)) c = aq_w A (aq_sb L c (-v)) c := by
      unfold pd_dif aq_w aq_df
      rw [k4 c hc, pm_st1 (by omega), hb.2.1 c hc]
      have := ht c
      grind
    rw [e]
theorem rc_ca {a : Nat} {t : Int32} (ha : a < 24) (hr : vs_rw A a) (hb : rc_b A M) (hL : rc_L A L M) (ht : ∀ c, -1 ≤ A.1 21 c) : rc_L A (fun z => L z + t * aq_ad A a (nI z)) (pm_ca M a t) := by
  obtain ⟨hp, g1, g2⟩ := hb.pv ha hr
  have e0 : M.1 (pr_ a) 0 = A.1 13 a := hb.1 a ha 0 (by decide)
  have e4 : M.1 (pr_ a) 4 = A.1 17 a := hb.1 a ha 4 (by decide)
  obtain ⟨c1, l1⟩ := hr.c1
  unfold pm_ca pm_ca1
  rw [e0, e4, g1, g2]
  have r1 := rc_sh (v := if A.1 13 a = 0 then A.1 17 a * t else -(A.1 17 a * t)) l1 hb hL ht
  have f1 := fl_sh M (aq_c1 A a) (if A.1 13 a = 0 then A.1 17 a * t else -(A.1 17 a * t))
  have d1 : ¬ (A.1 13 a = 2 ∧ nI (aq_c1 A a) = 6 * A.1 15 a + A.1 16 a) := by
    rintro ⟨q1, q2⟩
    obtain ⟨c2, l2, n2⟩ := hr.c2 q1
    rw [c2, nI_eq (by omega) (by omega)] at q2
    exact n2 q2.symm
  have v1 : aq_ad A a (nI (aq_c1 A a)) = if A.1 13 a = 0 then A.1 17 a else -A.1 17 a := by
    unfold aq_ad
    rw [if_neg d1, if_pos c1.symm]
  by_cases hk : A.1 13 a = 2
  · obtain ⟨c2, l2, n2⟩ := hr.c2 hk
    have v2 : aq_ad A a (nI (aq_c2 A a)) = A.1 17 a := by
      unfold aq_ad
      rw [if_pos ⟨hk, c2.symm⟩]
    rw [if_pos hk]
    refine (rc_sh l2 (f1.rb hb) r1 ht).congr (fun z hz => ?_)
    unfold aq_sb
    by_cases z1 : z = aq_c1 A a
    · rw [if_neg (by omega), if_pos z1, z1, v1]
      split <;> grind
    · rw [if_neg z1]
      by_cases z2 : z = aq_c2 A a
      · rw [if_pos z2, z2, v2]
        grind
      · rw [if_neg z2, aq_ad0 hr hz z1 (fun _ => z2)]
        grind
  · rw [if_neg hk]
    refine r1.congr (fun z hz => ?_)
    unfold aq_sb
    by_cases z1 : z = aq_c1 A a
    · rw [if_pos z1, z1, v1]
      split <;> grind
    · rw [if_neg z1, aq_ad0 hr hz z1 (fun q => absurd q hk)]
      grind
end
end
section
/-! the class's ledger: telling, turning, adding keep the relation -/
theorem aq_ad_c {A M : mj_M} {a : Nat} (h : ∀ q, 13 ≤ q → q ≤ 17 → M.1 q a = A.1 q a) (c : Int32) : aq_ad M a c = aq_ad A a c := by
  unfold aq_ad
  rw [h 13 (by decide) (by decide), h 14 (by decide) (by decide), h 15 (by decide) (by decide), h 16 (by decide) (by decide), h 17 (by decide) (by decide)]
theorem aq_E_c {A M : mj_M} (h1 : M.1 12 1 = A.1 12 1) (h2 : ∀ a, a < aq_n A → ∀ q, (13 ≤ q ∧ q ≤ 17) ∨ q = 19 → M.1 q a = A.1 q a) : aq_E M = aq_E A := by
  funext c
  unfold aq_E aq_ex
  have e : aq_n M = aq_n A := by unfold aq_n; rw [h1]
  rw [e]
  refine sm_congr (fun a ha => ?_)
  rw [aq_ad_c (fun q h3 h4 => h2 a ha q (Or.inl ⟨h3, h4⟩))]
  unfold aq_tm
  rw [h2 a ha 19 (Or.inr rfl)]
theorem aq_nd_A {A A' : mj_M} {L : Nat → Int32} (h : ∀ c, A'.1 21 c = A.1 21 c) : aq_nd A' L = aq_nd A L := sm_congr (fun c _ => by unfold aq_w aq_df; rw [h c])
theorem aq_nd_21 {A : mj_M} {L : Nat → Int32} {c : Nat} {v : Int32} (hc : c < 60) : aq_nd (mj_st A 21 c v) L = aq_nd A L + (aq_w (mj_st A 21 c v) L c - aq_w A L c) := by
  have h := sm_one (f := aq_w A L) (g := aq_w (mj_st A 21 c v) L) (c := c) (fun k hk => by unfold aq_w aq_df; rw [pm_st1 (Or.inr hk)]) 60
  rw [if_pos hc] at h
  exact h
/-- the class's search fields and flag come along -/
theorem rc_s.A {A A' M : mj_M} (h : rc_s A M) (e : ∀ q j, (q = 12 ∧ (j = 14 ∨ j = 15 ∨ j = 17)) ∨ q = 22 ∨ q = 23 → A'.1 q j = A.1 q j) : rc_s A' M := by
  obtain ⟨c1, c2, c3, c4, c5⟩ := h
  refine ⟨?_, ?_, ?_, fun a ha => ?_, fun i hi => ?_⟩
  · rw [e _ _ (by omega)]; exact c1
  · rw [e _ _ (by omega)]; exact c2
  · rw [e _ _ (by omega)]; exact c3
  · rw [e _ _ (by omega)]; exact c4 a ha
  · rw [e _ _ (by omega)] at hi ⊢; exact c5 i hi
theorem rc_s.M {A M M' : mj_M} (h : rc_s A M) (e : ∀ q j, (q = 2 ∧ (j = 9 ∨ j = 10 ∨ j = 11)) ∨ (9 ≤ q ∧ q ≤ 11) → M'.1 q j = M.1 q j) : rc_s A M' := by
  obtain ⟨c1, c2, c3, c4, c5⟩ := h
  refine ⟨?_, ?_, ?_, fun a ha => ?_, fun i hi => ?_⟩
  · rw [e _ _ (by omega)]; exact c1
  · rw [e _ _ (by omega)]; exact c2
  · rw [e _ _ (by omega)]; exact c3
  · rw [e _ _ (by omega)]; exact c4 a ha
  · rw [e _ _ (by omega), e _ _ (by omega)]; exact c5 i hi
section
variable {X : Nat × (Nat → Int32)} {d : Nat} {M A s : mj_M} {L : Nat → Int32}
theorem rc_te {c : Nat} {v : Int32} (hc : c < 60) (h : rc_ A M) (ht : ∀ c, -1 ≤ A.1 21 c) (hv : -1 ≤ v) : rc_ (mj_st A 21 c v) (pm_te M c v) ∧ fc_ M (pm_te M c v) := by
  obtain ⟨hb, hL, hs, hf⟩ := h
  have eE : aq_E (mj_st A 21 c v) = aq_E A := aq_E_c (pm_st1 (by omega)) (fun a _ q hq => pm_st1 (by omega))
  have f : fc_ M (pm_te M c v) := ((fc_.refl M).st (by omega)).st (by omega)
  have ed : pd_dif (mj_st M 5 c v) c = aq_w (mj_st A 21 c v) (aq_E A) c := by
    unfold pd_dif aq_w aq_df
    rw [pm_st0, pm_st0, pm_st1 (by omega), hL.1 c hc]
    grind
  refine ⟨⟨⟨fun a ha j hj => ?_, fun z hz => ?_, ?_, ?_, ?_⟩, ⟨fun z hz => ?_, ?_⟩, ?_, ?_⟩, f⟩
  · unfold pm_te
    rw [pm_st1 (by rw [pr_e]; omega), pm_st1 (by rw [pr_e]; omega), pm_st1 (by omega)]
    exact hb.1 a ha j hj
  · unfold pm_te
    rw [pm_st1 (by omega)]
    by_cases q : z = c
    · rw [q, pm_st0, pm_st0]
    · rw [pm_st1 (by omega), pm_st1 (by omega)]
      exact hb.2.1 z hz
  · unfold pm_te
    rw [pm_st1 (by omega), pm_st1 (by omega), pm_st1 (by omega)]
    exact hb.2.2.1
  · unfold pm_te
    rw [pm_st1 (by omega), pm_st1 (by omega), pm_st1 (by omega)]
    exact hb.2.2.2.1
  · unfold pm_te
    rw [pm_st1 (by omega), pm_st1 (by omega), pm_st1 (by omega)]
    exact hb.2.2.2.2
  · rw [eE]
    unfold pm_te
    rw [pm_st1 (by omega), pm_st1 (by omega)]
    exact hL.1 z hz
  · rw [eE, aq_nd_21 hc]
    unfold pm_te
    rw [pm_st0, ed, pd_w hc hb hL ht, hL.2]
  · refine (hs.A (A' := mj_st A 21 c v) (fun q j hq => pm_st1 (by omega))).M (fun q j hq => ?_)
    unfold pm_te
    rw [pm_st1 (by omega), pm_st1 (by omega)]
  · unfold pm_te
    rw [pm_st1 (by omega), pm_st1 (by omega), pm_st1 (by omega)]
    exact hf
theorem pd_td_ts {x : Int32} (h : x = 0 ∨ x = 1 ∨ x = 2) : pd_td x = aq_ts x := by
  unfold pd_td aq_ts
  rcases h with h | h | h <;> subst h <;> decide
theorem aq_E_tu {a : Nat} {v : Int32} (ha : a < aq_n A) (c : Nat) : aq_E (mj_st A 19 a v) c = aq_E A c + (aq_ts v - aq_ts (A.1 19 a)) * aq_ad A a (nI c) := by
  unfold aq_E aq_ex
  have en : aq_n (mj_st A 19 a v) = aq_n A := by unfold aq_n; rw [pm_st1 (by omega)]
  have ead : ∀ k, aq_ad (mj_st A 19 a v) k (nI c) = aq_ad A k (nI c) := fun k => aq_ad_c (fun q h1 h2 => pm_st1 (by omega)) _
  rw [en]
  have h := sm_one (f := fun k => aq_tm A k * aq_ad A k (nI c)) (g := fun k => aq_tm (mj_st A 19 a v) k * aq_ad (mj_st A 19 a v) k (nI c)) (c := a) (fun k hk => by
    simp only [ead]
    unfold aq_tm
    rw [pm_st1 (Or.inr hk)]) (aq_n A)
  rw [if_pos ha] at h
  rw [h]
  simp only [ead]
  unfold aq_tm
  rw [pm_st0]
  grind
theorem rc_tu {a : Nat} {v : Int32} (ha : a < aq_n A) (hl : aq_n A ≤ 24) (hr : vs_rw A a) (hb : rc_b A M) (hL : rc_L A (aq_E A) M) (ht : ∀ c, -1 ≤ A.1 21 c) (hv : v = 0 ∨ v = 1 ∨ v = 2) (h0 : A.1 19 a = 0 ∨ A.1 19 a = 1 ∨ A.1 19 a = 2) : rc_b (mj_st A 19 a v) (pm_tu M a v) ∧ rc_L (mj_st A 19 a v) (aq_E (mj_st A 19 a v)) (pm_tu M a v) := by
  have a24 : a < 24 := by omega
  have e6 : M.1 (pr_ a) 6 = A.1 19 a := hb.1 a a24 6 (by decide)
  have b1 : rc_b (mj_st A 19 a v) (mj_st M (pr_ a) 6 v) := by
    refine ⟨fun z hz j hj => ?_, fun z hz => ?_, ?_, ?_, ?_⟩
    · by_cases q : z = a ∧ j = 6
      · obtain ⟨q1, q2⟩ := q
        subst q1 q2
        rw [pm_st0, pm_st0]
      · rw [pm_st1 (by rw [pr_e, pr_e]; omega), pm_st1 (by omega)]
        exact hb.1 z hz j hj
    · rw [pm_st1 (by rw [pr_e]; omega), pm_st1 (by omega)]
      exact hb.2.1 z hz
    · rw [pm_st1 (by rw [pr_e]; omega), pm_st1 (by omega)]
      exact hb.2.2.1
    · rw [pm_st1 (by rw [pr_e]; omega), pm_st1 (by omega)]
      exact hb.2.2.2.1
    · rw [pm_st1 (by rw [pr_e]; omega), pm_st1 (by omega)]
      exact hb.2.2.2.2
  have l1 : rc_L (mj_st A 19 a v) (aq_E A) (mj_st M (pr_ a) 6 v) := by
    refine ⟨fun z hz => ?_, ?_⟩
    · rw [pm_st1 (by rw [pr_e]; omega)]
      exact hL.1 z hz
    · rw [pm_st1 (by rw [pr_e]; omega), aq_nd_A (fun c => pm_st1 (by omega))]
      exact hL.2
  have r1 : vs_rw (mj_st A 19 a v) a := by
    unfold vs_rw
    rw [pm_st1 (by omega), pm_st1 (by omega), pm_st1 (by omega), pm_st1 (by omega), pm_st1 (by omega), pm_st1 (by omega)]
    exact hr
  have t1 : ∀ c, -1 ≤ (mj_st A 19 a v).1 21 c := fun c => by rw [pm_st1 (by omega)]; exact ht c
  unfold pm_tu
  refine ⟨(fl_ca _ _ _).rb b1, (rc_ca (t := pd_td v - pd_td (M.1 (pr_ a) 6)) a24 r1 b1 l1 t1).congr (fun c _ => ?_)⟩
  show aq_E A c + (pd_td v - pd_td (M.1 (pr_ a) 6)) * aq_ad (mj_st A 19 a v) a (nI c) = _
  rw [e6, pd_td_ts hv, pd_td_ts h0, aq_E_tu ha, aq_ad_c (fun q h1 h2 => pm_st1 (by omega))]
theorem fu_tu (M : mj_M) (a : Nat) (v : Int32) {q j : Nat} (h : ¬ (q = 4 ∨ (q = 1 ∧ j = 4)) ∧ q ≠ pr_ a) : (pm_tu M a v).1 q j = M.1 q j := by
  unfold pm_tu
  rw [(fl_ca _ _ _).2 q j h.1, pm_st1 (Or.inl h.2)]
theorem fc_tu (M : mj_M) (a : Nat) (v : Int32) : fc_ M (pm_tu M a v) := fun q j h1 h2 => fu_tu M a v (by rw [pr_e]; omega)
theorem tu_2 (M : mj_M) (a : Nat) (v : Int32) : (pm_tu M a v).2 = M.2 := by
  unfold pm_tu
  rw [(fl_ca _ _ _).1]
  rfl
/-- a new row -/
def pm_ar (M : mj_M) (N : Nat) (k p o g n w : Int32) : mj_M := mj_st (mj_st (mj_st (mj_st (mj_st (mj_st (mj_st M (pr_ N) 0 k) (pr_ N) 1 p) (pr_ N) 2 o) (pr_ N) 3 g) (pr_ N) 4 n) (pr_ N) 5 w) 1 3 (nI (N + 1))
theorem pl_add {N : Nat} {k p o g n w : Int32} (hn : M.1 1 3 = nI N) (hN : N < 24) (hr : pv_row (pm_ar M N k p o g n w) N) : mj_C0 X (d + 3) mt_L_add [mv_p 1, mv_i k, mv_i p, mv_i o, mv_i g, mv_i n, mv_i w] M (mv_R (nI N) (pm_ca (pm_ar M N k p o g n w) N 1)) := by
  have h1 : mj_in (nI N) 24 := nI_in hN (by decide)
  have h2 : (nI N).toNatClampNeg = N := nI_clamp (by omega)
  iterate 2 refine ev_go rfl ?_
  rw [hn]
  iterate 4 refine ev_go rfl ?_
  refine ev_ok h1 rfl ?_
  rw [h2]
  iterate 4 refine ev_go rfl ?_
  refine ev_ok ⟨hN, by decide⟩ rfl ?_
  iterate 3 refine ev_go rfl ?_
  refine ev_ok ⟨hN, by decide⟩ rfl ?_
  iterate 3 refine ev_go rfl ?_
  refine ev_ok ⟨hN, by decide⟩ rfl ?_
  iterate 3 refine ev_go rfl ?_
  refine ev_ok ⟨hN, by decide⟩ rfl ?_
  iterate 3 refine ev_go rfl ?_
  refine ev_ok ⟨hN, by decide⟩ rfl ?_
  iterate 3 refine ev_go rfl ?_
  refine ev_ok ⟨hN, by decide⟩ rfl ?_
  simp only [tn_0, tn_1, tn_2, tn_3, tn_4, tn_5]
  iterate 5 refine ev_go rfl ?_
  show mj_Ev _ _ _ _ _ _ _ [mv_i ((mj_st (mj_st (mj_st (mj_st (mj_st (mj_st M (pr_ N) 0 k) (pr_ N) 1 p) (pr_ N) 2 o) (pr_ N) 3 g) (pr_ N) 4 n) (pr_ N) 5 w).1 1 3 + 1), _] _ _ _
  rw [pm_st1 (by rw [pr_e]; omega), pm_st1 (by rw [pr_e]; omega), pm_st1 (by rw [pr_e]; omega), pm_st1 (by rw [pr_e]; omega), pm_st1 (by rw [pr_e]; omega), pm_st1 (by rw [pr_e]; omega), hn, nI_1]
  iterate 4 refine ev_go rfl ?_
  refine ev_callv rfl rfl rfl (pl_carry (M := pm_ar M N k p o g n w) hN hr) ?_
  refine ev_go rfl ?_
  refine ev_end rfl ?_
  rfl
theorem aq_n_on {k p o g n w : Int32} (hl : aq_n A < 24) : aq_n (on_st A k p o g n w) = aq_n A + 1 := by
  show ((on_st A k p o g n w).1 12 1).toNatClampNeg = _
  unfold on_st
  rw [pm_st0, nI_clamp (by omega)]
theorem on_q {k p o g n w : Int32} {q j : Nat} (h : (q < 13 ∨ 18 < q ∨ j ≠ aq_n A) ∧ (q ≠ 12 ∨ j ≠ 1)) : (on_st A k p o g n w).1 q j = A.1 q j := by
  unfold on_st
  rw [pm_st1 (by omega), pm_st1 (by omega), pm_st1 (by omega), pm_st1 (by omega), pm_st1 (by omega), pm_st1 (by omega), pm_st1 (by omega)]
theorem on_n {k p o g n w : Int32} : (on_st A k p o g n w).1 13 (aq_n A) = k ∧ (on_st A k p o g n w).1 14 (aq_n A) = p ∧ (on_st A k p o g n w).1 15 (aq_n A) = o ∧ (on_st A k p o g n w).1 16 (aq_n A) = g ∧ (on_st A k p o g n w).1 17 (aq_n A) = n ∧ (on_st A k p o g n w).1 18 (aq_n A) = w := by
  unfold on_st
  refine ⟨?_, ?_, ?_, ?_, ?_, ?_⟩
  · rw [pm_st1 (by omega), pm_st1 (by omega), pm_st1 (by omega), pm_st1 (by omega), pm_st1 (by omega), pm_st1 (by omega), pm_st0]
  · rw [pm_st1 (by omega), pm_st1 (by omega), pm_st1 (by omega), pm_st1 (by omega), pm_st1 (by omega), pm_st0]
  · rw [pm_st1 (by omega), pm_st1 (by omega), pm_st1 (by omega), pm_st1 (by omega), pm_st0]
  · rw [pm_st1 (by omega), pm_st1 (by omega), pm_st1 (by omega), pm_st0]
  · rw [pm_st1 (by omega), pm_st1 (by omega), pm_st0]
  · rw [pm_st1 (by omega), pm_st0]
theorem ar_q {N : Nat} {k p o g n w : Int32} {q j : Nat} (h : (q ≠ pr_ N ∨ 5 < j) ∧ (q ≠ 1 ∨ j ≠ 3)) : (pm_ar M N k p o g n w).1 q j = M.1 q j := by
  unfold pm_ar
  rw [pm_st1 (by omega), pm_st1 (by omega), pm_st1 (by omega), pm_st1 (by omega), pm_st1 (by omega), pm_st1 (by omega), pm_st1 (by omega)]
theorem ar_n {N : Nat} {k p o g n w : Int32} : (pm_ar M N k p o g n w).1 (pr_ N) 0 = k ∧ (pm_ar M N k p o g n w).1 (pr_ N) 1 = p ∧ (pm_ar M N k p o g n w).1 (pr_ N) 2 = o ∧ (pm_ar M N k p o g n w).1 (pr_ N) 3 = g ∧ (pm_ar M N k p o g n w).1 (pr_ N) 4 = n ∧ (pm_ar M N k p o g n w).1 (pr_ N) 5 = w := by
  have hp := pr_e N
  unfold pm_ar
  refine ⟨?_, ?_, ?_, ?_, ?_, ?_⟩
  · rw [pm_st1 (by omega), pm_st1 (by omega), pm_st1 (by omega), pm_st1 (by omega), pm_st1 (by omega), pm_st1 (by omega), pm_st0]
  · rw [pm_st1 (by omega), pm_st1 (by omega), pm_st1 (by omega), pm_st1 (by omega), pm_st1 (by omega), pm_st0]
  · rw [pm_st1 (by omega), pm_st1 (by omega), pm_st1 (by omega), pm_st1 (by omega), pm_st0]
  · rw [pm_st1 (by omega), pm_st1 (by omega), pm_st1 (by omega), pm_st0]
  · rw [pm_st1 (by omega), pm_st1 (by omega), pm_st0]
  · rw [pm_st1 (by omega), pm_st0]
theorem aq_E_on {k p o g n w : Int32} (hv : vs_A A) (hl : aq_n A < 24) (c : Nat) : aq_E (on_st A k p o g n w) c = aq_E A c + 1 * aq_ad (on_st A k p o g n w) (aq_n A) (nI c) := by
  unfold aq_E
  rw [aq_n_on hl]
  show aq_ex (on_st A k p o g n w) (aq_n A) c + aq_tm (on_st A k p o g n w) (aq_n A) * aq_ad (on_st A k p o g n w) (aq_n A) (nI c) = _
  have e1 : aq_ex (on_st A k p o g n w) (aq_n A) c = aq_ex A (aq_n A) c := sm_congr (fun a ha => by
    rw [aq_ad_c (fun q h1 h2 => on_q (by omega))]
    unfold aq_tm
    rw [on_q (by omega)])
  have e2 : aq_tm (on_st A k p o g n w) (aq_n A) = 1 := by
    unfold aq_tm
    rw [on_q (by omega), hv.2.2.2.2.1 _ (Nat.le_refl _)]
    rfl
  rw [e1, e2]
theorem rc_on {k p o g n w : Int32} (hv : vs_A A) (hl : aq_n A < 24) (hr : vs_rw (on_st A k p o g n w) (aq_n A)) (h : rc_ A M) : rc_ (on_st A k p o g n w) (pm_ca (pm_ar M (aq_n A) k p o g n w) (aq_n A) 1) ∧ fc_ M (pm_ca (pm_ar M (aq_n A) k p o g n w) (aq_n A) 1) ∧ pv_row (pm_ar M (aq_n A) k p o g n w) (aq_n A) := by
  obtain ⟨hb, hL, hs, hf⟩ := h
  have hp : ∀ a, pr_ a = 30 + a := pr_e
  obtain ⟨g1, g2, g3, g4, g5, g6⟩ := on_n (A := A) (k := k) (p := p) (o := o) (g := g) (n := n) (w := w)
  obtain ⟨r1, r2, r3, r4, r5, r6⟩ := ar_n (M := M) (N := aq_n A) (k := k) (p := p) (o := o) (g := g) (n := n) (w := w)
  have b1 : rc_b (on_st A k p o g n w) (pm_ar M (aq_n A) k p o g n w) := by
    refine ⟨fun a ha j hj => ?_, fun c hc => ?_, ?_, ?_, ?_⟩
    · by_cases qa : a = aq_n A
      · rw [qa]
        by_cases qj : 5 < j
        · rw [ar_q (by rw [hp]; omega), on_q (by omega)]
          exact hb.1 _ hl j hj
        · have hj6 : j = 0 ∨ j = 1 ∨ j = 2 ∨ j = 3 ∨ j = 4 ∨ j = 5 := by omega
          rcases hj6 with q | q | q | q | q | q <;> subst q
          · exact r1.trans g1.symm
          · exact r2.trans g2.symm
          · exact r3.trans g3.symm
          · exact r4.trans g4.symm
          · exact r5.trans g5.symm
          · exact r6.trans g6.symm
      · rw [ar_q (by rw [hp, hp]; omega), on_q (by omega)]
        exact hb.1 a ha j hj
    · rw [ar_q (by rw [hp]; omega), on_q (by omega)]
      exact hb.2.1 c hc
    · unfold pm_ar on_st
      rw [pm_st0, pm_st0]
    · rw [ar_q (by rw [hp]; omega), on_q (by omega)]
      exact hb.2.2.2.1
    · rw [ar_q (by rw [hp]; omega), on_q (by omega)]
      exact hb.2.2.2.2
  have l1 : rc_L (on_st A k p o g n w) (aq_E A) (pm_ar M (aq_n A) k p o g n w) := by
    refine ⟨fun c hc => ?_, ?_⟩
    · rw [ar_q (by rw [hp]; omega)]
      exact hL.1 c hc
    · rw [ar_q (by rw [hp]; omega), aq_nd_A (fun c => on_q (by omega))]
      exact hL.2
  have t1 : ∀ c, -1 ≤ (on_st A k p o g n w).1 21 c := fun c => by rw [on_q (by omega)]; exact hv.2.2.2.2.2.1 c
  refine ⟨⟨(fl_ca _ _ _).rb b1, (rc_ca hl hr b1 l1 t1).congr (fun c _ => (aq_E_on hv hl c).symm), (fl_ca _ _ _).rs ((hs.A (fun q j hq => on_q (by omega))).M (fun q j hq => ar_q (by rw [hp]; omega))), ?_⟩, ?_, (b1.pv hl hr).1⟩
  · rw [(fl_ca _ _ _).2 _ _ (by omega), ar_q (by rw [hp]; omega), on_q (by omega)]
    exact hf
  · refine fc_.trans ?_ (fl_ca _ _ _).fc
    intro q j h1 h2
    exact ar_q (by rw [hp]; omega)
end
end
section
/-! the class's seeker: begin, gather, note -/
theorem sc_s {M : mj_M} {q : Nat} {f : Nat → Int32} {j : Nat} : (mj_sc M q f).1 q j = f j := by simp [mj_sc]
theorem sc_n {M : mj_M} {q q' : Nat} {f : Nat → Int32} {j : Nat} (h : q' ≠ q) : (mj_sc M q f).1 q' j = M.1 q' j := by simp [mj_sc, h]
def zf_ (M : mj_M) : Nat → mj_M
  | 0 => M
  | k + 1 => mj_st (zf_ M k) 11 k 0
theorem zf_q {M : mj_M} {q : Nat} (h : q ≠ 11) (j : Nat) : ∀ k, (zf_ M k).1 q j = M.1 q j
  | 0 => rfl
  | k + 1 => by
    show (mj_st (zf_ M k) 11 k 0).1 q j = _
    rw [pm_st1 (Or.inl h)]
    exact zf_q h j k
theorem zf_in {M : mj_M} {a : Nat} : ∀ {k : Nat}, a < k → (zf_ M k).1 11 a = 0
  | 0, h => absurd h (Nat.not_lt_zero _)
  | k + 1, h => by
    show (mj_st (zf_ M k) 11 k 0).1 11 a = _
    by_cases hk : a = k
    · rw [hk, pm_st0]
    · rw [pm_st1 (Or.inr hk)]
      exact zf_in (by omega)
theorem zf_2 {M : mj_M} : ∀ k, (zf_ M k).2 = M.2
  | 0 => rfl
  | k + 1 => zf_2 k
section
variable {X : Nat × (Nat → Int32)} {d : Nat} {M A s : mj_M} {L : Nat → Int32}
theorem pj_fill_l : ∀ j k, k + j = 24 → mj_Ev mj_S0 X mj_P d mt_J_fill 5 (mj_up (mj_up (fun j => [mv_p 11, mv_i 0][j]?) 3 (mv_i (nI 24))) 2 (mv_i (nI k))) [] (zf_ M k) 0 (mv_V (zf_ M 24)) := by
  intro j
  induction j with
  | zero =>
    intro k hk
    have e : k = 24 := by omega
    subst e
    iterate 3 refine ev_go rfl ?_
    refine ev_end rfl ?_
    rfl
  | succ j ih =>
    intro k hk
    iterate 2 refine ev_go rfl ?_
    refine ev_if rfl (fun h7 => ?_) (fun h7 => ?_)
    · exact absurd h7 (nI_ge (by omega) (by omega))
    · iterate 3 refine ev_go rfl ?_
      refine ev_ok (nI_in (show k < 24 by omega) (by decide)) rfl ?_
      rw [nI_clamp (by omega)]
      iterate 2 refine ev_go rfl ?_
      refine ev_lo ?_ (ih (k + 1) (by omega))
      rw [nI_1]
      exact mj_upo
theorem pj_fill : mj_C0 X d mt_J_fill [mv_p 11, mv_i 0] M (mv_V (zf_ M 24)) := by
  iterate 5 refine ev_go rfl ?_
  refine ev_lo ?_ (pj_fill_l 24 0 (by omega))
  exact mj_upc (i := 2) (j := 3) (by decide)
def bz_ (M : mj_M) (l : Int32) : mj_M := mj_st (mj_st (mj_st (mj_st (mj_st M 2 8 l) 2 9 0) 2 10 0) 2 11 0) 2 12 1
def pm_bg (M : mj_M) (l : Int32) : mj_M := zf_ (bz_ M l) 24
theorem pk_begin {l : Int32} : mj_C0 X (d + 1) mt_K_begin [mv_p 2, mv_i l] M (mv_V (pm_bg M l)) := by
  iterate 18 refine ev_go rfl ?_
  refine ev_callv rfl rfl rfl (pj_fill (M := bz_ M l)) ?_
  refine ev_end rfl ?_
  rfl
theorem bg_q {l : Int32} {q j : Nat} (h : q ≠ 11 ∧ (q ≠ 2 ∨ j < 8)) : (pm_bg M l).1 q j = M.1 q j := by
  unfold pm_bg
  rw [zf_q h.1]
  unfold bz_
  rw [pm_st1 (by omega), pm_st1 (by omega), pm_st1 (by omega), pm_st1 (by omega), pm_st1 (by omega)]
theorem ob_q {q j : Nat} (h : q ≠ 22 ∧ (q ≠ 12 ∨ (j ≠ 17 ∧ j ≠ 15 ∧ j ≠ 14 ∧ j ≠ 13))) : (ob_ A).1 q j = A.1 q j := by
  unfold ob_
  rw [zr_q h.1]
  unfold oz_
  rw [pm_st1 (by omega), pm_st1 (by omega), pm_st1 (by omega), pm_st1 (by omega)]
theorem ob_s : (ob_ A).1 12 17 = 0 ∧ (ob_ A).1 12 15 = 0 ∧ (ob_ A).1 12 14 = 0 ∧ (ob_ A).1 12 13 = 1 := by
  unfold ob_
  rw [zr_q (by decide), zr_q (by decide), zr_q (by decide), zr_q (by decide)]
  unfold oz_
  refine ⟨?_, ?_, ?_, ?_⟩
  · rw [pm_st1 (by omega), pm_st1 (by omega), pm_st1 (by omega), pm_st0]
  · rw [pm_st1 (by omega), pm_st1 (by omega), pm_st0]
  · rw [pm_st1 (by omega), pm_st0]
  · rw [pm_st0]
theorem bg_s {l : Int32} : (pm_bg M l).1 2 8 = l ∧ (pm_bg M l).1 2 9 = 0 ∧ (pm_bg M l).1 2 10 = 0 ∧ (pm_bg M l).1 2 11 = 0 ∧ (pm_bg M l).1 2 12 = 1 := by
  unfold pm_bg
  rw [zf_q (by decide), zf_q (by decide), zf_q (by decide), zf_q (by decide), zf_q (by decide)]
  unfold bz_
  refine ⟨?_, ?_, ?_, ?_, ?_⟩
  · rw [pm_st1 (by omega), pm_st1 (by omega), pm_st1 (by omega), pm_st1 (by omega), pm_st0]
  · rw [pm_st1 (by omega), pm_st1 (by omega), pm_st1 (by omega), pm_st0]
  · rw [pm_st1 (by omega), pm_st1 (by omega), pm_st0]
  · rw [pm_st1 (by omega), pm_st0]
  · rw [pm_st0]
theorem rc_bg {l : Int32} (h : rc_ A M) : rc_b A (pm_bg M l) ∧ rc_L A (aq_E A) (pm_bg M l) ∧ rc_s (ob_ A) (pm_bg M l) := by
  obtain ⟨hb, hL, hs, hf⟩ := h
  have hp : ∀ a, pr_ a = 30 + a := pr_e
  obtain ⟨o1, o2, o3, o4⟩ := ob_s (A := A)
  obtain ⟨b1, b2, b3, b4, b5⟩ := bg_s (M := M) (l := l)
  refine ⟨⟨fun a ha j hj => ?_, fun c hc => ?_, ?_, ?_, ?_⟩, ⟨fun c hc => ?_, ?_⟩, ⟨b2.trans o3.symm, b3.trans o2.symm, b4.trans o1.symm, fun a ha => ?_, fun i hi => ?_⟩⟩
  · rw [bg_q (by rw [hp]; omega)]; exact hb.1 a ha j hj
  · rw [bg_q (by omega)]; exact hb.2.1 c hc
  · rw [bg_q (by omega)]; exact hb.2.2.1
  · rw [bg_q (by omega)]; exact hb.2.2.2.1
  · rw [bg_q (by omega)]; exact hb.2.2.2.2
  · rw [bg_q (by omega)]; exact hL.1 c hc
  · rw [bg_q (by omega)]; exact hL.2
  · unfold pm_bg ob_
    rw [zf_in ha, zr_in ha]
  · rw [o1] at hi
    exact absurd hi (Nat.not_lt_zero _)
/-- acts are gathered -/
def gq_ (A M0 : mj_M) (k : Nat) (M : mj_M) : Prop := M.1 2 6 = nI (ct (aq_cf A) k) ∧ (∀ i, i < ct (aq_cf A) k → M.1 6 i = nI (cl_ (aq_cf A) k i)) ∧ (∀ q j, ¬ (q = 6 ∨ (q = 2 ∧ j = 6)) → M.1 q j = M0.1 q j)
theorem gq_b {M0 : mj_M} {k : Nat} (h : gq_ A M0 k M) (hb : rc_b A M0) : rc_b A M := by
  have hp : ∀ a, pr_ a = 30 + a := pr_e
  refine ⟨fun a ha j hj => ?_, fun c hc => ?_, ?_, ?_, ?_⟩
  · rw [h.2.2 _ _ (by rw [hp]; omega)]; exact hb.1 a ha j hj
  · rw [h.2.2 _ _ (by omega)]; exact hb.2.1 c hc
  · rw [h.2.2 _ _ (by omega)]; exact hb.2.2.1
  · rw [h.2.2 _ _ (by omega)]; exact hb.2.2.2.1
  · rw [h.2.2 _ _ (by omega)]; exact hb.2.2.2.2
theorem pk_gather_l {M0 : mj_M} (hv : vs_A A) (hb : rc_b A M0) : ∀ j k M, k + j = aq_n A → gq_ A M0 k M → ∃ M', mj_Ev mj_S0 X mj_P (d + 3) mt_K_gatherChoices 7 (mj_up (fun j => [mv_p 2, mv_p 1][j]?) 2 (mv_i (nI k))) [] M 0 (mv_V M') ∧ gq_ A M0 (aq_n A) M' := by
  have hl := hv.1.2
  intro j
  induction j with
  | zero =>
    intro k M hk h
    have e : k = aq_n A := by omega
    subst e
    have n1 : M.1 1 3 = nI (aq_n A) := (gq_b h hb).2.2.1.trans hv.1.1
    refine ⟨M, ?_, h⟩
    iterate 3 refine ev_go rfl ?_
    refine ev_if rfl (fun h12 => ?_) (fun h12 => ?_)
    · refine ev_end rfl ?_
      rfl
    · exact absurd (show M.1 1 3 ≤ nI (aq_n A) by rw [n1]; exact Int32.le_refl _) h12
  | succ j ih =>
    intro k M hk h
    have hbM := gq_b h hb
    have n1 : M.1 1 3 = nI (aq_n A) := hbM.2.2.1.trans hv.1.1
    obtain ⟨h1, h2, h3⟩ := h
    have lc := ct_le (aq_cf A) k
    have kn : k < aq_n A := by omega
    have ef : aq_cf A k = aq_ca A k := if_pos kn
    by_cases hf : aq_cf A k = 0
    · obtain ⟨M', e1, e2⟩ := ih (k + 1) M (by omega) ⟨by rw [ct_0 hf]; exact h1, fun i hi => by rw [ct_0 hf] at hi; rw [cl_0 hf]; exact h2 i hi, h3⟩
      refine ⟨M', ?_, e2⟩
      iterate 3 refine ev_go rfl ?_
      refine ev_if rfl (fun h12 => ?_) (fun h12 => ?_)
      · exact absurd h12 (by rw [n1]; exact nI_ge (by omega) (by omega))
      · iterate 2 refine ev_go rfl ?_
        refine ev_callr rfl rfl rfl (pl_isCandidate (by omega) (hv.2.1 k kn) hbM hv.2.2.2.2.2.1) ?_
        refine ev_if rfl (fun h20 => ?_) (fun h20 => ?_)
        · iterate 2 refine ev_go rfl ?_
          refine ev_lo ?_ e1
          rw [nI_1]
          exact mj_upo
        · exact absurd (ef.symm.trans hf) h20
    · have i25 : mj_in (nI (ct (aq_cf A) k)) 24 := nI_in (by omega) (by decide)
      have j25 : (nI (ct (aq_cf A) k)).toNatClampNeg = ct (aq_cf A) k := nI_clamp (by omega)
      obtain ⟨M', e1, e2⟩ := ih (k + 1) (mj_st (mj_st M 6 (ct (aq_cf A) k) (nI k)) 2 6 (nI (ct (aq_cf A) k + 1))) (by omega) ⟨by rw [pm_st0, ct_1 hf], fun i hi => by
          rw [pm_st1 (by omega), cl_1 hf]
          rw [ct_1 hf] at hi
          by_cases hic : i = ct (aq_cf A) k
          · rw [hic, pm_st0, upN_s]
          · rw [pm_st1 (by omega), upN_n hic]
            exact h2 i (by omega), fun q j hq => by rw [pm_st1 (by omega), pm_st1 (by omega)]; exact h3 q j hq⟩
      refine ⟨M', ?_, e2⟩
      iterate 3 refine ev_go rfl ?_
      refine ev_if rfl (fun h12 => ?_) (fun h12 => ?_)
      · exact absurd h12 (by rw [n1]; exact nI_ge (by omega) (by omega))
      · iterate 2 refine ev_go rfl ?_
        refine ev_callr rfl rfl rfl (pl_isCandidate (by omega) (hv.2.1 k kn) hbM hv.2.2.2.2.2.1) ?_
        refine ev_if rfl (fun h20 => ?_) (fun h20 => ?_)
        · first
            | exact absurd (ef.trans h20) hf
            | (refine ev_go rfl ?_
               refine ev_go rfl ?_
               refine ev_lo ?_ e1
               rw [nI_1]
               exact mj_upo)
        · iterate 4 refine ev_go rfl ?_
          rw [h1]
          refine ev_go rfl ?_
          refine ev_ok i25 rfl ?_
          rw [j25]
          iterate 5 refine ev_go rfl ?_
          show mj_Ev _ _ _ _ _ _ _ [mv_i (M.1 2 6 + 1), _] _ _ _
          rw [h1, nI_1]
          refine ev_go rfl ?_
          first
            | exact absurd (ef.trans h20) hf
            | (refine ev_go rfl ?_
               refine ev_go rfl ?_
               refine ev_lo ?_ e1
               rw [nI_1]
               exact mj_upo)
theorem pk_gather (hv : vs_A A) (hb : rc_b A M) : ∃ M', mj_C0 X (d + 3) mt_K_gatherChoices [mv_p 2, mv_p 1] M (mv_V M') ∧ M'.1 2 6 = nI (aq_m A) ∧ (∀ i, i < aq_m A → M'.1 6 i = nI (aq_cs A i)) ∧ (∀ q j, ¬ (q = 6 ∨ (q = 2 ∧ j = 6)) → M'.1 q j = M.1 q j) := by
  have b0 : rc_b A (mj_st M 2 6 0) := by
    have hp : ∀ a, pr_ a = 30 + a := pr_e
    refine ⟨fun a ha j hj => ?_, fun c hc => ?_, ?_, ?_, ?_⟩
    · rw [pm_st1 (by rw [hp]; omega)]; exact hb.1 a ha j hj
    · rw [pm_st1 (by omega)]; exact hb.2.1 c hc
    · rw [pm_st1 (by omega)]; exact hb.2.2.1
    · rw [pm_st1 (by omega)]; exact hb.2.2.2.1
    · rw [pm_st1 (by omega)]; exact hb.2.2.2.2
  obtain ⟨M', e1, e2, e3, e4⟩ := pk_gather_l (X := X) (d := d) hv b0 (aq_n A) 0 (mj_st M 2 6 0) (by omega) ⟨pm_st0, fun i hi => absurd hi (Nat.not_lt_zero _), fun _ _ _ => rfl⟩
  obtain ⟨s1, s2⟩ := cl_st (f := aq_cf A) (n := aq_n A) (fun k hk => aq_cf0 hk) (24 - aq_n A)
  rw [show aq_n A + (24 - aq_n A) = 24 by have := hv.1.2; omega] at s1 s2
  have t1 : aq_m A = ct (aq_cf A) (aq_n A) := s1
  have t2 : aq_cs A = cl_ (aq_cf A) (aq_n A) := s2
  refine ⟨M', ?_, by rw [t1]; exact e2, fun i hi => by rw [t1] at hi; rw [t2]; exact e3 i hi, fun q j hq => by rw [e4 q j hq, pm_st1 (by omega)]⟩
  iterate 5 refine ev_go rfl ?_
  exact e1
/-- uses are counted up -/
def un_ (cs x : Nat → Nat) (M : mj_M) : Nat → mj_M
  | 0 => M
  | k + 1 => mj_st (un_ cs x M k) 11 (cs (x k / 2)) ((un_ cs x M k).1 11 (cs (x k / 2)) + 1)
theorem un_q {cs x : Nat → Nat} {q : Nat} (h : q ≠ 11) (j : Nat) : ∀ k, (un_ cs x M k).1 q j = M.1 q j
  | 0 => rfl
  | k + 1 => by
    show (mj_st (un_ cs x M k) 11 _ _).1 q j = _
    rw [pm_st1 (Or.inl h)]
    exact un_q h j k
theorem nt_22 {cs x : Nat → Nat} {k : Nat} (a : Nat) : (nt_ cs x s (k + 1)).1 22 a = (mj_st (nt_ cs x s k) 22 (cs (x k / 2)) ((nt_ cs x s k).1 22 (cs (x k / 2)) + 1)).1 22 a := by
  by_cases h : s.1 12 15 = 1
  · rw [nt_pos h, pm_st1 (by omega)]
  · rw [nt_neg h]
theorem un_nt {cs x : Nat → Nat} {n : Nat} (hx : ∀ k, k < n → cs (x k / 2) < 24) (h : ∀ a, a < 24 → M.1 11 a = s.1 22 a) : ∀ k, k ≤ n → ∀ a, a < 24 → (un_ cs x M k).1 11 a = (nt_ cs x s k).1 22 a
  | 0, _, a, ha => h a ha
  | k + 1, hk, a, ha => by
    have ih := un_nt hx h k (by omega)
    rw [nt_22]
    show (mj_st (un_ cs x M k) 11 (cs (x k / 2)) ((un_ cs x M k).1 11 (cs (x k / 2)) + 1)).1 11 a = _
    by_cases q : a = cs (x k / 2)
    · rw [q, pm_st0, pm_st0, ih _ (hx k (by omega))]
    · rw [pm_st1 (Or.inr q), pm_st1 (Or.inr q), ih a ha]
theorem pk_note_l {cs x : Nat → Nat} {n : Nat} (hn : n ≤ 4) (h7 : M.1 2 7 = nI n) (hw : ∀ i, i < n → M.1 7 i = nI (cs (x i / 2)) ∧ cs (x i / 2) < 24) : ∀ j k, k + j = n → mj_Ev mj_S0 X mj_P d mt_K_note 61 (mj_up (fun j => [mv_p 2][j]?) 1 (mv_i (nI k))) [] (un_ cs x M k) 0 (mv_V (un_ cs x M n)) := by
  have e7 : ∀ k, (un_ cs x M k).1 2 7 = nI n := fun k => by rw [un_q (by decide)]; exact h7
  intro j
  induction j with
  | zero =>
    intro k hk
    have e : k = n := by omega
    subst e
    iterate 3 refine ev_go rfl ?_
    refine ev_if rfl (fun h66 => ?_) (fun h66 => ?_)
    · refine ev_end rfl ?_
      rfl
    · exact absurd (show (un_ cs x M k).1 2 7 ≤ nI k by rw [e7]; exact Int32.le_refl _) h66
  | succ j ih =>
    intro k hk
    obtain ⟨w1, w2⟩ := hw k (by omega)
    have e70 : (un_ cs x M k).1 7 k = nI (cs (x k / 2)) := by rw [un_q (by decide)]; exact w1
    iterate 3 refine ev_go rfl ?_
    refine ev_if rfl (fun h66 => ?_) (fun h66 => ?_)
    · exact absurd h66 (by rw [e7]; exact nI_ge (by omega) (by omega))
    · iterate 5 refine ev_go rfl ?_
      refine ev_ok (nI_in (show k < 4 by omega) (by decide)) rfl ?_
      rw [nI_clamp (by omega), e70]
      refine ev_go rfl ?_
      refine ev_ok (nI_in w2 (by decide)) rfl ?_
      rw [nI_clamp (by omega)]
      iterate 2 refine ev_go rfl ?_
      refine ev_ok (nI_in w2 (by decide)) rfl ?_
      rw [nI_clamp (by omega)]
      iterate 2 refine ev_go rfl ?_
      refine ev_lo ?_ (ih (k + 1) (by omega))
      rw [nI_1]
      exact mj_upo
theorem nt_23n {cs x : Nat → Nat} (h : ¬ s.1 12 15 = 1) (i : Nat) : ∀ k, (nt_ cs x s k).1 23 i = s.1 23 i
  | 0 => rfl
  | k + 1 => by
    rw [nt_neg h, pm_st1 (by omega)]
    exact nt_23n h i k
theorem nt_23p {cs x : Nat → Nat} (h : s.1 12 15 = 1) {i : Nat} : ∀ {k : Nat}, i < k → (nt_ cs x s k).1 23 i = 2 * nI (cs (x i / 2)) + nI (x i % 2)
  | 0, hk => absurd hk (Nat.not_lt_zero _)
  | k + 1, hk => by
    rw [nt_pos h]
    by_cases q : i = k
    · rw [q, pm_st0]
    · rw [pm_st1 (by omega), pm_st1 (by omega)]
      exact nt_23p h (by omega)
/-- the class notes an explanation -/
theorem pk_note {cs x : Nat → Nat} {n : Nat} (hn : n ≤ 4) (h7 : M.1 2 7 = nI n) (hw : ∀ i, i < n → M.1 7 i = nI (cs (x i / 2)) ∧ cs (x i / 2) < 24) (hc : ∀ i, i < n → M.1 8 i = nI (x i % 2)) (hs : rc_s s M) : ∃ M', mj_C0 X d mt_K_note [mv_p 2] M (mv_V M') ∧ rc_s (no_ cs x n s) M' ∧ (∀ q j, ¬ ((9 ≤ q ∧ q ≤ 11) ∨ (q = 2 ∧ (j = 10 ∨ j = 11))) → M'.1 q j = M.1 q j) := by
  have h7c : (M.1 2 7).toNatClampNeg = n := by rw [h7]; exact nI_clamp (by omega)
  obtain ⟨s1, s2, s3, s4, s5⟩ := hs
  by_cases h0 : M.1 2 10 = 0
  · have f1 : (mj_st s 12 15 (s.1 12 15 + 1)).1 12 15 = 1 := by rw [pm_st0, ← s2, h0]; rfl
    have en : no_ cs x n s = mj_st (nt_ cs x (mj_st s 12 15 (s.1 12 15 + 1)) n) 12 17 (nI n) := if_pos f1
    have a9 : ∀ j, j < n → va_cpy (M.1 7) (M.1 9) 0 0 n j = M.1 7 j := fun j hj => by rw [pk_cpy_in (by omega) (by omega), Nat.zero_add, Nat.sub_zero]
    have a10 : ∀ j, j < n → va_cpy (M.1 8) (M.1 10) 0 0 n j = M.1 8 j := fun j hj => by rw [pk_cpy_in (by omega) (by omega), Nat.zero_add, Nat.sub_zero]
    obtain ⟨N, hN⟩ : ∃ N : mj_M, N = mj_st (mj_st (mj_sc (mj_sc M 9 (va_cpy (M.1 7) (M.1 9) 0 0 n)) 10 (va_cpy (M.1 8) (M.1 10) 0 0 n)) 2 11 (nI n)) 2 10 (M.1 2 10 + 1) := ⟨_, rfl⟩
    have qN : ∀ q j, q ≠ 9 → q ≠ 10 → (q ≠ 2 ∨ (j ≠ 10 ∧ j ≠ 11)) → N.1 q j = M.1 q j := fun q j u1 u2 u3 => by
      rw [hN, pm_st1 (by omega), pm_st1 (by omega), sc_n u2, sc_n u1]
    have key := pk_note_l (X := X) (d := d) (M := N) (cs := cs) (x := x) hn (by rw [qN _ _ (by omega) (by omega) (by omega)]; exact h7) (fun i hi => by rw [qN _ _ (by omega) (by omega) (by omega)]; exact hw i hi) n 0 (by omega)
    refine ⟨un_ cs x N n, ?_, ⟨?_, ?_, ?_, fun a ha => ?_, fun i hi => ?_⟩, fun q j hq => ?_⟩
    · have b1 : ¬ M.1 2 7 < 0 := by rw [h7]; exact nI_pos (by omega)
      iterate 2 refine ev_go rfl ?_
      refine ev_if rfl (fun h4 => ?_) (fun h4 => ?_)
      · iterate 8 refine ev_go rfl ?_
        refine ev_ok ⟨⟨by decide, by decide, b1, by decide⟩, by rw [h7c]; exact ⟨by show 0 + n ≤ 4; omega, by show 0 + n ≤ 4; omega⟩⟩ rfl ?_
        rw [h7c]
        iterate 8 refine ev_go rfl ?_
        refine ev_ok ⟨⟨by decide, by decide, b1, by decide⟩, by show 0 + (M.1 2 7).toNatClampNeg ≤ 4 ∧ 0 + (M.1 2 7).toNatClampNeg ≤ 4; rw [h7c]; exact ⟨by omega, by omega⟩⟩ rfl ?_
        show mj_Ev _ _ _ _ _ _ _ _ (mj_sc (mj_sc M 9 (va_cpy (M.1 7) (M.1 9) 0 0 n)) 10 (va_cpy (M.1 8) (M.1 10) 0 0 (M.1 2 7).toNatClampNeg)) _ _
        rw [h7c]
        iterate 3 refine ev_go rfl ?_
        show mj_Ev _ _ _ _ _ _ _ [mv_i (M.1 2 7), _] _ _ _
        rw [h7]
        refine ev_go rfl ?_
        first
          | exact absurd h0 h4
          | (iterate 8 refine ev_go rfl ?_
             subst hN
             exact key)
      · first
          | exact absurd h0 h4
          | (iterate 8 refine ev_go rfl ?_
             subst hN
             exact key)
    · rw [un_q (by decide), qN _ _ (by omega) (by omega) (by omega), no_q (by omega) (by omega) (by omega)]
      exact s1
    · rw [un_q (by decide), en, pm_st1 (by omega), nt_q (by decide) (by decide), pm_st0, hN, pm_st0, s2]
    · rw [un_q (by decide), en, pm_st0, hN, pm_st1 (by omega), pm_st0]
    · rw [en, pm_st1 (by omega)]
      exact un_nt (fun k hk => (hw k hk).2) (fun a ha => by rw [qN _ _ (by omega) (by omega) (by omega), pm_st1 (by omega)]; exact s4 a ha) n (Nat.le_refl _) a ha
    · rw [en, pm_st0, nI_clamp (by omega)] at hi
      refine ⟨cs (x i / 2), x i % 2, (hw i hi).2, by omega, ?_, ?_, ?_⟩
      · rw [un_q (by decide), hN, pm_st1 (by omega), pm_st1 (by omega), sc_n (by decide), sc_s, a9 i hi]
        exact (hw i hi).1
      · rw [un_q (by decide), hN, pm_st1 (by omega), pm_st1 (by omega), sc_s, a10 i hi]
        exact hc i hi
      · rw [en, pm_st1 (by omega), nt_23p f1 hi, show (2 : Int32) = nI 2 from rfl, pk_mul, nI_add]
    · rw [un_q (by omega), qN _ _ (by omega) (by omega) (by omega)]
  · have f1 : ¬ (mj_st s 12 15 (s.1 12 15 + 1)).1 12 15 = 1 := by
      rw [pm_st0, ← s2]
      grind
    have en : no_ cs x n s = nt_ cs x (mj_st s 12 15 (s.1 12 15 + 1)) n := if_neg f1
    have key := pk_note_l (X := X) (d := d) (M := mj_st M 2 10 (M.1 2 10 + 1)) (cs := cs) (x := x) hn (by rw [pm_st1 (by omega)]; exact h7) (fun i hi => by rw [pm_st1 (by omega)]; exact hw i hi) n 0 (by omega)
    refine ⟨un_ cs x (mj_st M 2 10 (M.1 2 10 + 1)) n, ?_, ⟨?_, ?_, ?_, fun a ha => ?_, fun i hi => ?_⟩, fun q j hq => ?_⟩
    · iterate 2 refine ev_go rfl ?_
      refine ev_if rfl (fun h4 => ?_) (fun h4 => ?_)
      · exact absurd h4 h0
      · iterate 8 refine ev_go rfl ?_
        exact key
    · rw [un_q (by decide), pm_st1 (by omega), no_q (by omega) (by omega) (by omega)]
      exact s1
    · rw [un_q (by decide), en, nt_q (by decide) (by decide), pm_st0, pm_st0, s2]
    · rw [un_q (by decide), pm_st1 (by omega), en, nt_q (by decide) (by decide), pm_st1 (by omega)]
      exact s3
    · rw [en]
      exact un_nt (fun k hk => (hw k hk).2) (fun a ha => by rw [pm_st1 (by omega), pm_st1 (by omega)]; exact s4 a ha) n (Nat.le_refl _) a ha
    · rw [en, nt_q (by decide) (by decide), pm_st1 (by omega)] at hi
      rw [en, nt_23n f1, pm_st1 (by omega), un_q (by decide), un_q (by decide), pm_st1 (by omega), pm_st1 (by omega)]
      exact s5 i hi
    · rw [un_q (by omega), pm_st1 (by omega)]
end
end
section
/-! the class's search -/
def ek_ (A : mj_M) (cs : Nat → Nat) (m : Nat) (lim : Int32) (size : Nat) (x : Nat → Nat) (n : Nat) (s M : mj_M) : Prop := rc_b A M ∧ rc_L A (aq_L A cs x n) M ∧ rc_s s M ∧ (M.1 2 6 = nI m ∧ M.1 2 7 = nI size ∧ M.1 2 8 = lim) ∧ (∀ i, i < m → M.1 6 i = nI (cs i)) ∧ (∀ i, i < n → (M.1 7 i = nI (cs (x i / 2)) ∧ M.1 8 i = nI (x i % 2)) ∧ x i / 2 < m) ∧ s.1 12 14 ≤ lim
def at_ (rec : (Nat → Nat) → mj_M → Bool × mj_M) (lim : Int32) (n : Nat) (x : Nat → Nat) (s : mj_M) (c : Nat) : Bool × mj_M := if s.1 12 14 = lim then (false, s) else rec (upN x n c) (mj_st s 12 14 (s.1 12 14 + 1))
theorem se_l_at {rec : (Nat → Nat) → mj_M → Bool × mj_M} {lim : Int32} {m2 n j : Nat} {x : Nat → Nat} {s : mj_M} : se_l rec lim m2 n (j + 1) x s = (match at_ rec lim n x s (m2 - (j + 1)) with
    | (true, s') => se_l rec lim m2 n j x s'
    | (false, s') => (false, s')) := by
  unfold at_
  by_cases h : s.1 12 14 = lim
  · rw [if_pos h]
    exact if_pos h
  · rw [if_neg h]
    exact if_neg h
theorem ev_stk {S : mj_S} {X : Nat × (Nat → Int32)} {P : List mj_T} {d : Nat} {T : mj_T} {pc : Nat} {lo : mj_L} {st st' : List mj_V} {M : mj_M} {k : Nat} {r : mj_R} (h : st = st') (e : mj_Ev S X P d T pc lo st' M k r) : mj_Ev S X P d T pc lo st M k r := h ▸ e
theorem if01 (b : Bool) : (if b = true then (1 : Int32) else 0) = 0 ∨ (if b = true then (1 : Int32) else 0) = 1 := by
  cases b
  · exact Or.inl rfl
  · exact Or.inr rfl
section
variable {X : Nat × (Nat → Int32)} {d : Nat} {M A s : mj_M} {cs x : Nat → Nat} {m n c size mo : Nat} {lim : Int32}
theorem fl_ek {M' : mj_M} {n' : Nat} {x' : Nat → Nat} (h : ek_ A cs m lim size x' n' s M) (f : fl_ M M') (hn : n ≤ n') (e : ∀ i, i < n → x' i = x i) (hL : rc_L A (aq_L A cs x n) M') : ek_ A cs m lim size x n s M' := by
  obtain ⟨a1, a2, a3, ⟨a4, a5, a6⟩, a7, a8, a9⟩ := h
  refine ⟨f.rb a1, hL, f.rs a3, ⟨?_, ?_, ?_⟩, fun i hi => ?_, fun i hi => ?_, a9⟩
  · rw [f.2 _ _ (by omega)]; exact a4
  · rw [f.2 _ _ (by omega)]; exact a5
  · rw [f.2 _ _ (by omega)]; exact a6
  · rw [f.2 _ _ (by omega)]; exact a7 i hi
  · rw [f.2 _ _ (by omega), f.2 _ _ (by omega), ← e i hi]; exact a8 i (by omega)
theorem pk_attempt {rec : (Nat → Nat) → mj_M → Bool × mj_M} {ch h : Nat} (hz : size ≤ 4) (hn : n < size) (hm : m ≤ 24) (hcs : ∀ i, i < m → cs i < 24 ∧ vs_rw A (cs i)) (ht : ∀ c, -1 ≤ A.1 21 c) (hch : ch < m) (hh : h < 2) (hc : c = 2 * ch + h)
  (hE : ∀ s1 M1, ek_ A cs m lim size (upN x n c) (n + 1) s1 M1 → ∃ M', mj_C0 X (d + 2) mt_K_extend [mv_p 2, mv_p 1, mv_i (nI (n + 1)), mv_i (nI (ch + 1))] M1 (mv_R (if (rec (upN x n c) s1).1 = true then 1 else 0) M') ∧ ek_ A cs m lim size (upN x n c) (n + 1) (rec (upN x n c) s1).2 M' ∧ fc_ M1 M')
  (hk : ek_ A cs m lim size x n s M) : ∃ M', mj_C0 X (d + 3) mt_K_attempt [mv_p 2, mv_p 1, mv_i (nI n), mv_i (nI ch), mv_i (nI h)] M (mv_R (if (at_ rec lim n x s c).1 = true then 1 else 0) M') ∧ ek_ A cs m lim size x n (at_ rec lim n x s c).2 M' ∧ fc_ M M' := by
  have hk0 := hk
  obtain ⟨a1, a2, a3, ⟨a4, a5, a6⟩, a7, a8, a9⟩ := hk
  have e9 : M.1 2 9 = s.1 12 14 := a3.1
  by_cases hl : s.1 12 14 = lim
  · have e : (at_ rec lim n x s c) = (false, s) := if_pos hl
    rw [e]
    refine ⟨M, ?_, hk0, fc_.refl M⟩
    iterate 4 refine ev_go rfl ?_
    rw [e9, a6]
    refine ev_if rfl (fun h8 => ?_) (fun h8 => ?_)
    · exact absurd h8 (by rw [hl]; grind)
    · refine ev_go rfl ?_
      refine ev_end rfl ?_
      rfl
  · have e : (at_ rec lim n x s c) = rec (upN x n c) (mj_st s 12 14 (s.1 12 14 + 1)) := if_neg hl
    rw [e]
    obtain ⟨k1, k2⟩ := hcs ch hch
    have cd : c / 2 = ch := by omega
    have cm : c % 2 = h := by omega
    have hp : ∀ a, pr_ a = 30 + a := pr_e
    obtain ⟨N, hN⟩ : ∃ N : mj_M, N = mj_st (mj_st (mj_st M 2 9 (s.1 12 14 + 1)) 7 n (nI (cs ch))) 8 n (nI h) := ⟨_, rfl⟩
    have qN : ∀ q j, (q ≠ 2 ∨ j ≠ 9) → ((q ≠ 7 ∧ q ≠ 8) ∨ j ≠ n) → N.1 q j = M.1 q j := fun q j u1 u2 => by
      rw [hN, pm_st1 (by omega), pm_st1 (by omega), pm_st1 (by omega)]
    have b1 : rc_b A N := by
      refine ⟨fun a ha j hj => ?_, fun c hc => ?_, ?_, ?_, ?_⟩
      · rw [qN _ _ (by rw [hp]; omega) (by rw [hp]; omega)]; exact a1.1 a ha j hj
      · rw [qN _ _ (by omega) (by omega)]; exact a1.2.1 c hc
      · rw [qN _ _ (by omega) (by omega)]; exact a1.2.2.1
      · rw [qN _ _ (by omega) (by omega)]; exact a1.2.2.2.1
      · rw [qN _ _ (by omega) (by omega)]; exact a1.2.2.2.2
    have b2 : rc_L A (aq_L A cs x n) N := ⟨fun c hc => by rw [qN _ _ (by omega) (by omega)]; exact a2.1 c hc, by rw [qN _ _ (by omega) (by omega)]; exact a2.2⟩
    have b3 : rc_s (mj_st s 12 14 (s.1 12 14 + 1)) N := by
      obtain ⟨c1, c2, c3, c4, c5⟩ := a3
      refine ⟨?_, ?_, ?_, fun a ha => ?_, fun i hi => ?_⟩
      · rw [pm_st0, hN, pm_st1 (by omega), pm_st1 (by omega), pm_st0]
      · rw [qN _ _ (by omega) (by omega), pm_st1 (by omega)]; exact c2
      · rw [qN _ _ (by omega) (by omega), pm_st1 (by omega)]; exact c3
      · rw [qN _ _ (by omega) (by omega), pm_st1 (by omega)]; exact c4 a ha
      · rw [pm_st1 (by omega)] at hi
        rw [qN _ _ (by omega) (by omega), qN _ _ (by omega) (by omega), pm_st1 (by omega)]; exact c5 i hi
    have fN : fc_ M N := by rw [hN]; exact (((fc_.refl M).st (by omega)).st (by omega)).st (by omega)
    obtain ⟨t, et⟩ : ∃ t : Int32, t = -aq_sg c := ⟨_, rfl⟩
    have L1 : rc_L A (aq_L A cs (upN x n c) (n + 1)) (pm_ca N (cs ch) t) := (rc_ca (t := t) k1 k2 b1 b2 ht).congr (fun z _ => by
      show aq_L A cs x n z + t * aq_ad A (cs ch) (nI z) = aq_L A cs (upN x n c) n z - aq_sg (upN x n c n) * aq_ad A (cs (upN x n c n / 2)) (nI z)
      rw [upN_s, aq_L_c (x := upN x n c) (y := x) (fun i hi => upN_n (by omega)), cd, et]
      grind)
    have E1 : ek_ A cs m lim size (upN x n c) (n + 1) (mj_st s 12 14 (s.1 12 14 + 1)) (pm_ca N (cs ch) t) := by
      have f := fl_ca N (cs ch) t
      refine ⟨f.rb b1, L1, f.rs b3, ⟨?_, ?_, ?_⟩, fun i hi => ?_, fun i hi => ?_, ?_⟩
      · rw [f.2 _ _ (by omega), qN _ _ (by omega) (by omega)]; exact a4
      · rw [f.2 _ _ (by omega), qN _ _ (by omega) (by omega)]; exact a5
      · rw [f.2 _ _ (by omega), qN _ _ (by omega) (by omega)]; exact a6
      · rw [f.2 _ _ (by omega), qN _ _ (by omega) (by omega)]; exact a7 i hi
      · rw [f.2 _ _ (by omega), f.2 _ _ (by omega)]
        by_cases q : i = n
        · rw [q, upN_s, cd, cm, hN, pm_st0, pm_st1 (by omega), pm_st0]
          exact ⟨⟨rfl, rfl⟩, hch⟩
        · rw [upN_n q, qN _ _ (by omega) (by omega), qN _ _ (by omega) (by omega)]
          exact a8 i (by omega)
      · rw [pm_st0]
        grind
    obtain ⟨M2, x1, x2, x3⟩ := hE _ _ E1
    have L2 : rc_L A (aq_L A cs x n) (pm_ca M2 (cs ch) (-t)) := (rc_ca (t := -t) k1 k2 x2.1 x2.2.1 ht).congr (fun z _ => by
      show aq_L A cs (upN x n c) n z - aq_sg (upN x n c n) * aq_ad A (cs (upN x n c n / 2)) (nI z) + -t * aq_ad A (cs ch) (nI z) = aq_L A cs x n z
      rw [upN_s, aq_L_c (x := upN x n c) (y := x) (fun i hi => upN_n (by omega)), cd, et]
      grind)
    refine ⟨pm_ca M2 (cs ch) (-t), ?_, fl_ek x2 (fl_ca _ _ _) (by omega) (fun i hi => upN_n (by omega)) L2, ((fN.trans (fl_ca _ _ _).fc).trans x3).trans (fl_ca _ _ _).fc⟩
    have p1 : pv_row N (cs ch) := (b1.pv k1 k2).1
    have p2 : pv_row M2 (cs ch) := (x2.1.pv k1 k2).1
    have tail : mj_Ev mj_S0 X mj_P (d + 3) mt_K_attempt 57 (mj_up (fun j => [mv_p 2, mv_p 1, mv_i (nI n), mv_i (nI ch), mv_i (nI h)][j]?) 5 (mv_i (nI (cs ch)))) [mv_i t] N 0 (mv_R (if (rec (upN x n c) (mj_st s 12 14 (s.1 12 14 + 1))).1 = true then 1 else 0) (pm_ca M2 (cs ch) (-t))) := by
      iterate 4 refine ev_go rfl ?_
      refine ev_callv rfl rfl rfl (pl_carry k1 p1) ?_
      iterate 5 refine ev_go rfl ?_
      show mj_Ev _ _ _ _ _ _ _ [mv_i (nI n + 1), _, _] _ _ _
      rw [nI_1]
      iterate 3 refine ev_go rfl ?_
      show mj_Ev _ _ _ _ _ _ _ [mv_i (nI ch + 1), _, _, _] _ _ _
      rw [nI_1]
      refine ev_callr rfl rfl rfl x1 ?_
      iterate 5 refine ev_go rfl ?_
      refine ev_callv rfl rfl rfl (pl_carry k1 p2) ?_
      refine ev_go rfl ?_
      refine ev_end rfl ?_
      exact if_pos (if01 _)
    iterate 4 refine ev_go rfl ?_
    rw [e9, a6]
    refine ev_if rfl (fun h8 => ?_) (fun h8 => ?_)
    · iterate 5 refine ev_go rfl ?_
      show mj_Ev _ _ _ _ _ _ _ [mv_i (M.1 2 9 + 1), _] _ _ _
      rw [e9]
      iterate 4 refine ev_go rfl ?_
      refine ev_ok (nI_in (show ch < 24 by omega) (by decide)) rfl ?_
      rw [nI_clamp (by omega), show (mj_st M 2 9 (s.1 12 14 + 1)).1 6 ch = nI (cs ch) from a7 ch hch]
      iterate 5 refine ev_go rfl ?_
      refine ev_ok (nI_in (show n < 4 by omega) (by decide)) rfl ?_
      rw [nI_clamp (by omega)]
      iterate 4 refine ev_go rfl ?_
      refine ev_ok (nI_in (show n < 4 by omega) (by decide)) rfl ?_
      rw [nI_clamp (by omega), ← hN]
      refine ev_go rfl ?_
      refine ev_if rfl (fun h49 => ?_) (fun h49 => ?_)
      · have e52 : (-1 : Int32) = t := by
          have q : h = 0 := by
            rcases Nat.eq_zero_or_pos h with q | q
            · exact q
            · exact absurd h49 (nI_ne0 q (by omega))
          rw [et]
          unfold aq_sg
          rw [cm, q]
          rfl
        iterate 2 refine ev_go rfl ?_
        refine ev_stk ?_ tail
        rw [← e52]
      · have e52 : (1 : Int32) = t := by
          have q : h = 1 := by
            rcases Nat.eq_zero_or_pos h with q | q
            · exact absurd (by rw [q]; rfl) h49
            · omega
          rw [et]
          unfold aq_sg
          rw [cm, q]
          rfl
        refine ev_go rfl ?_
        refine ev_stk ?_ tail
        rw [← e52]
    · exact absurd (by grind) h8
theorem pk_extend (hz : size ≤ 4) (hm : m ≤ 24) (hcs : ∀ i, i < m → cs i < 24 ∧ vs_rw A (cs i)) (ht : ∀ c, -1 ≤ A.1 21 c) : ∀ r n ch x s M, n + r = size → ch ≤ m → ek_ A cs m lim size x n s M → ∃ M', mj_C0 X (d + 2 * r + 2) mt_K_extend [mv_p 2, mv_p 1, mv_i (nI n), mv_i (nI ch)] M (mv_R (if (se_ A cs lim (2 * m) r n (2 * ch) x s).1 = true then 1 else 0) M') ∧ ek_ A cs m lim size x n (se_ A cs lim (2 * m) r n (2 * ch) x s).2 M' ∧ fc_ M M' := by
  intro r
  induction r with
  | zero =>
    intro n ch x s M hn hch hk
    have hk0 := hk
    obtain ⟨a1, a2, a3, ⟨a4, a5, a6⟩, a7, a8, a9⟩ := hk
    have en : n = size := by omega
    subst en
    have ed : M.1 1 4 = aq_nd A (aq_L A cs x n) := a2.2
    by_cases hw : aq_nd A (aq_L A cs x n) = 0
    · have es : se_ A cs lim (2 * m) 0 n (2 * ch) x s = (true, no_ cs x n s) := by
        show (true, if aq_nd A (aq_L A cs x n) = 0 then no_ cs x n s else s) = _
        rw [if_pos hw]
      rw [es]
      obtain ⟨M', n1, n2, n3⟩ := pk_note (X := X) (d := d + 1) (M := M) (cs := cs) (x := x) hz a5 (fun i hi => ⟨(a8 i hi).1.1, (hcs _ (a8 i hi).2).1⟩) (fun i hi => (a8 i hi).1.2) a3
      have hp : ∀ a, pr_ a = 30 + a := pr_e
      refine ⟨M', ?_, ⟨⟨fun a ha j hj => ?_, fun c hc => ?_, ?_, ?_, ?_⟩, ⟨fun c hc => ?_, ?_⟩, n2, ⟨?_, ?_, ?_⟩, fun i hi => ?_, fun i hi => ?_, ?_⟩, fun q j u1 u2 => n3 q j (by omega)⟩
      · iterate 3 refine ev_go rfl ?_
        rw [a5]
        refine ev_if rfl (fun h5 => ?_) (fun h5 => ?_)
        · exact absurd h5 (nI_nlt (Nat.le_refl _) (by omega))
        · iterate 2 refine ev_go rfl ?_
          refine ev_if rfl (fun h12 => ?_) (fun h12 => ?_)
          · refine ev_go rfl ?_
            refine ev_callv rfl rfl rfl n1 ?_
            first
              | exact absurd (ed.trans hw) h12
              | (refine ev_go rfl ?_
                 refine ev_end rfl ?_
                 rfl)
          · first
              | exact absurd (ed.trans hw) h12
              | (refine ev_go rfl ?_
                 refine ev_end rfl ?_
                 rfl)
      · rw [n3 _ _ (by rw [hp]; omega)]; exact a1.1 a ha j hj
      · rw [n3 _ _ (by omega)]; exact a1.2.1 c hc
      · rw [n3 _ _ (by omega)]; exact a1.2.2.1
      · rw [n3 _ _ (by omega)]; exact a1.2.2.2.1
      · rw [n3 _ _ (by omega)]; exact a1.2.2.2.2
      · rw [n3 _ _ (by omega)]; exact a2.1 c hc
      · rw [n3 _ _ (by omega)]; exact a2.2
      · rw [n3 _ _ (by omega)]; exact a4
      · rw [n3 _ _ (by omega)]; exact a5
      · rw [n3 _ _ (by omega)]; exact a6
      · rw [n3 _ _ (by omega)]; exact a7 i hi
      · rw [n3 _ _ (by omega), n3 _ _ (by omega)]; exact a8 i hi
      · show (no_ cs x n s).1 12 14 ≤ lim
        rw [no_q (by omega) (by omega) (by omega)]; exact a9
    · have es : se_ A cs lim (2 * m) 0 n (2 * ch) x s = (true, s) := by
        show (true, if aq_nd A (aq_L A cs x n) = 0 then no_ cs x n s else s) = _
        rw [if_neg hw]
      rw [es]
      refine ⟨M, ?_, hk0, fc_.refl M⟩
      iterate 3 refine ev_go rfl ?_
      rw [a5]
      refine ev_if rfl (fun h5 => ?_) (fun h5 => ?_)
      · exact absurd h5 (nI_nlt (Nat.le_refl _) (by omega))
      · iterate 2 refine ev_go rfl ?_
        refine ev_if rfl (fun h12 => ?_) (fun h12 => ?_)
        · exact absurd (ed.symm.trans h12) hw
        · refine ev_go rfl ?_
          refine ev_end rfl ?_
          rfl
  | succ r ih =>
    intro n ch x s M hn hch hk
    have loop : ∀ (fc : mj_V) i ch s M, ch + i = m → ek_ A cs m lim size x n s M → ∃ M', mj_Ev mj_S0 X mj_P (d + 2 * (r + 1) + 2) mt_K_extend 24 (mj_up (fun j => [mv_p 2, mv_p 1, mv_i (nI n), fc][j]?) 4 (mv_i (nI ch))) [] M 0 (mv_R (if (se_l (fun x' s' => se_ A cs lim (2 * m) r (n + 1) ((x' n / 2 + 1) * 2) x' s') lim (2 * m) n (2 * i) x s).1 = true then 1 else 0) M') ∧ ek_ A cs m lim size x n (se_l (fun x' s' => se_ A cs lim (2 * m) r (n + 1) ((x' n / 2 + 1) * 2) x' s') lim (2 * m) n (2 * i) x s).2 M' ∧ fc_ M M' := by
      intro fc i
      induction i with
      | zero =>
        intro ch s M hc hk
        refine ⟨M, ?_, hk, fc_.refl M⟩
        have e6 : M.1 2 6 = nI m := hk.2.2.2.1.1
        iterate 3 refine ev_go rfl ?_
        refine ev_if rfl (fun h30 => ?_) (fun h30 => ?_)
        · refine ev_go rfl ?_
          refine ev_end rfl ?_
          rfl
        · exact absurd (show M.1 2 6 ≤ nI ch by rw [e6]; exact nI_le (by omega) (by omega)) h30
      | succ i ihi =>
        intro ch s M hc hk
        have e6 : M.1 2 6 = nI m := hk.2.2.2.1.1
        have rule : ∀ h s M, h < 2 → ek_ A cs m lim size x n s M → ∃ M', mj_C0 X (d + 2 * r + 3) mt_K_attempt [mv_p 2, mv_p 1, mv_i (nI n), mv_i (nI ch), mv_i (nI h)] M (mv_R (if (at_ (fun x' s' => se_ A cs lim (2 * m) r (n + 1) ((x' n / 2 + 1) * 2) x' s') lim n x s (2 * ch + h)).1 = true then 1 else 0) M') ∧ ek_ A cs m lim size x n (at_ (fun x' s' => se_ A cs lim (2 * m) r (n + 1) ((x' n / 2 + 1) * 2) x' s') lim n x s (2 * ch + h)).2 M' ∧ fc_ M M' := by
          intro h s M hh hk
          refine pk_attempt (rec := (fun x' s' => se_ A cs lim (2 * m) r (n + 1) ((x' n / 2 + 1) * 2) x' s')) hz (by omega) hm hcs ht (by omega) hh rfl (fun s1 M1 hk1 => ?_) hk
          have hx := ih (n + 1) (ch + 1) (upN x n (2 * ch + h)) s1 M1 (by omega) (by omega) hk1
          have e2 : (upN x n (2 * ch + h) n / 2 + 1) * 2 = 2 * (ch + 1) := by rw [upN_s]; omega
          show ∃ M', mj_C0 X (d + 2 * r + 2) mt_K_extend _ M1 (mv_R (if (se_ A cs lim (2 * m) r (n + 1) ((upN x n (2 * ch + h) n / 2 + 1) * 2) (upN x n (2 * ch + h)) s1).1 = true then 1 else 0) M') ∧ ek_ A cs m lim size (upN x n (2 * ch + h)) (n + 1) (se_ A cs lim (2 * m) r (n + 1) ((upN x n (2 * ch + h) n / 2 + 1) * 2) (upN x n (2 * ch + h)) s1).2 M' ∧ fc_ M1 M'
          rw [e2]
          exact hx
        have s1 := se_l_at (rec := (fun x' s' => se_ A cs lim (2 * m) r (n + 1) ((x' n / 2 + 1) * 2) x' s')) (lim := lim) (m2 := 2 * m) (n := n) (j := 2 * i + 1) (x := x) (s := s)
        rw [show 2 * m - (2 * i + 1 + 1) = 2 * ch + 0 by omega] at s1
        rw [show 2 * (i + 1) = 2 * i + 1 + 1 by omega, s1]
        obtain ⟨M1, b1, b2, b3⟩ := rule 0 s M (by decide) hk
        cases h1 : at_ (fun x' s' => se_ A cs lim (2 * m) r (n + 1) ((x' n / 2 + 1) * 2) x' s') lim n x s (2 * ch + 0) with
        | mk p s' =>
          rw [h1] at b1 b2
          cases p with
          | false =>
            refine ⟨M1, ?_, b2, b3⟩
            iterate 3 refine ev_go rfl ?_
            refine ev_if rfl (fun h30 => ?_) (fun h30 => ?_)
            · exact absurd h30 (by rw [e6]; exact nI_ge (by omega) (by omega))
            · iterate 5 refine ev_go rfl ?_
              refine ev_callr rfl rfl rfl b1 ?_
              iterate 2 refine ev_go rfl ?_
              refine ev_end rfl ?_
              rfl
          | true =>
            have s2 := se_l_at (rec := (fun x' s' => se_ A cs lim (2 * m) r (n + 1) ((x' n / 2 + 1) * 2) x' s')) (lim := lim) (m2 := 2 * m) (n := n) (j := 2 * i) (x := x) (s := s')
            rw [show 2 * m - (2 * i + 1) = 2 * ch + 1 by omega] at s2
            show ∃ M', mj_Ev mj_S0 X mj_P (d + 2 * (r + 1) + 2) mt_K_extend 24 (mj_up (fun j => [mv_p 2, mv_p 1, mv_i (nI n), fc][j]?) 4 (mv_i (nI ch))) [] M 0 (mv_R (if (se_l (fun x' s' => se_ A cs lim (2 * m) r (n + 1) ((x' n / 2 + 1) * 2) x' s') lim (2 * m) n (2 * i + 1) x s').1 = true then 1 else 0) M') ∧ ek_ A cs m lim size x n (se_l (fun x' s' => se_ A cs lim (2 * m) r (n + 1) ((x' n / 2 + 1) * 2) x' s') lim (2 * m) n (2 * i + 1) x s').2 M' ∧ fc_ M M'
            rw [s2]
            obtain ⟨M2, c1, c2, c3⟩ := rule 1 s' M1 (by decide) b2
            cases h2 : at_ (fun x' s' => se_ A cs lim (2 * m) r (n + 1) ((x' n / 2 + 1) * 2) x' s') lim n x s' (2 * ch + 1) with
            | mk p2 s'' =>
              rw [h2] at c1 c2
              cases p2 with
              | false =>
                refine ⟨M2, ?_, c2, b3.trans c3⟩
                iterate 3 refine ev_go rfl ?_
                refine ev_if rfl (fun h30 => ?_) (fun h30 => ?_)
                · exact absurd h30 (by rw [e6]; exact nI_ge (by omega) (by omega))
                · iterate 5 refine ev_go rfl ?_
                  refine ev_callr rfl rfl rfl b1 ?_
                  iterate 6 refine ev_go rfl ?_
                  refine ev_callr rfl rfl rfl c1 ?_
                  iterate 2 refine ev_go rfl ?_
                  refine ev_end rfl ?_
                  rfl
              | true =>
                obtain ⟨M3, d1, d2, d3⟩ := ihi (ch + 1) s'' M2 (by omega) c2
                refine ⟨M3, ?_, d2, (b3.trans c3).trans d3⟩
                iterate 3 refine ev_go rfl ?_
                refine ev_if rfl (fun h30 => ?_) (fun h30 => ?_)
                · exact absurd h30 (by rw [e6]; exact nI_ge (by omega) (by omega))
                · iterate 5 refine ev_go rfl ?_
                  refine ev_callr rfl rfl rfl b1 ?_
                  iterate 6 refine ev_go rfl ?_
                  refine ev_callr rfl rfl rfl c1 ?_
                  iterate 3 refine ev_go rfl ?_
                  refine ev_lo ?_ d1
                  rw [nI_1]
                  exact mj_upo
    have es : se_ A cs lim (2 * m) (r + 1) n (2 * ch) x s = se_l (fun x' s' => se_ A cs lim (2 * m) r (n + 1) ((x' n / 2 + 1) * 2) x' s') lim (2 * m) n (2 * (m - ch)) x s := by
      rw [show 2 * (m - ch) = 2 * m - 2 * ch by omega]
      rfl
    rw [es]
    obtain ⟨M', l1, l2, l3⟩ := loop (mv_i (nI ch)) (m - ch) ch s M (by omega) hk
    have e7 : M.1 2 7 = nI size := hk.2.2.2.1.2.1
    refine ⟨M', ?_, l2, l3⟩
    iterate 3 refine ev_go rfl ?_
    rw [e7]
    refine ev_if rfl (fun h5 => ?_) (fun h5 => ?_)
    · iterate 2 refine ev_go rfl ?_
      exact l1
    · exact absurd (nI_lt (show n < size by omega) (by omega)) h5
end
end
section
/-! the class's search from size to size; settling -/
section
variable {X : Nat × (Nat → Int32)} {d : Nat} {M A s : mj_M} {cs x : Nat → Nat} {m n c size mo : Nat} {lim : Int32}
def e0_ (A : mj_M) (lim : Int32) (M0 s M : mj_M) : Prop := rc_b A M ∧ rc_L A (aq_E A) M ∧ rc_s s M ∧ M.1 2 12 = s.1 12 13 ∧ (M.1 2 6 = nI (aq_m A) ∧ M.1 2 8 = lim) ∧ (∀ i, i < aq_m A → M.1 6 i = nI (aq_cs A i)) ∧ s.1 12 14 ≤ lim ∧ rb_ A s ∧ fc_ M0 M
theorem rc_of {A' : mj_M} (hb : rb_ A A') (h1 : rc_b A M) (h2 : rc_L A (aq_E A) M) (h3 : rc_s A' M) (h4 : M.1 2 12 = A'.1 12 13) : rc_ A' M := by
  refine ⟨⟨fun a ha j hj => ?_, fun c hc => ?_, ?_, ?_, ?_⟩, ⟨fun c hc => ?_, ?_⟩, h3, h4⟩
  · rw [hb.q (by omega) (by omega)]; exact h1.1 a ha j hj
  · rw [hb.q (by omega) (by omega)]; exact h1.2.1 c hc
  · rw [hb.s (by omega)]; exact h1.2.2.1
  · rw [hb.s (by omega)]; exact h1.2.2.2.1
  · rw [hb.s (by omega)]; exact h1.2.2.2.2
  · rw [rb_E hb]; exact h2.1 c hc
  · rw [rb_E hb, rb_nd hb]; exact h2.2
theorem pk_seek_l {M0 : mj_M} (hv : vs_A A) (hmo : mo ≤ 4) : ∀ j z s M, z + j = mo + 1 → 0 < z → e0_ A lim M0 s M → ∃ M', mj_Ev mj_S0 X mj_P (d + 11) mt_K_seek 22 (mj_up (fun j => [mv_p 2, mv_p 1, mv_i (nI mo), mv_i lim][j]?) 4 (mv_i (nI z))) [] M 0 (mv_R (if (ss_ A (aq_cs A) lim (2 * aq_m A) j z s).1 12 15 = 0 then -1 else (ss_ A (aq_cs A) lim (2 * aq_m A) j z s).1 12 17) M') ∧ e0_ A lim M0 (ss_ A (aq_cs A) lim (2 * aq_m A) j z s) M' := by
  have hcs : ∀ i, i < aq_m A → aq_cs A i < 24 ∧ vs_rw A (aq_cs A i) := fun i hi => by
    have := aq_cs_in hi
    have := hv.1.2
    exact ⟨by omega, hv.2.1 _ (by omega)⟩
  have ex : ∀ z s M, e0_ A lim M0 s M → mj_Ev mj_S0 X mj_P (d + 11) mt_K_seek 65 (mj_up (fun j => [mv_p 2, mv_p 1, mv_i (nI mo), mv_i lim][j]?) 4 (mv_i (nI z))) [] M 0 (mv_R (if s.1 12 15 = 0 then -1 else s.1 12 17) M) := by
    intro z s M h
    have e15 : M.1 2 10 = s.1 12 15 := h.2.2.1.2.1
    have e17 : M.1 2 11 = s.1 12 17 := h.2.2.1.2.2.1
    iterate 2 refine ev_go rfl ?_
    rw [e15]
    refine ev_if rfl (fun h69 => ?_) (fun h69 => ?_)
    · iterate 2 refine ev_go rfl ?_
      refine ev_end rfl ?_
      show some _ = some (mv_R _ M)
      first
        | (rw [if_pos h69]; done)
        | (rw [if_neg h69, ← e17]; done)
    · iterate 2 refine ev_go rfl ?_
      refine ev_end rfl ?_
      show some _ = some (mv_R _ M)
      first
        | (rw [if_pos h69]; done)
        | (rw [if_neg h69, ← e17]; done)
  intro j
  induction j with
  | zero =>
    intro z s M hz h0 h
    refine ⟨M, ?_, h⟩
    have e1 := ex z s M h
    iterate 2 refine ev_go rfl ?_
    refine ev_if rfl (fun h25 => ?_) (fun h25 => ?_)
    · exact e1
    · exact absurd (nI_lt (show mo < z by omega) (by omega)) h25
  | succ j ih =>
    intro z s M hz h0 h
    have e13 : M.1 2 12 = s.1 12 13 := h.2.2.2.1
    have e15 : M.1 2 10 = s.1 12 15 := h.2.2.1.2.1
    by_cases hx : s.1 12 13 = 0 ∨ ¬ s.1 12 15 = 0
    · have he : ss_ A (aq_cs A) lim (2 * aq_m A) (j + 1) z s = s := if_pos hx
      rw [he]
      refine ⟨M, ?_, h⟩
      have e1 := ex z s M h
      iterate 2 refine ev_go rfl ?_
      refine ev_if rfl (fun h25 => ?_) (fun h25 => ?_)
      · exact e1
      · iterate 2 refine ev_go rfl ?_
        refine ev_if rfl (fun h32 => ?_) (fun h32 => ?_)
        · exact e1
        · iterate 2 refine ev_go rfl ?_
          refine ev_if rfl (fun h39 => ?_) (fun h39 => ?_)
          · rw [e13] at h32
            rw [e15] at h39
            rcases hx with q | q
            · exact absurd q h32
            · exact absurd h39 q
          · exact e1
    · have k13 : ¬ s.1 12 13 = 0 := fun q => hx (Or.inl q)
      have k15 : s.1 12 15 = 0 := by
        by_cases q : s.1 12 15 = 0
        · exact q
        · exact absurd (Or.inr q) hx
      have he : ss_ A (aq_cs A) lim (2 * aq_m A) (j + 1) z s = ss_ A (aq_cs A) lim (2 * aq_m A) j (z + 1) (mj_st (se_ A (aq_cs A) lim (2 * aq_m A) z 0 0 (fun _ => 0) s).2 12 13 (if (se_ A (aq_cs A) lim (2 * aq_m A) z 0 0 (fun _ => 0) s).1 = true then 1 else 0)) := if_neg hx
      rw [he]
      have hp : ∀ a, pr_ a = 30 + a := pr_e
      obtain ⟨a1, a2, a3, a4, ⟨a5, a6⟩, a7, a8, a9, a10⟩ := h
      have ek : ek_ A (aq_cs A) (aq_m A) lim z (fun _ => 0) 0 s (mj_st M 2 7 (nI z)) := by
        refine ⟨⟨fun a ha j hj => ?_, fun c hc => ?_, ?_, ?_, ?_⟩, ⟨fun c hc => ?_, ?_⟩, a3.M (fun q j hq => pm_st1 (by omega)), ⟨?_, pm_st0, ?_⟩, fun i hi => ?_, fun i hi => absurd hi (Nat.not_lt_zero _), a8⟩
        · rw [pm_st1 (by rw [hp]; omega)]; exact a1.1 a ha j hj
        · rw [pm_st1 (by omega)]; exact a1.2.1 c hc
        · rw [pm_st1 (by omega)]; exact a1.2.2.1
        · rw [pm_st1 (by omega)]; exact a1.2.2.2.1
        · rw [pm_st1 (by omega)]; exact a1.2.2.2.2
        · rw [pm_st1 (by omega)]; exact a2.1 c hc
        · rw [pm_st1 (by omega)]; exact a2.2
        · rw [pm_st1 (by omega)]; exact a5
        · rw [pm_st1 (by omega)]; exact a6
        · rw [pm_st1 (by omega)]; exact a7 i hi
      obtain ⟨M1, g1, g2, g3⟩ := pk_extend (X := X) (d := d + (8 - 2 * z)) (lim := lim) (show z ≤ 4 by omega) (aq_m_le A) hcs hv.2.2.2.2.2.1 z 0 0 (fun _ => 0) s _ (by omega) (by omega) ek
      rw [show d + (8 - 2 * z) + 2 * z + 2 = d + 10 by omega, show 2 * 0 = 0 from rfl] at g1
      rw [show 2 * 0 = 0 from rfl] at g2
      obtain ⟨b1, b2, b3, ⟨b4, b5, b6⟩, b7, b8, b9⟩ := g2
      have ok3 : e0_ A lim M0 (mj_st (se_ A (aq_cs A) lim (2 * aq_m A) z 0 0 (fun _ => 0) s).2 12 13 (if (se_ A (aq_cs A) lim (2 * aq_m A) z 0 0 (fun _ => 0) s).1 = true then 1 else 0)) (mj_st M1 2 12 (if (se_ A (aq_cs A) lim (2 * aq_m A) z 0 0 (fun _ => 0) s).1 = true then 1 else 0)) := by
        refine ⟨⟨fun a ha j hj => ?_, fun c hc => ?_, ?_, ?_, ?_⟩, ⟨fun c hc => ?_, ?_⟩, (b3.A (fun q j hq => pm_st1 (by omega))).M (fun q j hq => pm_st1 (by omega)), by rw [pm_st0, pm_st0], ⟨?_, ?_⟩, fun i hi => ?_, ?_, (se_rb a9).st (by omega), (a10.trans (((fc_.refl M).st (by omega)).trans g3)).st (by omega)⟩
        · rw [pm_st1 (by rw [hp]; omega)]; exact b1.1 a ha j hj
        · rw [pm_st1 (by omega)]; exact b1.2.1 c hc
        · rw [pm_st1 (by omega)]; exact b1.2.2.1
        · rw [pm_st1 (by omega)]; exact b1.2.2.2.1
        · rw [pm_st1 (by omega)]; exact b1.2.2.2.2
        · rw [pm_st1 (by omega)]; exact b2.1 c hc
        · rw [pm_st1 (by omega)]; exact b2.2
        · rw [pm_st1 (by omega)]; exact b4
        · rw [pm_st1 (by omega)]; exact b6
        · rw [pm_st1 (by omega)]; exact b7 i hi
        · rw [pm_st1 (by omega)]; exact b9
      obtain ⟨M', e1, e2⟩ := ih (z + 1) _ _ (by omega) (by omega) ok3
      refine ⟨M', ?_, e2⟩
      iterate 2 refine ev_go rfl ?_
      refine ev_if rfl (fun h25 => ?_) (fun h25 => ?_)
      · first
          | exact absurd h25 (nI_nlt (show z ≤ mo by omega) (by omega))
          | exact absurd (e13.symm.trans h32) k13
          | exact absurd (e15.trans k15) h39
      · iterate 2 refine ev_go rfl ?_
        refine ev_if rfl (fun h32 => ?_) (fun h32 => ?_)
        · first
            | exact absurd h25 (nI_nlt (show z ≤ mo by omega) (by omega))
            | exact absurd (e13.symm.trans h32) k13
            | exact absurd (e15.trans k15) h39
        · iterate 2 refine ev_go rfl ?_
          refine ev_if rfl (fun h39 => ?_) (fun h39 => ?_)
          · iterate 8 refine ev_go rfl ?_
            refine ev_callr rfl rfl rfl g1 ?_
            refine ev_ok (Or.inr (if01 _)) rfl ?_
            iterate 2 refine ev_go rfl ?_
            refine ev_lo ?_ e1
            rw [nI_1]
            exact mj_upo
          · first
              | exact absurd h25 (nI_nlt (show z ≤ mo by omega) (by omega))
              | exact absurd (e13.symm.trans h32) k13
              | exact absurd (e15.trans k15) h39
theorem pk_seek (hv : vs_A A) (h : rc_ A M) (h0 : 0 < mo) (hmo : mo ≤ 4) (hl : 0 ≤ lim) : ∃ M', mj_C0 X (d + 11) mt_K_seek [mv_p 2, mv_p 1, mv_i (nI mo), mv_i lim] M (mv_R (sv_ A lim mo) M') ∧ rc_ (sr_ A lim mo) M' ∧ fc_ M M' := by
  obtain ⟨b1, b2, b3⟩ := rc_bg (l := lim) h
  obtain ⟨g1, g2, g3, g4, g5⟩ := bg_s (M := M) (l := lim)
  obtain ⟨o1, o2, o3, o4⟩ := ob_s (A := A)
  have fb : fc_ M (pm_bg M lim) := fun q j u1 u2 => bg_q (by omega)
  have ed : (pm_bg M lim).1 1 4 = aq_nd A (aq_E A) := b2.2
  by_cases hz : aq_nd A (aq_E A) = 0
  · have er : sr_ A lim mo = ob_ A := if_pos hz
    have ev : sv_ A lim mo = 0 := if_pos hz
    rw [er, ev]
    refine ⟨pm_bg M lim, ?_, rc_of (oz_rb A 24) b1 b2 b3 (g5.trans o4.symm), fb⟩
    iterate 2 refine ev_go rfl ?_
    refine ev_callv rfl rfl rfl pk_begin ?_
    iterate 2 refine ev_go rfl ?_
    refine ev_if rfl (fun h9 => ?_) (fun h9 => ?_)
    · refine ev_go rfl ?_
      refine ev_end rfl ?_
      rfl
    · exact absurd (ed.trans hz) h9
  · have er : sr_ A lim mo = ss_ A (aq_cs A) lim (2 * aq_m A) mo 1 (ob_ A) := if_neg hz
    have ev : sv_ A lim mo = if (sr_ A lim mo).1 12 15 = 0 then -1 else (sr_ A lim mo).1 12 17 := if_neg hz
    rw [ev, er]
    obtain ⟨M1, t1, t2, t3, t4⟩ := pk_gather (X := X) (d := d + 7) (M := pm_bg M lim) hv b1
    have hp : ∀ a, pr_ a = 30 + a := pr_e
    have ok3 : e0_ A lim M (ob_ A) M1 := by
      refine ⟨⟨fun a ha j hj => ?_, fun c hc => ?_, ?_, ?_, ?_⟩, ⟨fun c hc => ?_, ?_⟩, b3.M (fun q j hq => t4 q j (by omega)), ?_, ⟨t2, ?_⟩, t3, ?_, oz_rb A 24, fb.trans (fun q j u1 u2 => t4 q j (by omega))⟩
      · rw [t4 _ _ (by rw [hp]; omega)]; exact b1.1 a ha j hj
      · rw [t4 _ _ (by omega)]; exact b1.2.1 c hc
      · rw [t4 _ _ (by omega)]; exact b1.2.2.1
      · rw [t4 _ _ (by omega)]; exact b1.2.2.2.1
      · rw [t4 _ _ (by omega)]; exact b1.2.2.2.2
      · rw [t4 _ _ (by omega)]; exact b2.1 c hc
      · rw [t4 _ _ (by omega)]; exact b2.2
      · rw [t4 _ _ (by omega)]; exact g5.trans o4.symm
      · rw [t4 _ _ (by omega)]; exact g1
      · rw [o3]; exact hl
    obtain ⟨M', e1, e2⟩ := pk_seek_l (X := X) (d := d) (lim := lim) (mo := mo) hv hmo mo 1 (ob_ A) M1 (by omega) (by omega) ok3
    refine ⟨M', ?_, rc_of e2.2.2.2.2.2.2.2.1 e2.1 e2.2.1 e2.2.2.1 e2.2.2.2.1, e2.2.2.2.2.2.2.2.2⟩
    iterate 2 refine ev_go rfl ?_
    refine ev_callv rfl rfl rfl pk_begin ?_
    iterate 2 refine ev_go rfl ?_
    refine ev_if rfl (fun h9 => ?_) (fun h9 => ?_)
    · exact absurd (ed.symm.trans h9) hz
    · iterate 2 refine ev_go rfl ?_
      refine ev_callv rfl rfl rfl t1 ?_
      iterate 2 refine ev_go rfl ?_
      exact e1
end
end
section
/-! the class's own calls -/
/-- in state A the class answers v and comes to A'; or throws E -/
def ey_ (X : Nat × (Nat → Int32)) (d : Nat) (T : mj_T) (as : List mj_V) (A : mj_M) (v : Int32) (A' : mj_M) : Prop := ∀ M, rc_ A M → ∃ M', mj_C0 X d T as M (mv_R v M') ∧ rc_ A' M' ∧ fc_ M M'
def ex_ (X : Nat × (Nat → Int32)) (d : Nat) (T : mj_T) (as : List mj_V) (A : mj_M) (E : Nat) : Prop := ∀ M, rc_ A M → mj_C0 X d T as M (mv_X E M)
theorem pd_wi1 {n a b : Int32} : pd_wi n a b = 0 ↔ ¬ (a ≤ n ∧ n ≤ b) := by
  unfold pd_wi
  grind
/-- the time of the last act -/
def aq_lt (A : mj_M) : Int32 := if aq_n A = 0 then 0 else A.1 18 (aq_n A - 1)
def na_ok (A : mj_M) (p g n w : Int32) : Prop := 0 ≤ p ∧ p ≤ 9 ∧ 0 ≤ g ∧ g ≤ 5 ∧ 1 ≤ n ∧ n ≤ 1000 ∧ aq_lt A ≤ w ∧ w ≤ 10000
theorem aq_lt0 {A : mj_M} (hv : vs_A A) : 0 ≤ aq_lt A := by
  unfold aq_lt
  by_cases h : aq_n A = 0
  · rw [if_pos h]
    decide
  · rw [if_neg h]
    obtain ⟨p, g, -, -, -, -, -, -, -, -, h0⟩ := hv.2.1 (aq_n A - 1) (by omega)
    exact h0
theorem on_na {A : mj_M} (hv : vs_A A) {k p o g n w : Int32} : on_ok A k p o g n w ↔ na_ok A p g n w ∧ (k = 2 → 0 ≤ o ∧ o ≤ 9 ∧ ¬ o = p) := by
  have h0 := aq_lt0 hv
  unfold on_ok na_ok
  unfold aq_lt at h0 ⊢
  by_cases h : aq_n A = 0
  · have h2 : ¬ 0 < aq_n A := by omega
    rw [if_pos h] at h0 ⊢
    grind
  · have h2 : 0 < aq_n A := by omega
    rw [if_neg h] at h0 ⊢
    grind
section
variable {X : Nat × (Nat → Int32)} {d : Nat} {M A : mj_M}
theorem pe_need {b : Int32} (h : ¬ b = 0) : mj_C0 X d mt_E_need [mv_i b] M (mv_V M) := by
  refine ev_go rfl ?_
  refine ev_if rfl (fun h1 => ?_) (fun h1 => ?_)
  · exact absurd h1 h
  · refine ev_end rfl ?_
    rfl
theorem pe_need_x {b : Int32} (h : b = 0) : mj_C0 X d mt_E_need [mv_i b] M (mv_X 0 M) := by
  refine ev_go rfl ?_
  refine ev_if rfl (fun h1 => ?_) (fun h1 => ?_)
  · refine ev_end rfl ?_
    rfl
  · exact absurd h h1
theorem pe_needCell {p g : Int32} (h : 0 ≤ p ∧ p ≤ 9 ∧ 0 ≤ g ∧ g ≤ 5) : mj_C0 X (d + 1) mt_E_needCell [mv_i p, mv_i g] M (mv_V M) := by
  iterate 3 refine ev_go rfl ?_
  refine ev_callr rfl rfl rfl pe_isWithin ?_
  refine ev_if rfl (fun h7 => ?_) (fun h7 => ?_)
  · exfalso
    grind [pd_wi1]
  · iterate 3 refine ev_go rfl ?_
    refine ev_callr rfl rfl rfl pe_isWithin ?_
    refine ev_if rfl (fun h16 => ?_) (fun h16 => ?_)
    · exfalso
      grind [pd_wi1]
    · iterate 2 refine ev_go rfl ?_
      refine ev_callv rfl rfl rfl (pe_need (by decide)) ?_
      refine ev_end rfl ?_
      rfl
theorem pe_needCell_x {p g : Int32} (h : ¬ (0 ≤ p ∧ p ≤ 9 ∧ 0 ≤ g ∧ g ≤ 5)) : mj_C0 X (d + 1) mt_E_needCell [mv_i p, mv_i g] M (mv_X 0 M) := by
  iterate 3 refine ev_go rfl ?_
  refine ev_callr rfl rfl rfl pe_isWithin ?_
  refine ev_if rfl (fun h7 => ?_) (fun h7 => ?_)
  · refine ev_go rfl ?_
    exact ev_callx rfl rfl rfl (pe_need_x rfl) rfl
  · iterate 3 refine ev_go rfl ?_
    refine ev_callr rfl rfl rfl pe_isWithin ?_
    refine ev_if rfl (fun h16 => ?_) (fun h16 => ?_)
    · refine ev_go rfl ?_
      exact ev_callx rfl rfl rfl (pe_need_x rfl) rfl
    · exfalso
      grind [pd_wi1]
theorem pe_needThere {i N : Nat} (h : i < N) (hN : N < 2 ^ 31) : mj_C0 X (d + 1) mt_E_needThere [mv_i (nI i), mv_i (nI N)] M (mv_V M) := by
  have h1 : 0 ≤ nI i := nI_pos' (by omega)
  have h2 : nI i ≤ nI N - 1 := (pk_m1le (by omega) (by omega)).2 h
  iterate 5 refine ev_go rfl ?_
  refine ev_callr rfl rfl rfl pe_isWithin ?_
  refine ev_if rfl (fun h8 => ?_) (fun h8 => ?_)
  · exact absurd h8 (by rw [pd_wi1]; exact fun q => q ⟨h1, h2⟩)
  · refine ev_end rfl ?_
    rfl
theorem pe_needThere_x {i : Int32} {N : Nat} (hN : N < 2 ^ 31) (h : i < 0 ∨ ¬ i < nI N) : mj_C0 X (d + 1) mt_E_needThere [mv_i i, mv_i (nI N)] M (mv_X 2 M) := by
  have h2 : ¬ (0 ≤ i ∧ i ≤ nI N - 1) := by
    rintro ⟨q1, q2⟩
    obtain ⟨j, hj, e⟩ := nI_of (x := i) (by grind)
    subst e
    have q3 := (pk_m1le hj hN).1 q2
    rcases h with h | h
    · grind
    · exact h (nI_lt q3 hN)
  iterate 5 refine ev_go rfl ?_
  refine ev_callr rfl rfl rfl pe_isWithin ?_
  refine ev_if rfl (fun h8 => ?_) (fun h8 => ?_)
  · refine ev_end rfl ?_
    rfl
  · exact absurd (pd_wi1.2 h2) h8
theorem pe_needRoom (h : ¬ 24 ≤ M.1 1 3) : mj_C0 X d mt_E_needRoom [mv_p 0] M (mv_V M) := by
  iterate 4 refine ev_go rfl ?_
  refine ev_if rfl (fun h9 => ?_) (fun h9 => ?_)
  · refine ev_end rfl ?_
    rfl
  · exfalso
    grind
theorem pe_needRoom_x (h : 24 ≤ M.1 1 3) : mj_C0 X d mt_E_needRoom [mv_p 0] M (mv_X 1 M) := by
  iterate 4 refine ev_go rfl ?_
  refine ev_if rfl (fun h9 => ?_) (fun h9 => ?_)
  · exfalso
    grind
  · refine ev_end rfl ?_
    rfl
theorem pl_lastTime2 (hv : vs_A A) (hb : rc_b A M) : mj_C0 X d mt_L_lastTime [mv_p 1] M (mv_R (aq_lt A) M) := by
  have hn : M.1 1 3 = nI (aq_n A) := hb.2.2.1.trans hv.1.1
  have key := pl_lastTime (X := X) (d := d) hn hv.1.2
  have e : (if aq_n A = 0 then 0 else M.1 (pr_ (aq_n A - 1)) 5) = aq_lt A := by
    unfold aq_lt
    by_cases h : aq_n A = 0
    · rw [if_pos h, if_pos h]
    · rw [if_neg h, if_neg h]
      exact hb.1 (aq_n A - 1) (by have := hv.1.2; omega) 5 (by decide)
  rw [e] at key
  exact key
theorem pe_needAct {p g n w : Int32} (hv : vs_A A) (hb : rc_b A M) (h : na_ok A p g n w) : mj_C0 X (d + 2) mt_E_needAct [mv_p 0, mv_i p, mv_i g, mv_i n, mv_i w] M (mv_V M) := by
  unfold na_ok at h
  iterate 2 refine ev_go rfl ?_
  refine ev_callv rfl rfl rfl (pe_needCell (by grind)) ?_
  iterate 3 refine ev_go rfl ?_
  refine ev_callr rfl rfl rfl pe_isWithin ?_
  refine ev_callv rfl rfl rfl (pe_need (by rw [pd_wi1]; grind)) ?_
  iterate 3 refine ev_go rfl ?_
  refine ev_callr rfl rfl rfl (pl_lastTime2 hv hb) ?_
  refine ev_go rfl ?_
  refine ev_callr rfl rfl rfl pe_isWithin ?_
  refine ev_callv rfl rfl rfl (pe_need (by rw [pd_wi1]; grind)) ?_
  refine ev_end rfl ?_
  rfl
theorem pe_needAct_x {p g n w : Int32} (hv : vs_A A) (hb : rc_b A M) (h : ¬ na_ok A p g n w) : mj_C0 X (d + 2) mt_E_needAct [mv_p 0, mv_i p, mv_i g, mv_i n, mv_i w] M (mv_X 0 M) := by
  unfold na_ok at h
  by_cases h1 : 0 ≤ p ∧ p ≤ 9 ∧ 0 ≤ g ∧ g ≤ 5
  · by_cases h2 : 1 ≤ n ∧ n ≤ 1000
    · have h3 : ¬ (aq_lt A ≤ w ∧ w ≤ 10000) := by grind
      iterate 2 refine ev_go rfl ?_
      refine ev_callv rfl rfl rfl (pe_needCell h1) ?_
      iterate 3 refine ev_go rfl ?_
      refine ev_callr rfl rfl rfl pe_isWithin ?_
      refine ev_callv rfl rfl rfl (pe_need (by rw [pd_wi1]; exact fun q => q h2)) ?_
      iterate 3 refine ev_go rfl ?_
      refine ev_callr rfl rfl rfl (pl_lastTime2 hv hb) ?_
      refine ev_go rfl ?_
      refine ev_callr rfl rfl rfl pe_isWithin ?_
      exact ev_callx rfl rfl rfl (pe_need_x (pd_wi1.2 h3)) rfl
    · iterate 2 refine ev_go rfl ?_
      refine ev_callv rfl rfl rfl (pe_needCell h1) ?_
      iterate 3 refine ev_go rfl ?_
      refine ev_callr rfl rfl rfl pe_isWithin ?_
      exact ev_callx rfl rfl rfl (pe_need_x (pd_wi1.2 h2)) rfl
  · iterate 2 refine ev_go rfl ?_
    exact ev_callx rfl rfl rfl (pe_needCell_x h1) rfl
theorem rc_24 (hv : vs_A A) (h : rc_ A M) : (24 ≤ M.1 1 3 ↔ aq_n A = 24) ∧ M.1 1 3 = nI (aq_n A) := by
  have e : M.1 1 3 = nI (aq_n A) := h.1.2.2.1.trans hv.1.1
  have hl := hv.1.2
  refine ⟨?_, e⟩
  rw [e, show (24 : Int32) = nI 24 from rfl, nI_leI (by decide) (by omega)]
  omega
theorem py_put {p g n w : Int32} (hv : vs_A A) (hl : aq_n A < 24) (h : na_ok A p g n w) (hr : vs_rw (on_st A 0 p (-1) g n w) (aq_n A)) : ey_ X (d + 4) mt_E_put [mv_p 0, mv_i p, mv_i g, mv_i n, mv_i w] A (nI (aq_n A)) (on_st A 0 p (-1) g n w) := by
  intro M hM
  obtain ⟨r1, r2, r3⟩ := rc_on hv hl hr hM
  obtain ⟨t1, t2⟩ := rc_24 hv hM
  refine ⟨_, ?_, r1, r2⟩
  iterate 5 refine ev_go rfl ?_
  refine ev_callv rfl rfl rfl (pe_needAct hv hM.1 h) ?_
  refine ev_go rfl ?_
  refine ev_callv rfl rfl rfl (pe_needRoom (by rw [t1]; omega)) ?_
  iterate 8 refine ev_go rfl ?_
  refine ev_callr rfl rfl rfl (pl_add t2 hl r3) ?_
  refine ev_end rfl ?_
  rfl
theorem px_put {p g n w : Int32} (hv : vs_A A) (h : ¬ na_ok A p g n w) : ex_ X (d + 4) mt_E_put [mv_p 0, mv_i p, mv_i g, mv_i n, mv_i w] A 0 := by
  intro M hM
  iterate 5 refine ev_go rfl ?_
  exact ev_callx rfl rfl rfl (pe_needAct_x hv hM.1 h) rfl
theorem pz_put {p g n w : Int32} (hv : vs_A A) (hl : aq_n A = 24) (h : na_ok A p g n w) : ex_ X (d + 4) mt_E_put [mv_p 0, mv_i p, mv_i g, mv_i n, mv_i w] A 1 := by
  intro M hM
  obtain ⟨t1, t2⟩ := rc_24 hv hM
  iterate 5 refine ev_go rfl ?_
  refine ev_callv rfl rfl rfl (pe_needAct hv hM.1 h) ?_
  refine ev_go rfl ?_
  exact ev_callx rfl rfl rfl (pe_needRoom_x (t1.2 hl)) rfl
theorem py_take {p g n w : Int32} (hv : vs_A A) (hl : aq_n A < 24) (h : na_ok A p g n w) (hr : vs_rw (on_st A 1 p (-1) g n w) (aq_n A)) : ey_ X (d + 4) mt_E_take [mv_p 0, mv_i p, mv_i g, mv_i n, mv_i w] A (nI (aq_n A)) (on_st A 1 p (-1) g n w) := by
  intro M hM
  obtain ⟨r1, r2, r3⟩ := rc_on hv hl hr hM
  obtain ⟨t1, t2⟩ := rc_24 hv hM
  refine ⟨_, ?_, r1, r2⟩
  iterate 5 refine ev_go rfl ?_
  refine ev_callv rfl rfl rfl (pe_needAct hv hM.1 h) ?_
  refine ev_go rfl ?_
  refine ev_callv rfl rfl rfl (pe_needRoom (by rw [t1]; omega)) ?_
  iterate 8 refine ev_go rfl ?_
  refine ev_callr rfl rfl rfl (pl_add t2 hl r3) ?_
  refine ev_end rfl ?_
  rfl
theorem px_take {p g n w : Int32} (hv : vs_A A) (h : ¬ na_ok A p g n w) : ex_ X (d + 4) mt_E_take [mv_p 0, mv_i p, mv_i g, mv_i n, mv_i w] A 0 := by
  intro M hM
  iterate 5 refine ev_go rfl ?_
  exact ev_callx rfl rfl rfl (pe_needAct_x hv hM.1 h) rfl
theorem pz_take {p g n w : Int32} (hv : vs_A A) (hl : aq_n A = 24) (h : na_ok A p g n w) : ex_ X (d + 4) mt_E_take [mv_p 0, mv_i p, mv_i g, mv_i n, mv_i w] A 1 := by
  intro M hM
  obtain ⟨t1, t2⟩ := rc_24 hv hM
  iterate 5 refine ev_go rfl ?_
  refine ev_callv rfl rfl rfl (pe_needAct hv hM.1 h) ?_
  refine ev_go rfl ?_
  exact ev_callx rfl rfl rfl (pe_needRoom_x (t1.2 hl)) rfl
theorem py_move {p o g n w : Int32} (hv : vs_A A) (hl : aq_n A < 24) (h : na_ok A p g n w) (h2 : 0 ≤ o ∧ o ≤ 9 ∧ ¬ o = p) (hr : vs_rw (on_st A 2 p o g n w) (aq_n A)) : ey_ X (d + 4) mt_E_move [mv_p 0, mv_i p, mv_i o, mv_i g, mv_i n, mv_i w] A (nI (aq_n A)) (on_st A 2 p o g n w) := by
  intro M hM
  obtain ⟨r1, r2, r3⟩ := rc_on hv hl hr hM
  obtain ⟨t1, t2⟩ := rc_24 hv hM
  refine ⟨_, ?_, r1, r2⟩
  iterate 5 refine ev_go rfl ?_
  refine ev_callv rfl rfl rfl (pe_needAct hv hM.1 h) ?_
  iterate 3 refine ev_go rfl ?_
  refine ev_callr rfl rfl rfl pe_isWithin ?_
  refine ev_if rfl (fun h17 => ?_) (fun h17 => ?_)
  · exfalso
    grind [pd_wi1]
  · iterate 2 refine ev_go rfl ?_
    refine ev_if rfl (fun h22 => ?_) (fun h22 => ?_)
    · exfalso
      grind [pd_wi1]
    · iterate 2 refine ev_go rfl ?_
      refine ev_callv rfl rfl rfl (pe_need (by decide)) ?_
      refine ev_go rfl ?_
      refine ev_callv rfl rfl rfl (pe_needRoom (by rw [t1]; omega)) ?_
      iterate 8 refine ev_go rfl ?_
      refine ev_callr rfl rfl rfl (pl_add t2 hl r3) ?_
      refine ev_end rfl ?_
      rfl
theorem px_move {p o g n w : Int32} (hv : vs_A A) (h : ¬ (na_ok A p g n w ∧ (0 ≤ o ∧ o ≤ 9 ∧ ¬ o = p))) : ex_ X (d + 4) mt_E_move [mv_p 0, mv_i p, mv_i o, mv_i g, mv_i n, mv_i w] A 0 := by
  intro M hM
  by_cases h1 : na_ok A p g n w
  · have h2 : ¬ (0 ≤ o ∧ o ≤ 9 ∧ ¬ o = p) := fun q => h ⟨h1, q⟩
    iterate 5 refine ev_go rfl ?_
    refine ev_callv rfl rfl rfl (pe_needAct hv hM.1 h1) ?_
    iterate 3 refine ev_go rfl ?_
    refine ev_callr rfl rfl rfl pe_isWithin ?_
    refine ev_if rfl (fun h17 => ?_) (fun h17 => ?_)
    · refine ev_go rfl ?_
      exact ev_callx rfl rfl rfl (pe_need_x rfl) rfl
    · iterate 2 refine ev_go rfl ?_
      refine ev_if rfl (fun h22 => ?_) (fun h22 => ?_)
      · refine ev_go rfl ?_
        exact ev_callx rfl rfl rfl (pe_need_x rfl) rfl
      · exfalso
        grind [pd_wi1]
  · iterate 5 refine ev_go rfl ?_
    exact ev_callx rfl rfl rfl (pe_needAct_x hv hM.1 h1) rfl
theorem pz_move {p o g n w : Int32} (hv : vs_A A) (hl : aq_n A = 24) (h : na_ok A p g n w) (h2 : 0 ≤ o ∧ o ≤ 9 ∧ ¬ o = p) : ex_ X (d + 4) mt_E_move [mv_p 0, mv_i p, mv_i o, mv_i g, mv_i n, mv_i w] A 1 := by
  intro M hM
  obtain ⟨t1, t2⟩ := rc_24 hv hM
  iterate 5 refine ev_go rfl ?_
  refine ev_callv rfl rfl rfl (pe_needAct hv hM.1 h) ?_
  iterate 3 refine ev_go rfl ?_
  refine ev_callr rfl rfl rfl pe_isWithin ?_
  refine ev_if rfl (fun h17 => ?_) (fun h17 => ?_)
  · exfalso
    grind [pd_wi1]
  · iterate 2 refine ev_go rfl ?_
    refine ev_if rfl (fun h22 => ?_) (fun h22 => ?_)
    · exfalso
      grind [pd_wi1]
    · iterate 2 refine ev_go rfl ?_
      refine ev_callv rfl rfl rfl (pe_need (by decide)) ?_
      refine ev_go rfl ?_
      exact ev_callx rfl rfl rfl (pe_needRoom_x (t1.2 hl)) rfl
end
end
section
/-! the class's own calls, on -/
section
variable {X : Nat × (Nat → Int32)} {d : Nat} {M A : mj_M}
theorem rc_n (hv : vs_A A) (h : rc_ A M) : M.1 1 3 = nI (aq_n A) := h.1.2.2.1.trans hv.1.1
/-- another change of the state that leaves what is expected alone -/
theorem rc_ac {A' M' : mj_M} (h : rc_ A M) (h1 : rc_b A' M') (e1 : A'.1 12 1 = A.1 12 1) (e2 : ∀ a, a < aq_n A → ∀ q, (13 ≤ q ∧ q ≤ 17) ∨ q = 19 → A'.1 q a = A.1 q a) (e3 : ∀ c, A'.1 21 c = A.1 21 c) (e4 : ∀ q j, (q = 12 ∧ (j = 14 ∨ j = 15 ∨ j = 17 ∨ j = 13)) ∨ q = 22 ∨ q = 23 → A'.1 q j = A.1 q j) (e5 : ∀ q j, (q = 2 ∧ (j = 9 ∨ j = 10 ∨ j = 11 ∨ j = 12)) ∨ (9 ≤ q ∧ q ≤ 11) ∨ q = 4 ∨ (q = 1 ∧ j = 4) → M'.1 q j = M.1 q j) : rc_ A' M' := by
  obtain ⟨-, hL, hs, hf⟩ := h
  refine ⟨h1, ⟨fun c hc => ?_, ?_⟩, (hs.A (fun q j hq => e4 q j (by omega))).M (fun q j hq => e5 q j (by omega)), ?_⟩
  · rw [e5 _ _ (by omega), aq_E_c e1 e2]; exact hL.1 c hc
  · rw [e5 _ _ (by omega), aq_E_c e1 e2, aq_nd_A e3]; exact hL.2
  · rw [e5 _ _ (by omega), e4 _ _ (by omega)]; exact hf
theorem px_closed {a b : Int32} (hv : vs_A A) (h : a < 0 ∨ ¬ a < nI (aq_n A)) : ex_ X (d + 4) mt_E_closed [mv_p 0, mv_i a, mv_i b] A 2 := by
  intro M hM
  have e := rc_n hv hM
  have hl := hv.1.2
  iterate 4 refine ev_go rfl ?_
  rw [e]
  exact ev_callx rfl rfl rfl (pe_needThere_x (by omega) h) rfl
theorem py_closed {a : Nat} {b : Int32} (hv : vs_A A) (ha : a < aq_n A) (hb : b = 0 ∨ b = 1) (hv' : vs_A (mj_st A 20 a b)) : ey_ X (d + 4) mt_E_closed [mv_p 0, mv_i (nI a), mv_i b] A (sm (aq_ci (mj_st A 20 a b) 7 1) (aq_n A)) (mj_st A 20 a b) := by
  intro M hM
  have e := rc_n hv hM
  have hl := hv.1.2
  have hp : ∀ a, pr_ a = 30 + a := pr_e
  have h1 : mj_in (nI a) 24 := nI_in (by omega) (by decide)
  have h2 : (nI a).toNatClampNeg = a := nI_clamp (by omega)
  have b1 : rc_b (mj_st A 20 a b) (mj_st M (pr_ a) 7 b) := by
    obtain ⟨⟨a1, a2, a3, a4, a5⟩, -⟩ := hM
    refine ⟨fun z hz j hj => ?_, fun c hc => ?_, ?_, ?_, ?_⟩
    · by_cases q : z = a ∧ j = 7
      · obtain ⟨q1, q2⟩ := q
        subst q1 q2
        rw [pm_st0, pm_st0]
      · rw [pm_st1 (by rw [hp, hp]; omega), pm_st1 (by omega)]
        exact a1 z hz j hj
    · rw [pm_st1 (by rw [hp]; omega), pm_st1 (by omega)]; exact a2 c hc
    · rw [pm_st1 (by rw [hp]; omega), pm_st1 (by omega)]; exact a3
    · rw [pm_st1 (by rw [hp]; omega), pm_st1 (by omega)]; exact a4
    · rw [pm_st1 (by rw [hp]; omega), pm_st1 (by omega)]; exact a5
  refine ⟨mj_st M (pr_ a) 7 b, ?_, rc_ac hM b1 (pm_st1 (by omega)) (fun z _ q hq => pm_st1 (by omega)) (fun c => pm_st1 (by omega)) (fun q j hq => pm_st1 (by omega)) (fun q j hq => pm_st1 (by rw [hp]; omega)), (fc_.refl M).st (by rw [hp]; omega)⟩
  have en : aq_n (mj_st A 20 a b) = aq_n A := by unfold aq_n; rw [pm_st1 (by omega)]
  have key := pl_actsWith (X := X) (d := d + 3) (w := 7) (v := 1) hv' b1 (by decide)
  rw [en] at key
  rcases hb with q | q <;> subst q
  · iterate 4 refine ev_go rfl ?_
    rw [e]
    refine ev_callv rfl rfl rfl (pe_needThere ha (by omega)) ?_
    iterate 4 refine ev_go rfl ?_
    refine ev_ok h1 rfl ?_
    rw [h2]
    iterate 4 refine ev_go rfl ?_
    refine ev_ok ⟨by omega, by decide⟩ rfl ?_
    simp only [tn_7]
    iterate 4 refine ev_go rfl ?_
    refine ev_callr rfl rfl rfl key ?_
    refine ev_end rfl ?_
    rfl
  · iterate 4 refine ev_go rfl ?_
    rw [e]
    refine ev_callv rfl rfl rfl (pe_needThere ha (by omega)) ?_
    iterate 4 refine ev_go rfl ?_
    refine ev_ok h1 rfl ?_
    rw [h2]
    iterate 5 refine ev_go rfl ?_
    refine ev_ok ⟨by omega, by decide⟩ rfl ?_
    simp only [tn_7]
    iterate 4 refine ev_go rfl ?_
    refine ev_callr rfl rfl rfl key ?_
    refine ev_end rfl ?_
    rfl
theorem px_window {a b : Int32} (h : ¬ (0 ≤ a ∧ a ≤ 10000 ∧ 0 ≤ b ∧ b ≤ 10000 ∧ a ≤ b)) : ex_ X (d + 4) mt_E_window [mv_p 0, mv_i a, mv_i b] A 0 := by
  intro M hM
  iterate 3 refine ev_go rfl ?_
  refine ev_callr rfl rfl rfl pe_isWithin ?_
  refine ev_if rfl (fun h8 => ?_) (fun h8 => ?_)
  · refine ev_go rfl ?_
    exact ev_callx rfl rfl rfl (pe_need_x rfl) rfl
  · iterate 3 refine ev_go rfl ?_
    refine ev_callr rfl rfl rfl pe_isWithin ?_
    refine ev_if rfl (fun h19 => ?_) (fun h19 => ?_)
    · refine ev_go rfl ?_
      exact ev_callx rfl rfl rfl (pe_need_x rfl) rfl
    · exfalso
      grind [pd_wi1]
theorem py_window {a b : Int32} (h : 0 ≤ a ∧ a ≤ 10000 ∧ 0 ≤ b ∧ b ≤ 10000 ∧ a ≤ b) (hv' : vs_A (ow_ A a b)) : ey_ X (d + 4) mt_E_window [mv_p 0, mv_i a, mv_i b] A (sm (aq_ca (ow_ A a b)) (aq_n (ow_ A a b))) (ow_ A a b) := by
  intro M hM
  have hp : ∀ a, pr_ a = 30 + a := pr_e
  have qA : ∀ q j, ¬ (q = 12 ∧ (j = 10 ∨ j = 11)) → (ow_ A a b).1 q j = A.1 q j := fun q j hq => by
    unfold ow_
    rw [pm_st1 (by omega), pm_st1 (by omega)]
  have b1 : rc_b (ow_ A a b) (mj_st (mj_st M 1 5 a) 1 6 b) := by
    obtain ⟨⟨a1, a2, a3, a4, a5⟩, -⟩ := hM
    refine ⟨fun z hz j hj => ?_, fun c hc => ?_, ?_, ?_, ?_⟩
    · rw [pm_st1 (by rw [hp]; omega), pm_st1 (by rw [hp]; omega), qA _ _ (by omega)]; exact a1 z hz j hj
    · rw [pm_st1 (by omega), pm_st1 (by omega), qA _ _ (by omega)]; exact a2 c hc
    · rw [pm_st1 (by omega), pm_st1 (by omega), qA _ _ (by omega)]; exact a3
    · unfold ow_
      rw [pm_st1 (by omega), pm_st0, pm_st1 (by omega), pm_st0]
    · unfold ow_
      rw [pm_st0, pm_st0]
  refine ⟨mj_st (mj_st M 1 5 a) 1 6 b, ?_, rc_ac hM b1 (qA _ _ (by omega)) (fun z _ q hq => qA _ _ (by omega)) (fun c => qA _ _ (by omega)) (fun q j hq => qA _ _ (by omega)) (fun q j hq => by rw [pm_st1 (by omega), pm_st1 (by omega)]), ((fc_.refl M).st (by omega)).st (by omega)⟩
  iterate 3 refine ev_go rfl ?_
  refine ev_callr rfl rfl rfl pe_isWithin ?_
  refine ev_if rfl (fun h8 => ?_) (fun h8 => ?_)
  · exfalso
    grind [pd_wi1]
  · iterate 3 refine ev_go rfl ?_
    refine ev_callr rfl rfl rfl pe_isWithin ?_
    refine ev_if rfl (fun h19 => ?_) (fun h19 => ?_)
    · exfalso
      grind [pd_wi1]
    · iterate 2 refine ev_go rfl ?_
      refine ev_callv rfl rfl rfl (pe_need (by decide)) ?_
      iterate 10 refine ev_go rfl ?_
      refine ev_callr rfl rfl rfl (pl_candidates hv' b1) ?_
      refine ev_end rfl ?_
      rfl
theorem px_counted {p g n : Int32} (h : ¬ (0 ≤ p ∧ p ≤ 9 ∧ 0 ≤ g ∧ g ≤ 5 ∧ -1 ≤ n ∧ n ≤ 100000)) : ex_ X (d + 4) mt_E_counted [mv_p 0, mv_i p, mv_i g, mv_i n] A 0 := by
  intro M hM
  by_cases h1 : 0 ≤ p ∧ p ≤ 9 ∧ 0 ≤ g ∧ g ≤ 5
  · have h2 : ¬ (-1 ≤ n ∧ n ≤ 100000) := by grind
    iterate 2 refine ev_go rfl ?_
    refine ev_callv rfl rfl rfl (pe_needCell h1) ?_
    iterate 3 refine ev_go rfl ?_
    refine ev_callr rfl rfl rfl pe_isWithin ?_
    exact ev_callx rfl rfl rfl (pe_need_x (pd_wi1.2 h2)) rfl
  · iterate 2 refine ev_go rfl ?_
    exact ev_callx rfl rfl rfl (pe_needCell_x h1) rfl
theorem py_counted {p g : Nat} {n : Int32} (hv : vs_A A) (hp : p < 10) (hg : g < 6) (h0 : -1 ≤ n ∧ n ≤ 100000) : ey_ X (d + 4) mt_E_counted [mv_p 0, mv_i (nI p), mv_i (nI g), mv_i n] A (aq_nd (oc_ A (p * 6 + g) n) (aq_E (oc_ A (p * 6 + g) n))) (oc_ A (p * 6 + g) n) := by
  intro M hM
  have h1 : 0 ≤ nI p ∧ nI p ≤ 9 ∧ 0 ≤ nI g ∧ nI g ≤ 5 := ⟨nI_pos' (by omega), nI_le (b := 9) (by omega) (by decide), nI_pos' (by omega), nI_le (b := 5) (by omega) (by decide)⟩
  obtain ⟨e1, e2, e3⟩ := pd_cell hp hg
  obtain ⟨r1, r2⟩ := rc_te e3 hM hv.2.2.2.2.2.1 h0.1
  refine ⟨pm_te M (p * 6 + g) n, ?_, r1, r2⟩
  iterate 2 refine ev_go rfl ?_
  refine ev_callv rfl rfl rfl (pe_needCell h1) ?_
  iterate 3 refine ev_go rfl ?_
  refine ev_callr rfl rfl rfl pe_isWithin ?_
  refine ev_callv rfl rfl rfl (pe_need (by rw [pd_wi1]; exact fun q => q h0)) ?_
  iterate 4 refine ev_go rfl ?_
  refine ev_callr rfl rfl rfl pe_cellOf ?_
  rw [e1]
  refine ev_go rfl ?_
  refine ev_callv rfl rfl rfl (pl_tell e3) ?_
  iterate 3 refine ev_go rfl ?_
  refine ev_end rfl ?_
  show some (mv_R ((pm_te M (p * 6 + g) n).1 1 4) _) = some (mv_R _ _)
  rw [r1.2.1.2]
  rfl
theorem px_expected {p g : Int32} (h : ¬ (0 ≤ p ∧ p ≤ 9 ∧ 0 ≤ g ∧ g ≤ 5)) : ex_ X (d + 4) mt_E_expected [mv_p 0, mv_i p, mv_i g] A 0 := by
  intro M hM
  iterate 2 refine ev_go rfl ?_
  exact ev_callx rfl rfl rfl (pe_needCell_x h) rfl
theorem py_expected {p g : Nat} (hp : p < 10) (hg : g < 6) : ey_ X (d + 4) mt_E_expected [mv_p 0, mv_i (nI p), mv_i (nI g)] A (aq_E A (p * 6 + g)) A := by
  intro M hM
  have h1 : 0 ≤ nI p ∧ nI p ≤ 9 ∧ 0 ≤ nI g ∧ nI g ≤ 5 := ⟨nI_pos' (by omega), nI_le (b := 9) (by omega) (by decide), nI_pos' (by omega), nI_le (b := 5) (by omega) (by decide)⟩
  obtain ⟨e1, e2, e3⟩ := pd_cell hp hg
  refine ⟨M, ?_, hM, fc_.refl M⟩
  iterate 2 refine ev_go rfl ?_
  refine ev_callv rfl rfl rfl (pe_needCell h1) ?_
  iterate 5 refine ev_go rfl ?_
  refine ev_callr rfl rfl rfl pe_cellOf ?_
  rw [e1]
  refine ev_ok (nI_in e3 (by decide)) rfl ?_
  rw [nI_clamp (by omega), hM.2.1.1 _ e3]
  refine ev_end rfl ?_
  rfl
theorem rc_nd (h : rc_ A M) : M.1 1 4 = nI (ct (aq_df A (aq_E A)) 60) := h.2.1.2.trans (aq_wct _ _ _)
theorem px_differ {i w : Int32} (h : i < 0 ∨ ¬ i < aq_nd A (aq_E A)) : ex_ X (d + 4) mt_E_differ [mv_p 0, mv_i i, mv_i w] A 2 := by
  intro M hM
  have e := rc_nd hM
  have u := ct_le (aq_df A (aq_E A)) 60
  have h' : i < 0 ∨ ¬ i < nI (ct (aq_df A (aq_E A)) 60) := by rw [← aq_wct]; exact h
  iterate 4 refine ev_go rfl ?_
  rw [e]
  exact ev_callx rfl rfl rfl (pe_needThere_x (by omega) h') rfl
theorem pz_differ {i : Nat} {w : Int32} (h : i < ct (aq_df A (aq_E A)) 60) (h' : ¬ (0 ≤ w ∧ w ≤ 2)) : ex_ X (d + 4) mt_E_differ [mv_p 0, mv_i (nI i), mv_i w] A 0 := by
  intro M hM
  have e := rc_nd hM
  have u := ct_le (aq_df A (aq_E A)) 60
  iterate 4 refine ev_go rfl ?_
  rw [e]
  refine ev_callv rfl rfl rfl (pe_needThere h (by omega)) ?_
  iterate 3 refine ev_go rfl ?_
  refine ev_callr rfl rfl rfl pe_isWithin ?_
  exact ev_callx rfl rfl rfl (pe_need_x (pd_wi1.2 h')) rfl
theorem py_differ {i c : Nat} {w : Int32} (hv : vs_A A) (hc : c < 60) (h1 : ct (aq_df A (aq_E A)) c = i) (h2 : ¬ aq_df A (aq_E A) c = 0) (h' : 0 ≤ w ∧ w ≤ 2) : ey_ X (d + 4) mt_E_differ [mv_p 0, mv_i (nI i), mv_i w] A (if w = 0 then nI c / 6 else if w = 1 then nI c - nI c / 6 * 6 else aq_df A (aq_E A) c) A := by
  intro M hM
  have e := rc_nd hM
  have u := ct_le (aq_df A (aq_E A)) 60
  have h3 : i < ct (aq_df A (aq_E A)) 60 := by
    have := ct_1 h2
    have := ct_mono (aq_df A (aq_E A)) (show c + 1 ≤ 60 by omega)
    omega
  have eg : M.1 5 c - M.1 4 c = aq_df A (aq_E A) c := by
    rw [hM.1.2.1 c hc, hM.2.1.1 c hc]
    unfold aq_df at h2 ⊢
    grind
  refine ⟨M, ?_, hM, fc_.refl M⟩
  iterate 4 refine ev_go rfl ?_
  rw [e]
  refine ev_callv rfl rfl rfl (pe_needThere h3 (by omega)) ?_
  iterate 3 refine ev_go rfl ?_
  refine ev_callr rfl rfl rfl pe_isWithin ?_
  refine ev_callv rfl rfl rfl (pe_need (by rw [pd_wi1]; exact fun q => q h')) ?_
  iterate 3 refine ev_go rfl ?_
  refine ev_callr rfl rfl rfl (pl_differingCell hM.1 hM.2.1 hv.2.2.2.2.2.1 hc h1 h2) ?_
  iterate 2 refine ev_go rfl ?_
  refine ev_if rfl (fun h30 => ?_) (fun h30 => ?_)
  · iterate 3 refine ev_go rfl ?_
    refine ev_end rfl ?_
    show some _ = some (mv_R _ M)
    first
      | (rw [if_pos h30]; done)
      | (rw [if_pos h30]; rfl)
      | (rw [if_neg h30, if_pos h40]; done)
      | (rw [if_neg h30, if_pos h40]; rfl)
      | (rw [if_neg h30, if_neg h40]; done)
  · iterate 2 refine ev_go rfl ?_
    refine ev_if rfl (fun h40 => ?_) (fun h40 => ?_)
    · iterate 4 refine ev_go rfl ?_
      try rw [eg]
      refine ev_end rfl ?_
      show some _ = some (mv_R _ M)
      first
        | (rw [if_pos h30]; done)
        | (rw [if_pos h30]; rfl)
        | (rw [if_neg h30, if_pos h40]; done)
        | (rw [if_neg h30, if_pos h40]; rfl)
        | (rw [if_neg h30, if_neg h40]; done)
    · iterate 3 refine ev_go rfl ?_
      refine ev_callr rfl rfl rfl (pl_gap hc) ?_
      try rw [eg]
      refine ev_end rfl ?_
      show some _ = some (mv_R _ M)
      first
        | (rw [if_pos h30]; done)
        | (rw [if_pos h30]; rfl)
        | (rw [if_neg h30, if_pos h40]; done)
        | (rw [if_neg h30, if_pos h40]; rfl)
        | (rw [if_neg h30, if_neg h40]; done)
theorem px_search {a b : Int32} (h : ¬ (1 ≤ a ∧ a ≤ 4 ∧ 0 ≤ b ∧ b ≤ 20000)) : ex_ X (d + 12) mt_E_search [mv_p 0, mv_i a, mv_i b] A 0 := by
  intro M hM
  iterate 3 refine ev_go rfl ?_
  refine ev_callr rfl rfl rfl pe_isWithin ?_
  refine ev_if rfl (fun h6 => ?_) (fun h6 => ?_)
  · refine ev_go rfl ?_
    exact ev_callx rfl rfl rfl (pe_need_x rfl) rfl
  · iterate 3 refine ev_go rfl ?_
    refine ev_callr rfl rfl rfl pe_isWithin ?_
    refine ev_if rfl (fun h17 => ?_) (fun h17 => ?_)
    · refine ev_go rfl ?_
      exact ev_callx rfl rfl rfl (pe_need_x rfl) rfl
    · exfalso
      grind [pd_wi1]
theorem py_search {mo : Nat} {b : Int32} (hv : vs_A A) (h0 : 0 < mo) (h4 : mo ≤ 4) (hb : 0 ≤ b ∧ b ≤ 20000) : ey_ X (d + 12) mt_E_search [mv_p 0, mv_i (nI mo), mv_i b] A (sv_ A b mo) (sr_ A b mo) := by
  intro M hM
  have hmm : 1 ≤ nI mo ∧ nI mo ≤ 4 := ⟨nI_le (a := 1) (by omega) (by omega), nI_le (b := 4) (by omega) (by decide)⟩
  obtain ⟨M', s1, s2, s3⟩ := pk_seek (X := X) (d := d) hv hM h0 h4 hb.1
  refine ⟨M', ?_, s2, s3⟩
  iterate 3 refine ev_go rfl ?_
  refine ev_callr rfl rfl rfl pe_isWithin ?_
  refine ev_if rfl (fun h6 => ?_) (fun h6 => ?_)
  · exfalso
    grind [pd_wi1]
  · iterate 3 refine ev_go rfl ?_
    refine ev_callr rfl rfl rfl pe_isWithin ?_
    refine ev_if rfl (fun h17 => ?_) (fun h17 => ?_)
    · exfalso
      grind [pd_wi1]
    · iterate 2 refine ev_go rfl ?_
      refine ev_callv rfl rfl rfl (pe_need (by decide)) ?_
      iterate 6 refine ev_go rfl ?_
      refine ev_callr rfl rfl rfl s1 ?_
      refine ev_end rfl ?_
      rfl
theorem py_exact (h : A.1 12 13 = 0 ∨ A.1 12 13 = 1) : ey_ X d mt_E_exact [mv_p 0] A (A.1 12 13) A := by
  intro M hM
  refine ⟨M, ?_, hM, fc_.refl M⟩
  iterate 3 refine ev_go rfl ?_
  rw [hM.2.2.2]
  refine ev_end rfl ?_
  exact if_pos h
theorem py_steps : ey_ X d mt_E_steps [mv_p 0] A (A.1 12 14) A := by
  intro M hM
  refine ⟨M, ?_, hM, fc_.refl M⟩
  iterate 3 refine ev_go rfl ?_
  rw [hM.2.2.1.1]
  refine ev_end rfl ?_
  rfl
theorem py_ties : ey_ X d mt_E_ties [mv_p 0] A (A.1 12 15) A := by
  intro M hM
  refine ⟨M, ?_, hM, fc_.refl M⟩
  iterate 3 refine ev_go rfl ?_
  rw [hM.2.2.1.2.1]
  refine ev_end rfl ?_
  rfl
theorem px_often {a : Int32} (hv : vs_A A) (h : a < 0 ∨ ¬ a < nI (aq_n A)) : ex_ X (d + 4) mt_E_often [mv_p 0, mv_i a] A 2 := by
  intro M hM
  have e := rc_n hv hM
  have hl := hv.1.2
  iterate 4 refine ev_go rfl ?_
  rw [e]
  exact ev_callx rfl rfl rfl (pe_needThere_x (by omega) h) rfl
theorem py_often {a : Nat} (hv : vs_A A) (ha : a < aq_n A) : ey_ X (d + 4) mt_E_often [mv_p 0, mv_i (nI a)] A (A.1 22 a) A := by
  intro M hM
  have e := rc_n hv hM
  have hl := hv.1.2
  refine ⟨M, ?_, hM, fc_.refl M⟩
  iterate 4 refine ev_go rfl ?_
  rw [e]
  refine ev_callv rfl rfl rfl (pe_needThere ha (by omega)) ?_
  iterate 4 refine ev_go rfl ?_
  refine ev_ok (nI_in (show a < 24 by omega) (by decide)) rfl ?_
  rw [nI_clamp (by omega), hM.2.2.1.2.2.2.1 a (by omega)]
  refine ev_end rfl ?_
  rfl
end
end
section
/-! the class's own calls: the rest -/
theorem vs_ch {A : mj_M} (hv : vs_A A) : ∃ m, m ≤ 4 ∧ A.1 12 17 = nI m ∧ (A.1 12 17).toNatClampNeg = m ∧ ∀ i, i < m → ∃ a h, a < aq_n A ∧ h < 2 ∧ A.1 23 i = nI (2 * a + h) := by
  obtain ⟨-, -, -, -, -, -, -, m, h1, h2, h3⟩ := hv
  exact ⟨m, h1, h2, by rw [h2]; exact nI_clamp (by omega), h3⟩
theorem ah_d {a h : Nat} (ha : a < 24) (hh : h < 2) : nI (2 * a + h) / 2 = nI a ∧ nI (2 * a + h) - nI (2 * a + h) / 2 * 2 = nI h := by
  constructor
  · rw [show (2 : Int32) = nI 2 from rfl, pk_div (by omega) (by decide) (by decide), show (2 * a + h) / 2 = a by omega]
  · rw [show (2 : Int32) = nI 2 from rfl, pk_rem (by omega) (by decide) (by decide), show (2 * a + h) % 2 = h by omega]
theorem ah_i {a h b g : Nat} (ha : a < 24) (hh : h < 2) (hb : b < 24) (hg : g < 2) (e : nI (2 * a + h) = nI (2 * b + g)) : a = b ∧ h = g := by
  rw [nI_eq (by omega) (by omega)] at e
  omega
section
variable {X : Nat × (Nat → Int32)} {d : Nat} {M A : mj_M}
/-- the changes, as class and reference hold them -/
theorem rc_ch (hv : vs_A A) (h : rc_s A M) : ∃ m, m ≤ 4 ∧ A.1 12 17 = nI m ∧ M.1 2 11 = nI m ∧ ∀ i, i < m → ∃ a h, a < aq_n A ∧ h < 2 ∧ A.1 23 i = nI (2 * a + h) ∧ M.1 9 i = nI a ∧ M.1 10 i = nI h ∧ aq_fa A i = a ∧ aq_fh A i = nI h ∧ A.1 23 i / 2 = nI a := by
  obtain ⟨m, h1, h2, h3, h4⟩ := vs_ch hv
  have hl := hv.1.2
  refine ⟨m, h1, h2, h.2.2.1.trans h2, fun i hi => ?_⟩
  obtain ⟨a, g, k1, k2, k3⟩ := h4 i hi
  obtain ⟨b, f, l1, l2, l3, l4, l5⟩ := h.2.2.2.2 i (by rw [h3]; exact hi)
  obtain ⟨q1, q2⟩ := ah_i (by omega) k2 l1 l2 (k3.symm.trans l5)
  subst q1 q2
  obtain ⟨d1, d2⟩ := ah_d (a := a) (h := g) (by omega) k2
  refine ⟨a, g, k1, k2, k3, l3, l4, ?_, ?_, ?_⟩
  · unfold aq_fa
    rw [k3, d1, nI_clamp (by omega)]
  · unfold aq_fh
    rw [k3, d2]
  · rw [k3, d1]
theorem px_found {i w : Int32} (hv : vs_A A) (h : i < 0 ∨ ¬ i < A.1 12 17) : ex_ X (d + 4) mt_E_found [mv_p 0, mv_i i, mv_i w] A 2 := by
  intro M hM
  obtain ⟨m, h1, h2, h3, h4⟩ := rc_ch hv hM.2.2.1
  rw [h2] at h
  iterate 4 refine ev_go rfl ?_
  rw [h3]
  exact ev_callx rfl rfl rfl (pe_needThere_x (by omega) h) rfl
theorem pz_found {i : Nat} {w : Int32} (hv : vs_A A) (hi : i < (A.1 12 17).toNatClampNeg) (h' : ¬ (0 ≤ w ∧ w ≤ 1)) : ex_ X (d + 4) mt_E_found [mv_p 0, mv_i (nI i), mv_i w] A 0 := by
  intro M hM
  obtain ⟨m, h1, h2, h3, h4⟩ := rc_ch hv hM.2.2.1
  rw [h2, nI_clamp (by omega)] at hi
  iterate 4 refine ev_go rfl ?_
  rw [h3]
  refine ev_callv rfl rfl rfl (pe_needThere hi (by omega)) ?_
  iterate 3 refine ev_go rfl ?_
  refine ev_callr rfl rfl rfl pe_isWithin ?_
  exact ev_callx rfl rfl rfl (pe_need_x (pd_wi1.2 h')) rfl
theorem py_found {i : Nat} {w : Int32} (hv : vs_A A) (hi : i < (A.1 12 17).toNatClampNeg) (h' : 0 ≤ w ∧ w ≤ 1) : ey_ X (d + 4) mt_E_found [mv_p 0, mv_i (nI i), mv_i w] A (if w = 0 then A.1 23 i / 2 else A.1 23 i - A.1 23 i / 2 * 2) A := by
  intro M hM
  obtain ⟨m, h1, h2, h3, h4⟩ := rc_ch hv hM.2.2.1
  rw [h2, nI_clamp (by omega)] at hi
  obtain ⟨a, g, k1, k2, k3, k4, k5, k6, k7, k8⟩ := h4 i hi
  have k9 : A.1 23 i - A.1 23 i / 2 * 2 = nI g := k7
  have i4 : mj_in (nI i) 4 := nI_in (by omega) (by decide)
  have j4 : (nI i).toNatClampNeg = i := nI_clamp (by omega)
  refine ⟨M, ?_, hM, fc_.refl M⟩
  iterate 4 refine ev_go rfl ?_
  rw [h3]
  refine ev_callv rfl rfl rfl (pe_needThere hi (by omega)) ?_
  iterate 3 refine ev_go rfl ?_
  refine ev_callr rfl rfl rfl pe_isWithin ?_
  refine ev_callv rfl rfl rfl (pe_need (by rw [pd_wi1]; exact fun q => q h')) ?_
  refine ev_go rfl ?_
  refine ev_if rfl (fun h21 => ?_) (fun h21 => ?_)
  · iterate 4 refine ev_go rfl ?_
    refine ev_ok i4 rfl ?_
    refine ev_go rfl ?_
    refine ev_end rfl ?_
    show some _ = some (mv_R _ M)
    rw [j4]
    first
      | (rw [if_pos h21, k8, k4]; done)
      | (rw [if_neg h21, k9, k5]; done)
  · iterate 4 refine ev_go rfl ?_
    refine ev_ok i4 rfl ?_
    refine ev_end rfl ?_
    show some _ = some (mv_R _ M)
    rw [j4]
    first
      | (rw [if_pos h21, k8, k4]; done)
      | (rw [if_neg h21, k9, k5]; done)
theorem pk_plain_l {m : Nat} (hv : vs_A A) (hM : rc_ A M) (h1 : m ≤ 4) (h3 : M.1 2 11 = nI m) (h4 : ∀ i, i < m → M.1 9 i = nI (aq_fa A i) ∧ aq_fa A i < 24) (v : Int32) : ∀ j k, k + j = m → ((v = 1 ∧ ∀ i, k ≤ i → i < m → A.1 19 (aq_fa A i) = 0) ∨ (v = 0 ∧ ∃ i, k ≤ i ∧ i < m ∧ ¬ A.1 19 (aq_fa A i) = 0)) → mj_Ev mj_S0 X mj_P d mt_K_isOfPlainActs 2 (mj_up (fun j => [mv_p 2, mv_p 1][j]?) 2 (mv_i (nI k))) [] M 0 (mv_R v M) := by
  intro j
  induction j with
  | zero =>
    intro k hk hw
    have ev : v = 1 := by
      rcases hw with ⟨q, -⟩ | ⟨-, i, q1, q2, -⟩
      · exact q
      · omega
    subst ev
    iterate 3 refine ev_go rfl ?_
    refine ev_if rfl (fun h7 => ?_) (fun h7 => ?_)
    · refine ev_go rfl ?_
      refine ev_end rfl ?_
      rfl
    · exact absurd (show M.1 2 11 ≤ nI k by rw [h3]; exact nI_le (by omega) (by omega)) h7
  | succ j ih =>
    intro k hk hw
    obtain ⟨k1, k2⟩ := h4 k (by omega)
    have e6 : M.1 (pr_ (aq_fa A k)) 6 = A.1 19 (aq_fa A k) := hM.1.1 _ k2 6 (by decide)
    iterate 3 refine ev_go rfl ?_
    refine ev_if rfl (fun h7 => ?_) (fun h7 => ?_)
    · exact absurd h7 (by rw [h3]; exact nI_ge (by omega) (by omega))
    · iterate 5 refine ev_go rfl ?_
      refine ev_ok (nI_in (show k < 4 by omega) (by decide)) rfl ?_
      rw [nI_clamp (by omega), k1]
      refine ev_ok (nI_in k2 (by decide)) rfl ?_
      rw [nI_clamp (by omega)]
      refine ev_go rfl ?_
      refine ev_ok ⟨k2, by decide⟩ rfl ?_
      simp only [tn_6]
      rw [e6]
      refine ev_if rfl (fun h24 => ?_) (fun h24 => ?_)
      · iterate 2 refine ev_go rfl ?_
        refine ev_lo ?_ (ih (k + 1) (by omega) ?_)
        · rw [nI_1]
          exact mj_upo
        · rcases hw with ⟨q, q'⟩ | ⟨q, i, q1, q2, q3⟩
          · exact Or.inl ⟨q, fun i u1 u2 => q' i (by omega) u2⟩
          · refine Or.inr ⟨q, i, ?_, q2, q3⟩
            rcases Nat.lt_or_ge k i with u | u
            · exact u
            · rw [show i = k by omega] at q3
              exact absurd h24 q3
      · have ev : v = 0 := by
          rcases hw with ⟨-, q⟩ | ⟨q, -⟩
          · exact absurd (q k (Nat.le_refl _) (by omega)) h24
          · exact q
        subst ev
        refine ev_go rfl ?_
        refine ev_end rfl ?_
        rfl
theorem pk_plain {m : Nat} (hv : vs_A A) (hM : rc_ A M) (h1 : m ≤ 4) (h3 : M.1 2 11 = nI m) (h4 : ∀ i, i < m → M.1 9 i = nI (aq_fa A i) ∧ aq_fa A i < 24) (v : Int32) (hw : (v = 1 ∧ ∀ i, 0 ≤ i → i < m → A.1 19 (aq_fa A i) = 0) ∨ (v = 0 ∧ ∃ i, 0 ≤ i ∧ i < m ∧ ¬ A.1 19 (aq_fa A i) = 0)) : mj_C0 X d mt_K_isOfPlainActs [mv_p 2, mv_p 1] M (mv_R v M) := by
  iterate 2 refine ev_go rfl ?_
  exact pk_plain_l hv hM h1 h3 h4 v m 0 (by omega) hw
theorem oa_s (hv : vs_A A) {m : Nat} (hm : ∀ i, i < m → aq_fh A i = 0 ∨ aq_fh A i = 1) : ∀ k, k ≤ m → ∀ a, (oa_ A k).1 19 a = 0 ∨ (oa_ A k).1 19 a = 1 ∨ (oa_ A k).1 19 a = 2
  | 0, _, a => hv.2.2.1 a
  | k + 1, hk, a => by
    show (mj_st (oa_ A k) 19 (aq_fa A k) (1 + aq_fh A k)).1 19 a = 0 ∨ (mj_st (oa_ A k) 19 (aq_fa A k) (1 + aq_fh A k)).1 19 a = 1 ∨ (mj_st (oa_ A k) 19 (aq_fa A k) (1 + aq_fh A k)).1 19 a = 2
    by_cases q : a = aq_fa A k
    · rw [q, pm_st0]
      rcases hm k (by omega) with q2 | q2 <;> rw [q2]
      · exact Or.inr (Or.inl rfl)
      · exact Or.inr (Or.inr rfl)
    · rw [pm_st1 (Or.inr q)]
      exact oa_s hv hm k (by omega) a
def st_ (A M0 : mj_M) (k : Nat) (M : mj_M) : Prop := rc_b (oa_ A k) M ∧ rc_L (oa_ A k) (aq_E (oa_ A k)) M ∧ (∀ q j, q ≠ 4 → (q ≠ 1 ∨ j ≠ 4) → q < 30 → M.1 q j = M0.1 q j)
theorem pk_settle_l {m : Nat} {M0 : mj_M} (hv : vs_A A) (h1 : m ≤ 4) (h3 : M0.1 2 11 = nI m) (h4 : ∀ i, i < m → ∃ a h, a < aq_n A ∧ h < 2 ∧ M0.1 9 i = nI a ∧ M0.1 10 i = nI h ∧ aq_fa A i = a ∧ aq_fh A i = nI h) : ∀ j k M, k + j = m → st_ A M0 k M → ∃ M', mj_Ev mj_S0 X mj_P (d + 4) mt_K_settle 2 (mj_up (fun j => [mv_p 2, mv_p 1][j]?) 2 (mv_i (nI k))) [] M 0 (mv_V (mj_st M' 2 11 0)) ∧ st_ A M0 m M' := by
  have hl := hv.1.2
  have hm : ∀ i, i < m → aq_fh A i = 0 ∨ aq_fh A i = 1 := fun i hi => by
    obtain ⟨a, h, -, g2, -, -, -, g6⟩ := h4 i hi
    rw [g6]
    rcases (show h = 0 ∨ h = 1 by omega) with q | q <;> subst q
    · exact Or.inl rfl
    · exact Or.inr rfl
  have hp : ∀ a, pr_ a = 30 + a := pr_e
  intro j
  induction j with
  | zero =>
    intro k M hk h
    have e : k = m := by omega
    subst e
    have e3 : M.1 2 11 = nI k := (h.2.2 2 11 (by omega) (by omega) (by omega)).trans h3
    refine ⟨M, ?_, h⟩
    iterate 3 refine ev_go rfl ?_
    refine ev_if rfl (fun h7 => ?_) (fun h7 => ?_)
    · iterate 3 refine ev_go rfl ?_
      refine ev_end rfl ?_
      rfl
    · exact absurd (show M.1 2 11 ≤ nI k by rw [e3]; exact Int32.le_refl _) h7
  | succ j ih =>
    intro k M hk h
    have e3 : M.1 2 11 = nI m := (h.2.2 2 11 (by omega) (by omega) (by omega)).trans h3
    obtain ⟨a, g, g1, g2, g3, g4, g5, g6⟩ := h4 k (by omega)
    have e9 : M.1 9 k = nI a := (h.2.2 9 k (by omega) (by omega) (by omega)).trans g3
    have e10 : M.1 10 k = nI g := (h.2.2 10 k (by omega) (by omega) (by omega)).trans g4
    have rw1 : vs_rw (oa_ A k) a := by
      have q := hv.2.1 a g1
      unfold vs_rw at q ⊢
      rw [oa_q A (by decide), oa_q A (by decide), oa_q A (by decide), oa_q A (by decide), oa_q A (by decide), oa_q A (by decide)]
      exact q
    have t1 : ∀ c, -1 ≤ (oa_ A k).1 21 c := fun c => by rw [oa_q A (by decide)]; exact hv.2.2.2.2.2.1 c
    have pv : pv_row M a := (h.1.pv (by omega) rw1).1
    have v01 : (1 + aq_fh A k) = 0 ∨ (1 + aq_fh A k) = 1 ∨ (1 + aq_fh A k) = 2 := by
      rcases hm k (by omega) with q2 | q2 <;> rw [q2]
      · exact Or.inr (Or.inl rfl)
      · exact Or.inr (Or.inr rfl)
    obtain ⟨u1, u2⟩ := rc_tu (A := oa_ A k) (a := a) (v := 1 + aq_fh A k) (by rw [oa_n]; exact g1) (by rw [oa_n]; exact hl) rw1 h.1 h.2.1 t1 v01 (oa_s hv hm k (by omega) a)
    have eo : oa_ A (k + 1) = mj_st (oa_ A k) 19 a (1 + aq_fh A k) := by
      show mj_st (oa_ A k) 19 (aq_fa A k) (1 + aq_fh A k) = _
      rw [g5]
    have ok1 : st_ A M0 (k + 1) (pm_tu M a (1 + aq_fh A k)) := by
      refine ⟨by rw [eo]; exact u1, by rw [eo]; exact u2, fun q j q1 q2 q3 => ?_⟩
      rw [fu_tu _ _ _ (by rw [hp]; omega)]
      exact h.2.2 q j q1 q2 q3
    obtain ⟨M', e1, e2⟩ := ih (k + 1) _ (by omega) ok1
    refine ⟨M', ?_, e2⟩
    have i4 : mj_in (nI k) 4 := nI_in (by omega) (by decide)
    have j4 : (nI k).toNatClampNeg = k := nI_clamp (by omega)
    rw [g6] at e1
    iterate 3 refine ev_go rfl ?_
    refine ev_if rfl (fun h7 => ?_) (fun h7 => ?_)
    · exact absurd h7 (by rw [e3]; exact nI_ge (by omega) (by omega))
    · iterate 4 refine ev_go rfl ?_
      refine ev_ok i4 rfl ?_
      rw [j4, e9]
      iterate 3 refine ev_go rfl ?_
      refine ev_ok i4 rfl ?_
      rw [j4, e10]
      refine ev_if rfl (fun h23 => ?_) (fun h23 => ?_)
      · have q9 : 1 + nI g = 1 := by
          rcases Nat.eq_zero_or_pos g with q | q
          · rw [q]
            rfl
          · exact absurd h23 (nI_ne0 q (by omega))
        rw [q9] at e1
        iterate 2 refine ev_go rfl ?_
        refine ev_callv rfl rfl rfl (pl_turn (by omega) pv) ?_
        iterate 2 refine ev_go rfl ?_
        refine ev_lo ?_ e1
        rw [nI_1]
        exact mj_upo
      · have q9 : 1 + nI g = 2 := by
          rcases Nat.eq_zero_or_pos g with q | q
          · exact absurd (by rw [q]; rfl) h23
          · rw [show g = 1 by omega]
            rfl
        rw [q9] at e1
        refine ev_go rfl ?_
        refine ev_callv rfl rfl rfl (pl_turn (by omega) pv) ?_
        iterate 2 refine ev_go rfl ?_
        refine ev_lo ?_ e1
        rw [nI_1]
        exact mj_upo
theorem px_accept (hv : vs_A A) (h : A.1 12 17 = 0 ∨ ∃ i, i < (A.1 12 17).toNatClampNeg ∧ ¬ A.1 19 (aq_fa A i) = 0) : ex_ X (d + 6) mt_E_accept [mv_p 0] A 3 := by
  intro M hM
  obtain ⟨m, h1, h2, h3, h4⟩ := rc_ch hv hM.2.2.1
  have hl := hv.1.2
  by_cases hz : m = 0
  · iterate 3 refine ev_go rfl ?_
    refine ev_if rfl (fun h7 => ?_) (fun h7 => ?_)
    · refine ev_end rfl ?_
      rfl
    · exact absurd (by rw [h3, hz]; rfl) h7
  · have key := pk_plain (X := X) (d := d + 5) hv hM h1 h3 (fun i hi => by
      obtain ⟨a, g, k1, k2, k3, k4, k5, k6, k7, k8⟩ := h4 i hi
      rw [k6]
      exact ⟨k4, by omega⟩) 0 (Or.inr ⟨rfl, by
        rcases h with q1 | ⟨i, q1, q2⟩
        · exact absurd (h2.symm.trans q1) (nI_ne0 (n := m) (by omega) (by omega))
        · rw [h2, nI_clamp (by omega)] at q1
          exact ⟨i, by omega, q1, q2⟩⟩)
    iterate 3 refine ev_go rfl ?_
    refine ev_if rfl (fun h7 => ?_) (fun h7 => ?_)
    · first
        | exact absurd (h3.symm.trans h7) (nI_ne0 (by omega) (by omega))
        | (refine ev_end rfl ?_
           rfl)
    · iterate 4 refine ev_go rfl ?_
      refine ev_callr rfl rfl rfl key ?_
      refine ev_go rfl ?_
      first
        | exact absurd (h3.symm.trans h7) (nI_ne0 (by omega) (by omega))
        | (refine ev_end rfl ?_
           rfl)
theorem py_accept {m : Nat} (hv : vs_A A) (h0 : 0 < m) (h4' : m ≤ 4) (hm : A.1 12 17 = nI m) (hp : ∀ i, i < m → A.1 19 (aq_fa A i) = 0) : ey_ X (d + 6) mt_E_accept [mv_p 0] A (aq_nd (mj_st (oa_ A m) 12 17 0) (aq_E (mj_st (oa_ A m) 12 17 0))) (mj_st (oa_ A m) 12 17 0) := by
  intro M hM
  obtain ⟨m', h1, h2, h3, h4⟩ := rc_ch hv hM.2.2.1
  have hl := hv.1.2
  have em : m' = m := (nI_eq (by omega) (by omega)).1 (h2.symm.trans hm)
  subst em
  have key := pk_plain (X := X) (d := d + 5) hv hM h1 h3 (fun i hi => by
    obtain ⟨a, g, k1, k2, k3, k4, k5, k6, k7, k8⟩ := h4 i hi
    rw [k6]
    exact ⟨k4, by omega⟩) 1 (Or.inl ⟨rfl, fun i _ hi => hp i hi⟩)
  obtain ⟨M', s1, s2⟩ := pk_settle_l (X := X) (d := d + 1) (A := A) (M0 := M) hv h1 h3 (fun i hi => by
    obtain ⟨a, g, k1, k2, k3, k4, k5, k6, k7, k8⟩ := h4 i hi
    exact ⟨a, g, k1, k2, k4, k5, k6, k7⟩) m' 0 M (by omega) ⟨hM.1, hM.2.1, fun _ _ _ _ _ => rfl⟩
  obtain ⟨s3, s4, s5⟩ := s2
  have settle : mj_C0 X (d + 5) mt_K_settle [mv_p 2, mv_p 1] M (mv_V (mj_st M' 2 11 0)) := by
    iterate 2 refine ev_go rfl ?_
    exact s1
  have hpr : ∀ a, pr_ a = 30 + a := pr_e
  have eE : aq_E (mj_st (oa_ A m') 12 17 0) = aq_E (oa_ A m') := aq_E_c (pm_st1 (by omega)) (fun a _ q hq => pm_st1 (by omega))
  have rcN : rc_ (mj_st (oa_ A m') 12 17 0) (mj_st M' 2 11 0) := by
    refine ⟨⟨fun a ha j hj => ?_, fun c hc => ?_, ?_, ?_, ?_⟩, ⟨fun c hc => ?_, ?_⟩, ⟨?_, ?_, ?_, fun a ha => ?_, fun i hi => ?_⟩, ?_⟩
    · rw [pm_st1 (by rw [hpr]; omega), pm_st1 (by omega)]; exact s3.1 a ha j hj
    · rw [pm_st1 (by omega), pm_st1 (by omega)]; exact s3.2.1 c hc
    · rw [pm_st1 (by omega), pm_st1 (by omega)]; exact s3.2.2.1
    · rw [pm_st1 (by omega), pm_st1 (by omega)]; exact s3.2.2.2.1
    · rw [pm_st1 (by omega), pm_st1 (by omega)]; exact s3.2.2.2.2
    · rw [pm_st1 (by omega), eE]; exact s4.1 c hc
    · rw [pm_st1 (by omega), eE, aq_nd_A (A := oa_ A m') (fun c => pm_st1 (by omega))]; exact s4.2
    · rw [pm_st1 (by omega), pm_st1 (by omega), s5 _ _ (by omega) (by omega) (by omega), oa_q A (by decide)]; exact hM.2.2.1.1
    · rw [pm_st1 (by omega), pm_st1 (by omega), s5 _ _ (by omega) (by omega) (by omega), oa_q A (by decide)]; exact hM.2.2.1.2.1
    · rw [pm_st0, pm_st0]
    · rw [pm_st1 (by omega), pm_st1 (by omega), s5 _ _ (by omega) (by omega) (by omega), oa_q A (by decide)]; exact hM.2.2.1.2.2.2.1 a ha
    · rw [pm_st0] at hi
      exact absurd hi (Nat.not_lt_zero _)
    · rw [pm_st1 (by omega), pm_st1 (by omega), s5 _ _ (by omega) (by omega) (by omega), oa_q A (by decide)]; exact hM.2.2.2
  refine ⟨mj_st M' 2 11 0, ?_, rcN, ?_⟩
  · iterate 3 refine ev_go rfl ?_
    refine ev_if rfl (fun h7 => ?_) (fun h7 => ?_)
    · exact absurd (h3.symm.trans h7) (nI_ne0 h0 (by omega))
    · iterate 4 refine ev_go rfl ?_
      refine ev_callr rfl rfl rfl key ?_
      iterate 5 refine ev_go rfl ?_
      refine ev_callv rfl rfl rfl settle ?_
      iterate 3 refine ev_go rfl ?_
      refine ev_end rfl ?_
      show some (mv_R ((mj_st M' 2 11 0).1 1 4) _) = some (mv_R _ _)
      rw [rcN.2.1.2]
  · intro q j q1 q2
    rw [pm_st1 (by omega)]
    exact s5 q j (by omega) (by omega) (by omega)
end
end
section
/-! the class's own calls: back, share, told, of, count; the law's wrappers -/
section
variable {X : Nat × (Nat → Int32)} {d : Nat} {M A : mj_M}
theorem px_back {a : Int32} (hv : vs_A A) (h : a < 0 ∨ ¬ a < nI (aq_n A)) : ex_ X (d + 4) mt_E_back [mv_p 0, mv_i a] A 2 := by
  intro M hM
  have e := rc_n hv hM
  have hl := hv.1.2
  iterate 4 refine ev_go rfl ?_
  rw [e]
  exact ev_callx rfl rfl rfl (pe_needThere_x (by omega) h) rfl
theorem pz_back {a : Nat} (hv : vs_A A) (ha : a < aq_n A) (h' : A.1 19 a = 0) : ex_ X (d + 4) mt_E_back [mv_p 0, mv_i (nI a)] A 3 := by
  intro M hM
  have e := rc_n hv hM
  have hl := hv.1.2
  have h1 : mj_in (nI a) 24 := nI_in (by omega) (by decide)
  have h2 : (nI a).toNatClampNeg = a := nI_clamp (by omega)
  have a24 : a < 24 := by omega
  have e6 : M.1 (pr_ a) 6 = A.1 19 a := hM.1.1 a (by omega) 6 (by decide)
  iterate 4 refine ev_go rfl ?_
  rw [e]
  refine ev_callv rfl rfl rfl (pe_needThere ha (by omega)) ?_
  iterate 4 refine ev_go rfl ?_
  refine ev_ok h1 rfl ?_
  rw [h2]
  refine ev_go rfl ?_
  refine ev_ok ⟨a24, by decide⟩ rfl ?_
  simp only [tn_6]
  rw [e6]
  refine ev_if rfl (fun h23 => ?_) (fun h23 => ?_)
  · refine ev_end rfl ?_
    rfl
  · exact absurd h' h23
theorem py_back {a : Nat} (hv : vs_A A) (ha : a < aq_n A) (h' : ¬ A.1 19 a = 0) : ey_ X (d + 4) mt_E_back [mv_p 0, mv_i (nI a)] A (aq_nd (mj_st A 19 a 0) (aq_E (mj_st A 19 a 0))) (mj_st A 19 a 0) := by
  intro M hM
  have e := rc_n hv hM
  have hl := hv.1.2
  have h1 : mj_in (nI a) 24 := nI_in (by omega) (by decide)
  have h2 : (nI a).toNatClampNeg = a := nI_clamp (by omega)
  have a24 : a < 24 := by omega
  have e6 : M.1 (pr_ a) 6 = A.1 19 a := hM.1.1 a (by omega) 6 (by decide)
  have hp : ∀ a, pr_ a = 30 + a := pr_e
  have rw1 := hv.2.1 a ha
  obtain ⟨u1, u2⟩ := rc_tu (v := 0) ha hl rw1 hM.1 hM.2.1 hv.2.2.2.2.2.1 (Or.inl rfl) (hv.2.2.1 a)
  have rcN : rc_ (mj_st A 19 a 0) (pm_tu M a 0) := ⟨u1, u2, (hM.2.2.1.A (fun q j hq => pm_st1 (by omega))).M (fun q j hq => fu_tu _ _ _ (by rw [hp]; omega)), by rw [fu_tu _ _ _ (by rw [hp]; omega), pm_st1 (by omega)]; exact hM.2.2.2⟩
  refine ⟨pm_tu M a 0, ?_, rcN, fc_tu _ _ _⟩
  iterate 4 refine ev_go rfl ?_
  rw [e]
  refine ev_callv rfl rfl rfl (pe_needThere ha (by omega)) ?_
  iterate 4 refine ev_go rfl ?_
  refine ev_ok h1 rfl ?_
  rw [h2]
  refine ev_go rfl ?_
  refine ev_ok ⟨a24, by decide⟩ rfl ?_
  simp only [tn_6]
  rw [e6]
  refine ev_if rfl (fun h23 => ?_) (fun h23 => ?_)
  · exact absurd h23 h'
  · iterate 4 refine ev_go rfl ?_
    refine ev_callv rfl rfl rfl (pl_turn a24 (hM.1.pv a24 rw1).1) ?_
    iterate 3 refine ev_go rfl ?_
    refine ev_end rfl ?_
    show some (mv_R ((pm_tu M a 0).1 1 4) _) = some (mv_R _ _)
    rw [rcN.2.1.2]
theorem px_share {p q : Int32} (h : ¬ (0 ≤ p ∧ p ≤ 1000000 ∧ 0 ≤ q)) : ex_ X (d + 4) mt_E_share [mv_p 0, mv_i p, mv_i q] A 0 := by
  intro M hM
  iterate 3 refine ev_go rfl ?_
  refine ev_callr rfl rfl rfl pe_isWithin ?_
  refine ev_if rfl (fun h7 => ?_) (fun h7 => ?_)
  · refine ev_go rfl ?_
    exact ev_callx rfl rfl rfl (pe_need_x rfl) rfl
  · refine ev_go rfl ?_
    refine ev_if rfl (fun h11 => ?_) (fun h11 => ?_)
    · refine ev_go rfl ?_
      exact ev_callx rfl rfl rfl (pe_need_x rfl) rfl
    · exfalso
      grind [pd_wi1]
theorem pz_share {p q : Int32} (h : 0 ≤ p ∧ p ≤ 1000000 ∧ 0 ≤ q) (h' : q = 0) : ex_ X (d + 4) mt_E_share [mv_p 0, mv_i p, mv_i q] A 4 := by
  intro M hM
  iterate 3 refine ev_go rfl ?_
  refine ev_callr rfl rfl rfl pe_isWithin ?_
  refine ev_if rfl (fun h7 => ?_) (fun h7 => ?_)
  · exfalso
    grind [pd_wi1]
  · refine ev_go rfl ?_
    refine ev_if rfl (fun h11 => ?_) (fun h11 => ?_)
    · exfalso
      grind [pd_wi1]
    · iterate 2 refine ev_go rfl ?_
      refine ev_callv rfl rfl rfl (pe_need (by decide)) ?_
      refine ev_go rfl ?_
      refine ev_if rfl (fun h23 => ?_) (fun h23 => ?_)
      · refine ev_end rfl ?_
        rfl
      · exact absurd h' h23
theorem py_share {p q : Int32} (h : 0 ≤ p ∧ p ≤ 1000000 ∧ 0 ≤ q) (h' : ¬ q = 0) : ey_ X (d + 4) mt_E_share [mv_p 0, mv_i p, mv_i q] A (100 * p / q) A := by
  intro M hM
  refine ⟨M, ?_, hM, fc_.refl M⟩
  iterate 3 refine ev_go rfl ?_
  refine ev_callr rfl rfl rfl pe_isWithin ?_
  refine ev_if rfl (fun h7 => ?_) (fun h7 => ?_)
  · exfalso
    grind [pd_wi1]
  · refine ev_go rfl ?_
    refine ev_if rfl (fun h11 => ?_) (fun h11 => ?_)
    · exfalso
      grind [pd_wi1]
    · iterate 2 refine ev_go rfl ?_
      refine ev_callv rfl rfl rfl (pe_need (by decide)) ?_
      refine ev_go rfl ?_
      refine ev_if rfl (fun h23 => ?_) (fun h23 => ?_)
      · exact absurd h23 h'
      · iterate 4 refine ev_go rfl ?_
        refine ev_ok h' rfl ?_
        refine ev_end rfl ?_
        show some (mv_R (p * 100 / q) M) = _
        rw [Int32.mul_comm]
theorem px_told {a w : Int32} (hv : vs_A A) (h : a < 0 ∨ ¬ a < nI (aq_n A)) : ex_ X (d + 4) mt_E_told [mv_p 0, mv_i a, mv_i w] A 2 := by
  intro M hM
  have e := rc_n hv hM
  have hl := hv.1.2
  iterate 4 refine ev_go rfl ?_
  rw [e]
  exact ev_callx rfl rfl rfl (pe_needThere_x (by omega) h) rfl
theorem pz_told {a : Nat} {w : Int32} (hv : vs_A A) (ha : a < aq_n A) (h' : ¬ (0 ≤ w ∧ w ≤ 8)) : ex_ X (d + 4) mt_E_told [mv_p 0, mv_i (nI a), mv_i w] A 0 := by
  intro M hM
  have e := rc_n hv hM
  have hl := hv.1.2
  iterate 4 refine ev_go rfl ?_
  rw [e]
  refine ev_callv rfl rfl rfl (pe_needThere ha (by omega)) ?_
  iterate 3 refine ev_go rfl ?_
  refine ev_callr rfl rfl rfl pe_isWithin ?_
  exact ev_callx rfl rfl rfl (pe_need_x (pd_wi1.2 h')) rfl
theorem py_told {a w : Nat} (hv : vs_A A) (ha : a < aq_n A) (hw : w ≤ 8) : ey_ X (d + 4) mt_E_told [mv_p 0, mv_i (nI a), mv_i (nI w)] A (aq_to A a w) A := by
  intro M hM
  have e := rc_n hv hM
  have hl := hv.1.2
  have h1 : mj_in (nI a) 24 := nI_in (by omega) (by decide)
  have h2 : (nI a).toNatClampNeg = a := nI_clamp (by omega)
  have a24 : a < 24 := by omega
  have e6 : M.1 (pr_ a) 6 = A.1 19 a := hM.1.1 a (by omega) 6 (by decide)
  have h' : 0 ≤ nI w ∧ nI w ≤ 8 := ⟨nI_pos' (by omega), nI_le (b := 8) hw (by decide)⟩
  refine ⟨M, ?_, hM, fc_.refl M⟩
  iterate 4 refine ev_go rfl ?_
  rw [e]
  refine ev_callv rfl rfl rfl (pe_needThere ha (by omega)) ?_
  iterate 3 refine ev_go rfl ?_
  refine ev_callr rfl rfl rfl pe_isWithin ?_
  refine ev_callv rfl rfl rfl (pe_need (by rw [pd_wi1]; exact fun q => q h')) ?_
  iterate 2 refine ev_go rfl ?_
  refine ev_if rfl (fun h24 => ?_) (fun h24 => ?_)
  · have w8 : w = 8 := (nI_eq (b := 8) (by omega) (by decide)).1 h24
    iterate 3 refine ev_go rfl ?_
    refine ev_callr rfl rfl rfl (pl_isCandidate a24 (hv.2.1 a ha) hM.1 hv.2.2.2.2.2.1) ?_
    refine ev_if rfl (fun h35 => ?_) (fun h35 => ?_)
    · refine ev_go rfl ?_
      refine ev_end rfl ?_
      show some _ = some (mv_R _ M)
      rw [show aq_to A a w = aq_ca A a from if_pos w8]
      rcases aq_ca01 A a with q | q
      · first
          | exact absurd q h35
          | rw [q]
      · first
          | exact absurd (q.symm.trans h35) (by decide)
          | rw [q]
    · iterate 2 refine ev_go rfl ?_
      refine ev_end rfl ?_
      show some _ = some (mv_R _ M)
      rw [show aq_to A a w = aq_ca A a from if_pos w8]
      rcases aq_ca01 A a with q | q
      · first
          | exact absurd q h35
          | rw [q]
      · first
          | exact absurd (q.symm.trans h35) (by decide)
          | rw [q]
  · have w8 : w ≠ 8 := fun q => h24 (by rw [q]; rfl)
    have k8 : w < 8 := by omega
    iterate 4 refine ev_go rfl ?_
    refine ev_ok h1 rfl ?_
    rw [h2]
    refine ev_go rfl ?_
    refine ev_ok ⟨a24, nI_in k8 (by decide)⟩ rfl ?_
    rw [nI_clamp (by omega), hM.1.1 a a24 w k8]
    refine ev_end rfl ?_
    show some (mv_R (A.1 (13 + w) a) M) = some (mv_R _ M)
    unfold aq_to
    rw [if_neg w8]
    by_cases w7 : w = 7
    · rw [if_pos w7, w7]
      show some (mv_R (A.1 20 a) M) = _
      rcases hv.2.2.2.1 a with q | q
      · rw [if_pos q, q]
      · rw [if_neg (by rw [q]; decide), q]
    · rw [if_neg w7]
theorem px_of {p g i : Int32} (h : ¬ (0 ≤ p ∧ p ≤ 9 ∧ 0 ≤ g ∧ g ≤ 5 ∧ 0 ≤ i)) : ex_ X (d + 4) mt_E_of [mv_p 0, mv_i p, mv_i g, mv_i i] A 0 := by
  intro M hM
  by_cases h1 : 0 ≤ p ∧ p ≤ 9 ∧ 0 ≤ g ∧ g ≤ 5
  · have h2 : ¬ 0 ≤ i := by grind
    iterate 2 refine ev_go rfl ?_
    refine ev_callv rfl rfl rfl (pe_needCell h1) ?_
    refine ev_go rfl ?_
    refine ev_if rfl (fun h6 => ?_) (fun h6 => ?_)
    · refine ev_go rfl ?_
      exact ev_callx rfl rfl rfl (pe_need_x rfl) rfl
    · exfalso
      grind
  · iterate 2 refine ev_go rfl ?_
    exact ev_callx rfl rfl rfl (pe_needCell_x h1) rfl
theorem py_of {p g i : Int32} (hv : vs_A A) (h : 0 ≤ p ∧ p ≤ 9 ∧ 0 ≤ g ∧ g ≤ 5 ∧ 0 ≤ i) : ey_ X (d + 4) mt_E_of [mv_p 0, mv_i p, mv_i g, mv_i i] A (aq_fo (fun a => aq_ad A a (6 * p + g)) i (aq_n A) 0 0) A := by
  intro M hM
  refine ⟨M, ?_, hM, fc_.refl M⟩
  iterate 2 refine ev_go rfl ?_
  refine ev_callv rfl rfl rfl (pe_needCell (by grind)) ?_
  refine ev_go rfl ?_
  refine ev_if rfl (fun h6 => ?_) (fun h6 => ?_)
  · exfalso
    grind
  · iterate 2 refine ev_go rfl ?_
    refine ev_callv rfl rfl rfl (pe_need (by decide)) ?_
    iterate 4 refine ev_go rfl ?_
    refine ev_callr rfl rfl rfl pe_cellOf ?_
    rw [Int32.mul_comm]
    refine ev_go rfl ?_
    refine ev_callr rfl rfl rfl (pl_actAt hv hM.1) ?_
    refine ev_end rfl ?_
    rfl
theorem py_count {w : Int32} (hv : vs_A A) : ey_ X (d + 4) mt_E_count [mv_p 0, mv_i w] A (aq_cn A w) A := by
  intro M hM
  refine ⟨M, ?_, hM, fc_.refl M⟩
  refine ev_go rfl ?_
  by_cases g0 : 0 ≤ w ∧ w ≤ 7
  · obtain ⟨j9, g1, g2⟩ := nI_of2 (n := 7) rfl (by grind) g0.2
    have g3 : j9 = 0 ∨ j9 = 1 ∨ j9 = 2 ∨ j9 = 3 ∨ j9 = 4 ∨ j9 = 5 ∨ j9 = 6 ∨ j9 = 7 := by omega
    rcases g3 with g3 | g3 | g3 | g3 | g3 | g3 | g3 | g3 <;> subst g3 <;> subst g2
    · refine ev_go rfl ?_
      iterate 3 refine ev_go rfl ?_
      refine ev_end rfl ?_
      show some (mv_R (M.1 1 3) M) = some (mv_R _ M)
      rw [hM.1.2.2.1]
      rfl
    · refine ev_go rfl ?_
      iterate 3 refine ev_go rfl ?_
      refine ev_end rfl ?_
      show some (mv_R (M.1 1 4) M) = some (mv_R _ M)
      rw [hM.2.1.2]
      rfl
    · refine ev_go rfl ?_
      iterate 2 refine ev_go rfl ?_
      refine ev_callr rfl rfl rfl (pl_pieces hM.1 hM.2.1 hv.2.2.2.2.2.1) ?_
      refine ev_end rfl ?_
      rfl
    · refine ev_go rfl ?_
      iterate 2 refine ev_go rfl ?_
      refine ev_callr rfl rfl rfl (pl_candidates hv hM.1) ?_
      refine ev_end rfl ?_
      rfl
    · refine ev_go rfl ?_
      iterate 4 refine ev_go rfl ?_
      refine ev_callr rfl rfl rfl (pl_actsWith (w := 6) hv hM.1 (by decide)) ?_
      refine ev_end rfl ?_
      rfl
    · refine ev_go rfl ?_
      iterate 4 refine ev_go rfl ?_
      refine ev_callr rfl rfl rfl (pl_actsWith (w := 6) hv hM.1 (by decide)) ?_
      refine ev_end rfl ?_
      rfl
    · refine ev_go rfl ?_
      iterate 2 refine ev_go rfl ?_
      refine ev_callr rfl rfl rfl (pl_countedCells hM.1 hv.2.2.2.2.2.1) ?_
      refine ev_end rfl ?_
      rfl
    · refine ev_go rfl ?_
      iterate 3 refine ev_go rfl ?_
      refine ev_end rfl ?_
      show some (mv_R (M.1 2 11) M) = some (mv_R _ M)
      rw [hM.2.2.1.2.2.1]
      rfl
  · have g4 : w.toInt < 0 ∨ 7 < w.toInt := by
      have g5 : w < 0 ∨ 7 < w := by grind
      rcases g5 with g5 | g5
      · exact Or.inl (Int32.lt_iff_toInt_lt.mp g5)
      · exact Or.inr (Int32.lt_iff_toInt_lt.mp g5)
    refine ev_pos g4 rfl ?_
    refine ev_go rfl ?_
    refine ev_end rfl ?_
    show some (mv_R (-1) M) = some (mv_R (aq_cn A w) M)
    unfold aq_cn
    rw [if_neg (by grind), if_neg (by grind), if_neg (by grind), if_neg (by grind), if_neg (by grind), if_neg (by grind), if_neg (by grind), if_neg (by grind)]
/-- the law's wrapper, called in state A, tells c (and leaves v), and comes to A' -/
def cs_ (X : Nat × (Nat → Int32)) (d : Nat) (T : mj_T) (as : List mj_V) (A : mj_M) (c v : Int32) (A' : mj_M) : Prop := ∀ M, rc_ A M → ∃ M' k, mj_C0 X d T as M (.inr (some (.inl c)), M', k) ∧ k ≤ 1 ∧ rc_ A' M' ∧ fc_ M M' ∧ (c = 0 → M'.2 = v.toInt64)
theorem pw_put {p0 p1 p2 p3 : Int32} {v : Int32} {A' : mj_M} (h : ey_ X d mt_E_put [mv_p 0, mv_i p0, mv_i p1, mv_i p2, mv_i p3] A v A') : cs_ X (d + 1) mt_W_put [mv_p 0, mv_i p0, mv_i p1, mv_i p2, mv_i p3, mv_p 28] A 0 v A' := by
  intro M hM
  obtain ⟨M', e1, e2, e3⟩ := h M hM
  refine ⟨(M'.1, v.toInt64), 0, ?_, by decide, e2, e3, fun _ => rfl⟩
  iterate 7 refine ev_go rfl ?_
  refine ev_callr rfl rfl rfl e1 ?_
  iterate 4 refine ev_go rfl ?_
  refine ev_end rfl ?_
  rfl
theorem pw_put_1 {p0 p1 p2 p3 : Int32} (h : ex_ X d mt_E_put [mv_p 0, mv_i p0, mv_i p1, mv_i p2, mv_i p3] A 0) : cs_ X (d + 1) mt_W_put [mv_p 0, mv_i p0, mv_i p1, mv_i p2, mv_i p3, mv_p 28] A 1 0 A := by
  intro M hM
  refine ⟨M, 1, ?_, by decide, hM, fc_.refl M, fun q => absurd q (by decide)⟩
  iterate 7 refine ev_go rfl ?_
  refine ev_callh rfl rfl rfl (h M hM) rfl ?_
  refine ev_go rfl ?_
  refine ev_end rfl ?_
  rfl
theorem pw_put_2 {p0 p1 p2 p3 : Int32} (h : ex_ X d mt_E_put [mv_p 0, mv_i p0, mv_i p1, mv_i p2, mv_i p3] A 1) : cs_ X (d + 1) mt_W_put [mv_p 0, mv_i p0, mv_i p1, mv_i p2, mv_i p3, mv_p 28] A 2 0 A := by
  intro M hM
  refine ⟨M, 1, ?_, by decide, hM, fc_.refl M, fun q => absurd q (by decide)⟩
  iterate 7 refine ev_go rfl ?_
  refine ev_callh rfl rfl rfl (h M hM) rfl ?_
  refine ev_go rfl ?_
  refine ev_end rfl ?_
  rfl
theorem pw_take {p0 p1 p2 p3 : Int32} {v : Int32} {A' : mj_M} (h : ey_ X d mt_E_take [mv_p 0, mv_i p0, mv_i p1, mv_i p2, mv_i p3] A v A') : cs_ X (d + 1) mt_W_take [mv_p 0, mv_i p0, mv_i p1, mv_i p2, mv_i p3, mv_p 28] A 0 v A' := by
  intro M hM
  obtain ⟨M', e1, e2, e3⟩ := h M hM
  refine ⟨(M'.1, v.toInt64), 0, ?_, by decide, e2, e3, fun _ => rfl⟩
  iterate 7 refine ev_go rfl ?_
  refine ev_callr rfl rfl rfl e1 ?_
  iterate 4 refine ev_go rfl ?_
  refine ev_end rfl ?_
  rfl
theorem pw_take_1 {p0 p1 p2 p3 : Int32} (h : ex_ X d mt_E_take [mv_p 0, mv_i p0, mv_i p1, mv_i p2, mv_i p3] A 0) : cs_ X (d + 1) mt_W_take [mv_p 0, mv_i p0, mv_i p1, mv_i p2, mv_i p3, mv_p 28] A 1 0 A := by
  intro M hM
  refine ⟨M, 1, ?_, by decide, hM, fc_.refl M, fun q => absurd q (by decide)⟩
  iterate 7 refine ev_go rfl ?_
  refine ev_callh rfl rfl rfl (h M hM) rfl ?_
  refine ev_go rfl ?_
  refine ev_end rfl ?_
  rfl
theorem pw_take_2 {p0 p1 p2 p3 : Int32} (h : ex_ X d mt_E_take [mv_p 0, mv_i p0, mv_i p1, mv_i p2, mv_i p3] A 1) : cs_ X (d + 1) mt_W_take [mv_p 0, mv_i p0, mv_i p1, mv_i p2, mv_i p3, mv_p 28] A 2 0 A := by
  intro M hM
  refine ⟨M, 1, ?_, by decide, hM, fc_.refl M, fun q => absurd q (by decide)⟩
  iterate 7 refine ev_go rfl ?_
  refine ev_callh rfl rfl rfl (h M hM) rfl ?_
  refine ev_go rfl ?_
  refine ev_end rfl ?_
  rfl
theorem pw_move {p0 p1 p2 p3 p4 : Int32} {v : Int32} {A' : mj_M} (h : ey_ X d mt_E_move [mv_p 0, mv_i p0, mv_i p1, mv_i p2, mv_i p3, mv_i p4] A v A') : cs_ X (d + 1) mt_W_move [mv_p 0, mv_i p0, mv_i p1, mv_i p2, mv_i p3, mv_i p4, mv_p 28] A 0 v A' := by
  intro M hM
  obtain ⟨M', e1, e2, e3⟩ := h M hM
  refine ⟨(M'.1, v.toInt64), 0, ?_, by decide, e2, e3, fun _ => rfl⟩
  iterate 8 refine ev_go rfl ?_
  refine ev_callr rfl rfl rfl e1 ?_
  iterate 4 refine ev_go rfl ?_
  refine ev_end rfl ?_
  rfl
theorem pw_move_1 {p0 p1 p2 p3 p4 : Int32} (h : ex_ X d mt_E_move [mv_p 0, mv_i p0, mv_i p1, mv_i p2, mv_i p3, mv_i p4] A 0) : cs_ X (d + 1) mt_W_move [mv_p 0, mv_i p0, mv_i p1, mv_i p2, mv_i p3, mv_i p4, mv_p 28] A 1 0 A := by
  intro M hM
  refine ⟨M, 1, ?_, by decide, hM, fc_.refl M, fun q => absurd q (by decide)⟩
  iterate 8 refine ev_go rfl ?_
  refine ev_callh rfl rfl rfl (h M hM) rfl ?_
  refine ev_go rfl ?_
  refine ev_end rfl ?_
  rfl
theorem pw_move_2 {p0 p1 p2 p3 p4 : Int32} (h : ex_ X d mt_E_move [mv_p 0, mv_i p0, mv_i p1, mv_i p2, mv_i p3, mv_i p4] A 1) : cs_ X (d + 1) mt_W_move [mv_p 0, mv_i p0, mv_i p1, mv_i p2, mv_i p3, mv_i p4, mv_p 28] A 2 0 A := by
  intro M hM
  refine ⟨M, 1, ?_, by decide, hM, fc_.refl M, fun q => absurd q (by decide)⟩
  iterate 8 refine ev_go rfl ?_
  refine ev_callh rfl rfl rfl (h M hM) rfl ?_
  refine ev_go rfl ?_
  refine ev_end rfl ?_
  rfl
theorem pw_closed {p0 p1 : Int32} {v : Int32} {A' : mj_M} (h : ey_ X d mt_E_closed [mv_p 0, mv_i p0, mv_i p1] A v A') : cs_ X (d + 1) mt_W_closed [mv_p 0, mv_i p0, mv_i p1, mv_p 28] A 0 v A' := by
  intro M hM
  obtain ⟨M', e1, e2, e3⟩ := h M hM
  refine ⟨(M'.1, v.toInt64), 0, ?_, by decide, e2, e3, fun _ => rfl⟩
  iterate 5 refine ev_go rfl ?_
  refine ev_callr rfl rfl rfl e1 ?_
  iterate 4 refine ev_go rfl ?_
  refine ev_end rfl ?_
  rfl
theorem pw_closed_1 {p0 p1 : Int32} (h : ex_ X d mt_E_closed [mv_p 0, mv_i p0, mv_i p1] A 2) : cs_ X (d + 1) mt_W_closed [mv_p 0, mv_i p0, mv_i p1, mv_p 28] A 1 0 A := by
  intro M hM
  refine ⟨M, 1, ?_, by decide, hM, fc_.refl M, fun q => absurd q (by decide)⟩
  iterate 5 refine ev_go rfl ?_
  refine ev_callh rfl rfl rfl (h M hM) rfl ?_
  refine ev_go rfl ?_
  refine ev_end rfl ?_
  rfl
theorem pw_window {p0 p1 : Int32} {v : Int32} {A' : mj_M} (h : ey_ X d mt_E_window [mv_p 0, mv_i p0, mv_i p1] A v A') : cs_ X (d + 1) mt_W_window [mv_p 0, mv_i p0, mv_i p1, mv_p 28] A 0 v A' := by
  intro M hM
  obtain ⟨M', e1, e2, e3⟩ := h M hM
  refine ⟨(M'.1, v.toInt64), 0, ?_, by decide, e2, e3, fun _ => rfl⟩
  iterate 5 refine ev_go rfl ?_
  refine ev_callr rfl rfl rfl e1 ?_
  iterate 4 refine ev_go rfl ?_
  refine ev_end rfl ?_
  rfl
theorem pw_window_1 {p0 p1 : Int32} (h : ex_ X d mt_E_window [mv_p 0, mv_i p0, mv_i p1] A 0) : cs_ X (d + 1) mt_W_window [mv_p 0, mv_i p0, mv_i p1, mv_p 28] A 1 0 A := by
  intro M hM
  refine ⟨M, 1, ?_, by decide, hM, fc_.refl M, fun q => absurd q (by decide)⟩
  iterate 5 refine ev_go rfl ?_
  refine ev_callh rfl rfl rfl (h M hM) rfl ?_
  refine ev_go rfl ?_
  refine ev_end rfl ?_
  rfl
theorem pw_counted {p0 p1 p2 : Int32} {v : Int32} {A' : mj_M} (h : ey_ X d mt_E_counted [mv_p 0, mv_i p0, mv_i p1, mv_i p2] A v A') : cs_ X (d + 1) mt_W_counted [mv_p 0, mv_i p0, mv_i p1, mv_i p2, mv_p 28] A 0 v A' := by
  intro M hM
  obtain ⟨M', e1, e2, e3⟩ := h M hM
  refine ⟨(M'.1, v.toInt64), 0, ?_, by decide, e2, e3, fun _ => rfl⟩
  iterate 6 refine ev_go rfl ?_
  refine ev_callr rfl rfl rfl e1 ?_
  iterate 4 refine ev_go rfl ?_
  refine ev_end rfl ?_
  rfl
theorem pw_counted_1 {p0 p1 p2 : Int32} (h : ex_ X d mt_E_counted [mv_p 0, mv_i p0, mv_i p1, mv_i p2] A 0) : cs_ X (d + 1) mt_W_counted [mv_p 0, mv_i p0, mv_i p1, mv_i p2, mv_p 28] A 1 0 A := by
  intro M hM
  refine ⟨M, 1, ?_, by decide, hM, fc_.refl M, fun q => absurd q (by decide)⟩
  iterate 6 refine ev_go rfl ?_
  refine ev_callh rfl rfl rfl (h M hM) rfl ?_
  refine ev_go rfl ?_
  refine ev_end rfl ?_
  rfl
theorem pw_expected {p0 p1 : Int32} {v : Int32} {A' : mj_M} (h : ey_ X d mt_E_expected [mv_p 0, mv_i p0, mv_i p1] A v A') : cs_ X (d + 1) mt_W_expected [mv_p 0, mv_i p0, mv_i p1, mv_p 28] A 0 v A' := by
  intro M hM
  obtain ⟨M', e1, e2, e3⟩ := h M hM
  refine ⟨(M'.1, v.toInt64), 0, ?_, by decide, e2, e3, fun _ => rfl⟩
  iterate 5 refine ev_go rfl ?_
  refine ev_callr rfl rfl rfl e1 ?_
  iterate 4 refine ev_go rfl ?_
  refine ev_end rfl ?_
  rfl
theorem pw_expected_1 {p0 p1 : Int32} (h : ex_ X d mt_E_expected [mv_p 0, mv_i p0, mv_i p1] A 0) : cs_ X (d + 1) mt_W_expected [mv_p 0, mv_i p0, mv_i p1, mv_p 28] A 1 0 A := by
  intro M hM
  refine ⟨M, 1, ?_, by decide, hM, fc_.refl M, fun q => absurd q (by decide)⟩
  iterate 5 refine ev_go rfl ?_
  refine ev_callh rfl rfl rfl (h M hM) rfl ?_
  refine ev_go rfl ?_
  refine ev_end rfl ?_
  rfl
theorem pw_differ {p0 p1 : Int32} {v : Int32} {A' : mj_M} (h : ey_ X d mt_E_differ [mv_p 0, mv_i p0, mv_i p1] A v A') : cs_ X (d + 1) mt_W_differ [mv_p 0, mv_i p0, mv_i p1, mv_p 28] A 0 v A' := by
  intro M hM
  obtain ⟨M', e1, e2, e3⟩ := h M hM
  refine ⟨(M'.1, v.toInt64), 0, ?_, by decide, e2, e3, fun _ => rfl⟩
  iterate 5 refine ev_go rfl ?_
  refine ev_callr rfl rfl rfl e1 ?_
  iterate 4 refine ev_go rfl ?_
  refine ev_end rfl ?_
  rfl
theorem pw_differ_1 {p0 p1 : Int32} (h : ex_ X d mt_E_differ [mv_p 0, mv_i p0, mv_i p1] A 2) : cs_ X (d + 1) mt_W_differ [mv_p 0, mv_i p0, mv_i p1, mv_p 28] A 1 0 A := by
  intro M hM
  refine ⟨M, 1, ?_, by decide, hM, fc_.refl M, fun q => absurd q (by decide)⟩
  iterate 5 refine ev_go rfl ?_
  refine ev_callh rfl rfl rfl (h M hM) rfl ?_
  refine ev_go rfl ?_
  refine ev_end rfl ?_
  rfl
theorem pw_differ_2 {p0 p1 : Int32} (h : ex_ X d mt_E_differ [mv_p 0, mv_i p0, mv_i p1] A 0) : cs_ X (d + 1) mt_W_differ [mv_p 0, mv_i p0, mv_i p1, mv_p 28] A 2 0 A := by
  intro M hM
  refine ⟨M, 1, ?_, by decide, hM, fc_.refl M, fun q => absurd q (by decide)⟩
  iterate 5 refine ev_go rfl ?_
  refine ev_callh rfl rfl rfl (h M hM) rfl ?_
  refine ev_go rfl ?_
  refine ev_end rfl ?_
  rfl
theorem pw_search {p0 p1 : Int32} {v : Int32} {A' : mj_M} (h : ey_ X d mt_E_search [mv_p 0, mv_i p0, mv_i p1] A v A') : cs_ X (d + 1) mt_W_search [mv_p 0, mv_i p0, mv_i p1, mv_p 28] A 0 v A' := by
  intro M hM
  obtain ⟨M', e1, e2, e3⟩ := h M hM
  refine ⟨(M'.1, v.toInt64), 0, ?_, by decide, e2, e3, fun _ => rfl⟩
  iterate 5 refine ev_go rfl ?_
  refine ev_callr rfl rfl rfl e1 ?_
  iterate 4 refine ev_go rfl ?_
  refine ev_end rfl ?_
  rfl
theorem pw_search_1 {p0 p1 : Int32} (h : ex_ X d mt_E_search [mv_p 0, mv_i p0, mv_i p1] A 0) : cs_ X (d + 1) mt_W_search [mv_p 0, mv_i p0, mv_i p1, mv_p 28] A 1 0 A := by
  intro M hM
  refine ⟨M, 1, ?_, by decide, hM, fc_.refl M, fun q => absurd q (by decide)⟩
  iterate 5 refine ev_go rfl ?_
  refine ev_callh rfl rfl rfl (h M hM) rfl ?_
  refine ev_go rfl ?_
  refine ev_end rfl ?_
  rfl
theorem pw_often {p0 : Int32} {v : Int32} {A' : mj_M} (h : ey_ X d mt_E_often [mv_p 0, mv_i p0] A v A') : cs_ X (d + 1) mt_W_often [mv_p 0, mv_i p0, mv_p 28] A 0 v A' := by
  intro M hM
  obtain ⟨M', e1, e2, e3⟩ := h M hM
  refine ⟨(M'.1, v.toInt64), 0, ?_, by decide, e2, e3, fun _ => rfl⟩
  iterate 4 refine ev_go rfl ?_
  refine ev_callr rfl rfl rfl e1 ?_
  iterate 4 refine ev_go rfl ?_
  refine ev_end rfl ?_
  rfl
theorem pw_often_1 {p0 : Int32} (h : ex_ X d mt_E_often [mv_p 0, mv_i p0] A 2) : cs_ X (d + 1) mt_W_often [mv_p 0, mv_i p0, mv_p 28] A 1 0 A := by
  intro M hM
  refine ⟨M, 1, ?_, by decide, hM, fc_.refl M, fun q => absurd q (by decide)⟩
  iterate 4 refine ev_go rfl ?_
  refine ev_callh rfl rfl rfl (h M hM) rfl ?_
  refine ev_go rfl ?_
  refine ev_end rfl ?_
  rfl
theorem pw_found {p0 p1 : Int32} {v : Int32} {A' : mj_M} (h : ey_ X d mt_E_found [mv_p 0, mv_i p0, mv_i p1] A v A') : cs_ X (d + 1) mt_W_found [mv_p 0, mv_i p0, mv_i p1, mv_p 28] A 0 v A' := by
  intro M hM
  obtain ⟨M', e1, e2, e3⟩ := h M hM
  refine ⟨(M'.1, v.toInt64), 0, ?_, by decide, e2, e3, fun _ => rfl⟩
  iterate 5 refine ev_go rfl ?_
  refine ev_callr rfl rfl rfl e1 ?_
  iterate 4 refine ev_go rfl ?_
  refine ev_end rfl ?_
  rfl
theorem pw_found_1 {p0 p1 : Int32} (h : ex_ X d mt_E_found [mv_p 0, mv_i p0, mv_i p1] A 2) : cs_ X (d + 1) mt_W_found [mv_p 0, mv_i p0, mv_i p1, mv_p 28] A 1 0 A := by
  intro M hM
  refine ⟨M, 1, ?_, by decide, hM, fc_.refl M, fun q => absurd q (by decide)⟩
  iterate 5 refine ev_go rfl ?_
  refine ev_callh rfl rfl rfl (h M hM) rfl ?_
  refine ev_go rfl ?_
  refine ev_end rfl ?_
  rfl
theorem pw_found_2 {p0 p1 : Int32} (h : ex_ X d mt_E_found [mv_p 0, mv_i p0, mv_i p1] A 0) : cs_ X (d + 1) mt_W_found [mv_p 0, mv_i p0, mv_i p1, mv_p 28] A 2 0 A := by
  intro M hM
  refine ⟨M, 1, ?_, by decide, hM, fc_.refl M, fun q => absurd q (by decide)⟩
  iterate 5 refine ev_go rfl ?_
  refine ev_callh rfl rfl rfl (h M hM) rfl ?_
  refine ev_go rfl ?_
  refine ev_end rfl ?_
  rfl
theorem pw_accept {v : Int32} {A' : mj_M} (h : ey_ X d mt_E_accept [mv_p 0] A v A') : cs_ X (d + 1) mt_W_accept [mv_p 0, mv_p 28] A 0 v A' := by
  intro M hM
  obtain ⟨M', e1, e2, e3⟩ := h M hM
  refine ⟨(M'.1, v.toInt64), 0, ?_, by decide, e2, e3, fun _ => rfl⟩
  iterate 3 refine ev_go rfl ?_
  refine ev_callr rfl rfl rfl e1 ?_
  iterate 4 refine ev_go rfl ?_
  refine ev_end rfl ?_
  rfl
theorem pw_accept_1 (h : ex_ X d mt_E_accept [mv_p 0] A 3) : cs_ X (d + 1) mt_W_accept [mv_p 0, mv_p 28] A 1 0 A := by
  intro M hM
  refine ⟨M, 1, ?_, by decide, hM, fc_.refl M, fun q => absurd q (by decide)⟩
  iterate 3 refine ev_go rfl ?_
  refine ev_callh rfl rfl rfl (h M hM) rfl ?_
  refine ev_go rfl ?_
  refine ev_end rfl ?_
  rfl
theorem pw_back {p0 : Int32} {v : Int32} {A' : mj_M} (h : ey_ X d mt_E_back [mv_p 0, mv_i p0] A v A') : cs_ X (d + 1) mt_W_back [mv_p 0, mv_i p0, mv_p 28] A 0 v A' := by
  intro M hM
  obtain ⟨M', e1, e2, e3⟩ := h M hM
  refine ⟨(M'.1, v.toInt64), 0, ?_, by decide, e2, e3, fun _ => rfl⟩
  iterate 4 refine ev_go rfl ?_
  refine ev_callr rfl rfl rfl e1 ?_
  iterate 4 refine ev_go rfl ?_
  refine ev_end rfl ?_
  rfl
theorem pw_back_1 {p0 : Int32} (h : ex_ X d mt_E_back [mv_p 0, mv_i p0] A 2) : cs_ X (d + 1) mt_W_back [mv_p 0, mv_i p0, mv_p 28] A 1 0 A := by
  intro M hM
  refine ⟨M, 1, ?_, by decide, hM, fc_.refl M, fun q => absurd q (by decide)⟩
  iterate 4 refine ev_go rfl ?_
  refine ev_callh rfl rfl rfl (h M hM) rfl ?_
  refine ev_go rfl ?_
  refine ev_end rfl ?_
  rfl
theorem pw_back_2 {p0 : Int32} (h : ex_ X d mt_E_back [mv_p 0, mv_i p0] A 3) : cs_ X (d + 1) mt_W_back [mv_p 0, mv_i p0, mv_p 28] A 2 0 A := by
  intro M hM
  refine ⟨M, 1, ?_, by decide, hM, fc_.refl M, fun q => absurd q (by decide)⟩
  iterate 4 refine ev_go rfl ?_
  refine ev_callh rfl rfl rfl (h M hM) rfl ?_
  refine ev_go rfl ?_
  refine ev_end rfl ?_
  rfl
theorem pw_share {p0 p1 : Int32} {v : Int32} {A' : mj_M} (h : ey_ X d mt_E_share [mv_p 0, mv_i p0, mv_i p1] A v A') : cs_ X (d + 1) mt_W_share [mv_p 0, mv_i p0, mv_i p1, mv_p 28] A 0 v A' := by
  intro M hM
  obtain ⟨M', e1, e2, e3⟩ := h M hM
  refine ⟨(M'.1, v.toInt64), 0, ?_, by decide, e2, e3, fun _ => rfl⟩
  iterate 5 refine ev_go rfl ?_
  refine ev_callr rfl rfl rfl e1 ?_
  iterate 4 refine ev_go rfl ?_
  refine ev_end rfl ?_
  rfl
theorem pw_share_1 {p0 p1 : Int32} (h : ex_ X d mt_E_share [mv_p 0, mv_i p0, mv_i p1] A 0) : cs_ X (d + 1) mt_W_share [mv_p 0, mv_i p0, mv_i p1, mv_p 28] A 1 0 A := by
  intro M hM
  refine ⟨M, 1, ?_, by decide, hM, fc_.refl M, fun q => absurd q (by decide)⟩
  iterate 5 refine ev_go rfl ?_
  refine ev_callh rfl rfl rfl (h M hM) rfl ?_
  refine ev_go rfl ?_
  refine ev_end rfl ?_
  rfl
theorem pw_share_2 {p0 p1 : Int32} (h : ex_ X d mt_E_share [mv_p 0, mv_i p0, mv_i p1] A 4) : cs_ X (d + 1) mt_W_share [mv_p 0, mv_i p0, mv_i p1, mv_p 28] A 2 0 A := by
  intro M hM
  refine ⟨M, 1, ?_, by decide, hM, fc_.refl M, fun q => absurd q (by decide)⟩
  iterate 5 refine ev_go rfl ?_
  refine ev_callh rfl rfl rfl (h M hM) rfl ?_
  refine ev_go rfl ?_
  refine ev_end rfl ?_
  rfl
theorem pw_told {p0 p1 : Int32} {v : Int32} {A' : mj_M} (h : ey_ X d mt_E_told [mv_p 0, mv_i p0, mv_i p1] A v A') : cs_ X (d + 1) mt_W_told [mv_p 0, mv_i p0, mv_i p1, mv_p 28] A 0 v A' := by
  intro M hM
  obtain ⟨M', e1, e2, e3⟩ := h M hM
  refine ⟨(M'.1, v.toInt64), 0, ?_, by decide, e2, e3, fun _ => rfl⟩
  iterate 5 refine ev_go rfl ?_
  refine ev_callr rfl rfl rfl e1 ?_
  iterate 4 refine ev_go rfl ?_
  refine ev_end rfl ?_
  rfl
theorem pw_told_1 {p0 p1 : Int32} (h : ex_ X d mt_E_told [mv_p 0, mv_i p0, mv_i p1] A 2) : cs_ X (d + 1) mt_W_told [mv_p 0, mv_i p0, mv_i p1, mv_p 28] A 1 0 A := by
  intro M hM
  refine ⟨M, 1, ?_, by decide, hM, fc_.refl M, fun q => absurd q (by decide)⟩
  iterate 5 refine ev_go rfl ?_
  refine ev_callh rfl rfl rfl (h M hM) rfl ?_
  refine ev_go rfl ?_
  refine ev_end rfl ?_
  rfl
theorem pw_told_2 {p0 p1 : Int32} (h : ex_ X d mt_E_told [mv_p 0, mv_i p0, mv_i p1] A 0) : cs_ X (d + 1) mt_W_told [mv_p 0, mv_i p0, mv_i p1, mv_p 28] A 2 0 A := by
  intro M hM
  refine ⟨M, 1, ?_, by decide, hM, fc_.refl M, fun q => absurd q (by decide)⟩
  iterate 5 refine ev_go rfl ?_
  refine ev_callh rfl rfl rfl (h M hM) rfl ?_
  refine ev_go rfl ?_
  refine ev_end rfl ?_
  rfl
theorem pw_of {p0 p1 p2 : Int32} {v : Int32} {A' : mj_M} (h : ey_ X d mt_E_of [mv_p 0, mv_i p0, mv_i p1, mv_i p2] A v A') : cs_ X (d + 1) mt_W_of [mv_p 0, mv_i p0, mv_i p1, mv_i p2, mv_p 28] A 0 v A' := by
  intro M hM
  obtain ⟨M', e1, e2, e3⟩ := h M hM
  refine ⟨(M'.1, v.toInt64), 0, ?_, by decide, e2, e3, fun _ => rfl⟩
  iterate 6 refine ev_go rfl ?_
  refine ev_callr rfl rfl rfl e1 ?_
  iterate 4 refine ev_go rfl ?_
  refine ev_end rfl ?_
  rfl
theorem pw_of_1 {p0 p1 p2 : Int32} (h : ex_ X d mt_E_of [mv_p 0, mv_i p0, mv_i p1, mv_i p2] A 0) : cs_ X (d + 1) mt_W_of [mv_p 0, mv_i p0, mv_i p1, mv_i p2, mv_p 28] A 1 0 A := by
  intro M hM
  refine ⟨M, 1, ?_, by decide, hM, fc_.refl M, fun q => absurd q (by decide)⟩
  iterate 6 refine ev_go rfl ?_
  refine ev_callh rfl rfl rfl (h M hM) rfl ?_
  refine ev_go rfl ?_
  refine ev_end rfl ?_
  rfl
end
end
section
/-! states stay such as may be -/
/-- the part of validity that a search changes -/
def vq_ (A s : mj_M) : Prop := (s.1 12 13 = 0 ∨ s.1 12 13 = 1) ∧ ∃ m, m ≤ 4 ∧ s.1 12 17 = nI m ∧ ∀ i, i < m → ∃ a h, a < aq_n A ∧ h < 2 ∧ s.1 23 i = nI (2 * a + h)
theorem vs_of {A s : mj_M} (hv : vs_A A) (hb : rb_ A s) (hq : vq_ A s) : vs_A s := by
  obtain ⟨⟨a1, a2⟩, a3, a4, a5, a6, a7, -, -⟩ := hv
  refine ⟨⟨?_, ?_⟩, fun a ha => ?_, fun a => ?_, fun a => ?_, fun a ha => ?_, fun c => ?_, hq.1, ?_⟩
  · rw [rb_n hb, hb.s (by decide)]; exact a1
  · rw [rb_n hb]; exact a2
  · rw [rb_n hb] at ha; rw [rb_rw hb]; exact a3 a ha
  · rw [hb.q (by decide) (by decide)]; exact a4 a
  · rw [hb.q (by decide) (by decide)]; exact a5 a
  · rw [rb_n hb] at ha; rw [hb.q (by decide) (by decide)]; exact a6 a ha
  · rw [hb.q (by decide) (by decide)]; exact a7 c
  · rw [rb_n hb]; exact hq.2
theorem vs_vq {A : mj_M} (hv : vs_A A) : vq_ A A := hv.2.2.2.2.2.2
theorem vq_.st {A s : mj_M} {q j : Nat} {x : Int32} (h : vq_ A s) (hq : q ≠ 23 ∧ (q ≠ 12 ∨ (j ≠ 13 ∧ j ≠ 17))) : vq_ A (mj_st s q j x) := by
  obtain ⟨h1, m, h2, h3, h4⟩ := h
  refine ⟨?_, m, h2, ?_, fun i hi => ?_⟩
  · rw [pm_st1 (by omega)]; exact h1
  · rw [pm_st1 (by omega)]; exact h3
  · rw [pm_st1 (by omega)]; exact h4 i hi
theorem vq_no {A s : mj_M} {cs x : Nat → Nat} {n : Nat} (hn : n ≤ 4) (hx : ∀ i, i < n → cs (x i / 2) < aq_n A) (h : vq_ A s) : vq_ A (no_ cs x n s) := by
  obtain ⟨h1, m, h2, h3, h4⟩ := h
  have e13 : (no_ cs x n s).1 12 13 = s.1 12 13 := no_q (by omega) (by omega) (by omega)
  refine ⟨by rw [e13]; exact h1, ?_⟩
  by_cases f1 : (mj_st s 12 15 (s.1 12 15 + 1)).1 12 15 = 1
  · have en : no_ cs x n s = mj_st (nt_ cs x (mj_st s 12 15 (s.1 12 15 + 1)) n) 12 17 (nI n) := if_pos f1
    refine ⟨n, hn, by rw [en, pm_st0], fun i hi => ⟨cs (x i / 2), x i % 2, hx i hi, by omega, ?_⟩⟩
    rw [en, pm_st1 (by omega), nt_23p f1 hi, show (2 : Int32) = nI 2 from rfl, pk_mul, nI_add]
  · have en : no_ cs x n s = nt_ cs x (mj_st s 12 15 (s.1 12 15 + 1)) n := if_neg f1
    refine ⟨m, h2, ?_, fun i hi => ?_⟩
    · rw [en, nt_q (by decide) (by decide), pm_st1 (by omega)]; exact h3
    · rw [en, nt_23n f1, pm_st1 (by omega)]; exact h4 i hi
theorem se_l_keep2 {P : mj_M → Prop} {rec : (Nat → Nat) → mj_M → Bool × mj_M} {lim : Int32} {m2 n : Nat} {x : Nat → Nat} (hs : ∀ s, P s → P (mj_st s 12 14 (s.1 12 14 + 1))) (hr : ∀ c, c < m2 → ∀ s, P s → P (rec (upN x n c) s).2) : ∀ j s, j ≤ m2 → P s → P (se_l rec lim m2 n j x s).2
  | 0, _, _, h => h
  | j + 1, s, hj, h => by
    unfold se_l
    split
    · exact h
    · have h2 := hr (m2 - (j + 1)) (by omega) _ (hs s h)
      split
      · rename_i s' e
        rw [e] at h2
        exact se_l_keep2 hs hr j s' (by omega) h2
      · rename_i s' e
        rw [e] at h2
        exact h2
theorem se_vq {A : mj_M} {cs : Nat → Nat} {lim : Int32} {m : Nat} (hcs : ∀ i, i < m → cs i < aq_n A) : ∀ r n c0 x s, n + r ≤ 4 → (∀ i, i < n → x i < 2 * m) → vq_ A s → vq_ A (se_ A cs lim (2 * m) r n c0 x s).2
  | 0, n, c0, x, s, hn, hx, h => by
    show vq_ A (if aq_nd A (aq_L A cs x n) = 0 then no_ cs x n s else s)
    split
    · exact vq_no (by omega) (fun i hi => hcs _ (by have := hx i hi; omega)) h
    · exact h
  | r + 1, n, c0, x, s, hn, hx, h => by
    show vq_ A (se_l (fun x' s' => se_ A cs lim (2 * m) r (n + 1) ((x' n / 2 + 1) * 2) x' s') lim (2 * m) n (2 * m - c0) x s).2
    refine se_l_keep2 (P := fun s => vq_ A s) (fun s h => h.st (by omega)) (fun c hc s h => ?_) _ s (by omega) h
    refine se_vq hcs r (n + 1) _ (upN x n c) s (by omega) (fun i hi => ?_) h
    by_cases q : i = n
    · rw [q, upN_s]; exact hc
    · rw [upN_n q]; exact hx i (by omega)
theorem ss_v {A : mj_M} {lim : Int32} : ∀ j z s, z + j ≤ 5 → rb_ A s → vq_ A s → rb_ A (ss_ A (aq_cs A) lim (2 * aq_m A) j z s) ∧ vq_ A (ss_ A (aq_cs A) lim (2 * aq_m A) j z s)
  | 0, _, _, _, h1, h2 => ⟨h1, h2⟩
  | j + 1, z, s, hz, h1, h2 => by
    unfold ss_
    split
    · exact ⟨h1, h2⟩
    · have q1 := se_rb (cs := aq_cs A) (lim := lim) (m2 := 2 * aq_m A) (r := z) (n := 0) (c0 := 0) (x := fun _ => 0) h1
      have q2 := se_vq (cs := aq_cs A) (lim := lim) (fun i hi => aq_cs_in hi) z 0 0 (fun _ => 0) s (by omega) (fun i hi => absurd hi (Nat.not_lt_zero _)) h2
      refine ss_v j (z + 1) _ (by omega) (q1.st (by omega)) ⟨?_, ?_⟩
      · rw [pm_st0]
        exact if01 _
      · obtain ⟨-, m, k1, k2, k3⟩ := q2
        refine ⟨m, k1, ?_, fun i hi => ?_⟩
        · rw [pm_st1 (by omega)]; exact k2
        · rw [pm_st1 (by omega)]; exact k3 i hi
theorem vs_sr {A : mj_M} {lim : Int32} {mo : Nat} (hv : vs_A A) (hmo : mo ≤ 4) : vs_A (sr_ A lim mo) := by
  obtain ⟨o1, o2, o3, o4⟩ := ob_s (A := A)
  have q0 : vq_ A (ob_ A) := ⟨Or.inr o4, 0, by decide, o1, fun i hi => absurd hi (Nat.not_lt_zero _)⟩
  unfold sr_
  split
  · exact vs_of hv (oz_rb A 24) q0
  · obtain ⟨k1, k2⟩ := ss_v (lim := lim) mo 1 (ob_ A) (by omega) (oz_rb A 24) q0
    exact vs_of hv k1 k2
section
variable {A : mj_M}
theorem vs_on {k p o g n w : Int32} (hv : vs_A A) (hl : aq_n A < 24) (hk : k = 0 ∨ k = 1 ∨ k = 2) (h : on_ok A k p o g n w) : vs_A (on_st A k p o g n w) ∧ vs_rw (on_st A k p o g n w) (aq_n A) := by
  have en := aq_n_on (A := A) (k := k) (p := p) (o := o) (g := g) (n := n) (w := w) hl
  obtain ⟨g1, g2, g3, g4, g5, g6⟩ := on_n (A := A) (k := k) (p := p) (o := o) (g := g) (n := n) (w := w)
  obtain ⟨⟨a1, a2⟩, a3, a4, a5, a6, a7, a8, m, a9, a10, a11⟩ := hv
  unfold on_ok at h
  obtain ⟨h1, h2, h3, h4, h5, h6, h7, h8, h9, h10⟩ := h
  have r1 : vs_rw (on_st A k p o g n w) (aq_n A) := by
    unfold vs_rw
    rw [g1, g2, g3, g4, g5, g6]
    obtain ⟨p', hp, ep⟩ := nI_of2 (n := 9) rfl (by grind) h2
    obtain ⟨g', hg, eg⟩ := nI_of2 (n := 5) rfl (by grind) h5
    refine ⟨p', g', by omega, by omega, ep, eg, fun q => ?_, by grind, by grind, hk, h8⟩
    obtain ⟨u1, u2, u3⟩ := h3 q
    obtain ⟨o', ho, eo⟩ := nI_of2 (n := 9) rfl (by grind) u2
    refine ⟨o', by omega, fun q2 => u3 ?_, eo⟩
    rw [eo, ep, q2]
  refine ⟨⟨⟨?_, by omega⟩, fun a ha => ?_, fun a => ?_, fun a => ?_, fun a ha => ?_, fun c => ?_, ?_, m, a9, ?_, fun i hi => ?_⟩, r1⟩
  · rw [en]
    unfold on_st
    rw [pm_st0]
  · by_cases q : a = aq_n A
    · rw [q]; exact r1
    · have q2 := a3 a (by omega)
      unfold vs_rw at q2 ⊢
      rw [on_q (by omega), on_q (by omega), on_q (by omega), on_q (by omega), on_q (by omega), on_q (by omega)]
      exact q2
  · rw [on_q (by omega)]; exact a4 a
  · rw [on_q (by omega)]; exact a5 a
  · rw [on_q (by omega)]; exact a6 a (by omega)
  · rw [on_q (by omega)]; exact a7 c
  · rw [on_q (by omega)]; exact a8
  · rw [on_q (by omega)]; exact a10
  · rw [on_q (by omega), en]
    obtain ⟨a, h, k1, k2⟩ := a11 i hi
    exact ⟨a, h, by omega, k2⟩
/-- a change that touches none of what validity speaks of, but for the places named -/
theorem vs_st {q j : Nat} {x : Int32} (hv : vs_A A) (h : (q = 12 ∧ (j = 10 ∨ j = 11)) ∨ (q = 19 ∧ j < aq_n A ∧ (x = 0 ∨ x = 1 ∨ x = 2)) ∨ (q = 20 ∧ (x = 0 ∨ x = 1)) ∨ (q = 21 ∧ -1 ≤ x) ∨ (q = 12 ∧ j = 17 ∧ x = 0)) : vs_A (mj_st A q j x) := by
  obtain ⟨⟨a1, a2⟩, a3, a4, a5, a6, a7, a8, m, a9, a10, a11⟩ := hv
  have en : aq_n (mj_st A q j x) = aq_n A := by unfold aq_n; rw [pm_st1 (by omega)]
  refine ⟨⟨?_, by omega⟩, fun a ha => ?_, fun a => ?_, fun a => ?_, fun a ha => ?_, fun c => ?_, ?_, ?_⟩
  · rw [en, pm_st1 (by omega)]; exact a1
  · have q2 := a3 a (by omega)
    unfold vs_rw at q2 ⊢
    rw [pm_st1 (by omega), pm_st1 (by omega), pm_st1 (by omega), pm_st1 (by omega), pm_st1 (by omega), pm_st1 (by omega)]
    exact q2
  · by_cases u : 19 = q ∧ a = j
    · obtain ⟨u1, u2⟩ := u
      subst u1 u2
      rw [pm_st0]
      rcases h with h | h | h | h | h
      · omega
      · exact h.2.2
      · omega
      · omega
      · omega
    · rw [pm_st1 (by omega)]; exact a4 a
  · by_cases u : 20 = q ∧ a = j
    · obtain ⟨u1, u2⟩ := u
      subst u1 u2
      rw [pm_st0]
      rcases h with h | h | h | h | h
      · omega
      · omega
      · exact h.2
      · omega
      · omega
    · rw [pm_st1 (by omega)]; exact a5 a
  · rw [pm_st1 (by omega)]; exact a6 a (by omega)
  · by_cases u : 21 = q ∧ c = j
    · obtain ⟨u1, u2⟩ := u
      subst u1 u2
      rw [pm_st0]
      rcases h with h | h | h | h | h
      · omega
      · omega
      · omega
      · exact h.2
      · omega
    · rw [pm_st1 (by omega)]; exact a7 c
  · rw [pm_st1 (by omega)]; exact a8
  · by_cases u : q = 12 ∧ j = 17
    · obtain ⟨u1, u2⟩ := u
      subst u1 u2
      rw [pm_st0]
      rcases h with h | h | h | h | h
      · omega
      · omega
      · omega
      · omega
      · exact ⟨0, by decide, h.2.2, fun i hi => absurd hi (Nat.not_lt_zero _)⟩
    · refine ⟨m, a9, ?_, fun i hi => ?_⟩
      · rw [pm_st1 (by omega)]; exact a10
      · rw [pm_st1 (by omega), en]; exact a11 i hi
theorem vs_oa (hv : vs_A A) {m : Nat} (hm : ∀ i, i < m → (aq_fh A i = 0 ∨ aq_fh A i = 1) ∧ aq_fa A i < aq_n A) : ∀ k, k ≤ m → vs_A (oa_ A k)
  | 0, _ => hv
  | k + 1, hk => by
    refine vs_st (vs_oa hv hm k (by omega)) (Or.inr (Or.inl ⟨rfl, by rw [oa_n]; exact (hm k (by omega)).2, ?_⟩))
    rcases (hm k (by omega)).1 with q | q <;> rw [q]
    · exact Or.inr (Or.inl rfl)
    · exact Or.inr (Or.inr rfl)
end
end
section
/-! class and reference agree, call by call -/
/-- both sides of a call tell the same and come to the same -/
def ag_ (X : Nat × (Nat → Int32)) (d : Nat) (R C : mj_T) (ra ca : List mj_V) (A : mj_M) : Prop := ∃ c v A', vs_A A' ∧ rs_ X (d + 13) R ra A c v A' ∧ cs_ X (d + 13) C ca A c v A'
theorem rm_on {A M : mj_M} (h : rm_ A M) {k p o g n w : Int32} : on_ok M k p o g n w ↔ on_ok A k p o g n w := by
  unfold on_ok
  rw [rm_n h, h.q (by decide) (by decide)]
theorem rm_vn {A M : mj_M} (hv : vs_A A) (h : rm_ A M) : M.1 12 1 = nI (aq_n M) ∧ aq_n M ≤ 24 := by
  rw [rm_n h, h.s (by decide)]
  exact hv.1
theorem rm_00 {A M : mj_M} (h : rm_ A M) {c : Int32} : rm_ A (mj_st M 12 0 c) := h.sr (by unfold aq_k; omega)
theorem fm_00 {M : mj_M} {c : Int32} : fm_ M (mj_st M 12 0 c) := (fm_.refl M).st (by decide) (by decide)
theorem rm_ost {A M : mj_M} (h : rm_ A M) {k p o g n w : Int32} : rm_ (on_st A k p o g n w) (on_st M k p o g n w) := by
  unfold on_st
  rw [rm_n h]
  exact ((((((h.st _ _ _).st _ _ _).st _ _ _).st _ _ _).st _ _ _).st _ _ _).st _ _ _
theorem rm_oa {A M : mj_M} (h : rm_ A M) : ∀ k, rm_ (oa_ A k) (oa_ M k)
  | 0 => h
  | k + 1 => by
    show rm_ (mj_st (oa_ A k) 19 (aq_fa A k) (1 + aq_fh A k)) (mj_st (oa_ M k) 19 (aq_fa M k) (1 + aq_fh M k))
    have e1 : aq_fa M k = aq_fa A k := by unfold aq_fa; rw [h.q (by decide) (by decide)]
    have e2 : aq_fh M k = aq_fh A k := by unfold aq_fh; rw [h.q (by decide) (by decide)]
    rw [e1, e2]
    exact (rm_oa h k).st _ _ _
theorem rm_dfE {A M : mj_M} (h : rm_ A M) : aq_df M (aq_E M) = aq_df A (aq_E A) := by
  funext z
  rw [rm_df h, rm_E h]
theorem rm_ndE {A M : mj_M} (h : rm_ A M) : aq_nd M (aq_E M) = aq_nd A (aq_E A) := by rw [rm_nd h, rm_E h]
theorem rm_caf {A M : mj_M} (h : rm_ A M) : aq_ca M = aq_ca A := funext (fun a => rm_ca h a)
theorem fm_oa (M : mj_M) : ∀ k, fm_ M (oa_ M k) ∧ (oa_ M k).1 12 0 = M.1 12 0
  | 0 => ⟨fm_.refl M, rfl⟩
  | k + 1 => ⟨(fm_oa M k).1.st (by decide) (by decide), by
    show (mj_st (oa_ M k) 19 _ _).1 12 0 = _
    rw [pm_st1 (by omega)]
    exact (fm_oa M k).2⟩
section
variable {X : Nat × (Nat → Int32)} {d : Nat} {M A : mj_M}
theorem pr_put {p g n w : Int32} {x : Int32} {M' : mj_M} (h : mj_C0 X d mt_M_newAct [mv_p 12, mv_i 0, mv_i p, mv_i (-1), mv_i g, mv_i n, mv_i w] M (.inr (some (.inl x)), M', 0)) : mj_C0 X (d + 1) mt_M_put [mv_p 12, mv_i p, mv_i g, mv_i n, mv_i w] M (mv_R x M') := by
  iterate 7 refine ev_go rfl ?_
  refine ev_callr rfl rfl rfl h ?_
  refine ev_end rfl ?_
  rfl
theorem ag_put (hv : vs_A A) (p g n w : Int32) : ag_ X d mt_M_put mt_W_put [mv_p 12, mv_i p, mv_i g, mv_i n, mv_i w] [mv_p 0, mv_i p, mv_i g, mv_i n, mv_i w, mv_p 28] A := by
  have hon : on_ok A 0 p (-1) g n w ↔ na_ok A p g n w := by
    rw [on_na hv]
    exact ⟨fun q => q.1, fun q => ⟨q, fun q2 => absurd q2 (by decide)⟩⟩
  by_cases h : na_ok A p g n w
  · have ho := hon.2 h
    by_cases hl : aq_n A = 24
    · refine ⟨2, 0, A, hv, fun M hr => ?_, pw_put_2 (pz_put (d := d + 8) hv hl h)⟩
      obtain ⟨n1, n2⟩ := rm_vn hv hr
      exact ⟨_, pr_put (pm_newAct_y (d := d + 11) n1 (by rw [rm_n hr]; exact hl) ((rm_on hr).2 ho)), rm_00 hr, fm_00, pm_st0⟩
    · have hl' : aq_n A < 24 := by have := hv.1.2; omega
      obtain ⟨v1, v2⟩ := vs_on hv hl' (by decide) ho
      refine ⟨0, nI (aq_n A), on_st A 0 p (-1) g n w, v1, fun M hr => ?_, pw_put (py_put (d := d + 8) hv hl' h v2)⟩
      obtain ⟨n1, n2⟩ := rm_vn hv hr
      have key := pr_put (pm_newAct (X := X) (d := d + 11) n1 (by rw [rm_n hr]; exact hl') ((rm_on hr).2 ho))
      rw [rm_n hr] at key
      refine ⟨_, key, rm_ost (rm_00 hr), ?_, ?_⟩
      · unfold on_st
        exact (((((((fm_00).st (by decide) (by decide)).st (by decide) (by decide)).st (by decide) (by decide)).st (by decide) (by decide)).st (by decide) (by decide)).st (by decide) (by decide)).st (by decide) (by decide)
      · rw [on_q (by omega), pm_st0]
  · refine ⟨1, 0, A, hv, fun M hr => ?_, pw_put_1 (px_put (d := d + 8) hv h)⟩
    obtain ⟨n1, n2⟩ := rm_vn hv hr
    exact ⟨_, pr_put (pm_newAct_x (d := d + 11) n1 n2 (fun q => h (hon.1 ((rm_on hr).1 q)))), rm_00 hr, fm_00, pm_st0⟩
theorem pr_take {p g n w : Int32} {x : Int32} {M' : mj_M} (h : mj_C0 X d mt_M_newAct [mv_p 12, mv_i 1, mv_i p, mv_i (-1), mv_i g, mv_i n, mv_i w] M (.inr (some (.inl x)), M', 0)) : mj_C0 X (d + 1) mt_M_take [mv_p 12, mv_i p, mv_i g, mv_i n, mv_i w] M (mv_R x M') := by
  iterate 7 refine ev_go rfl ?_
  refine ev_callr rfl rfl rfl h ?_
  refine ev_end rfl ?_
  rfl
theorem ag_take (hv : vs_A A) (p g n w : Int32) : ag_ X d mt_M_take mt_W_take [mv_p 12, mv_i p, mv_i g, mv_i n, mv_i w] [mv_p 0, mv_i p, mv_i g, mv_i n, mv_i w, mv_p 28] A := by
  have hon : on_ok A 1 p (-1) g n w ↔ na_ok A p g n w := by
    rw [on_na hv]
    exact ⟨fun q => q.1, fun q => ⟨q, fun q2 => absurd q2 (by decide)⟩⟩
  by_cases h : na_ok A p g n w
  · have ho := hon.2 h
    by_cases hl : aq_n A = 24
    · refine ⟨2, 0, A, hv, fun M hr => ?_, pw_take_2 (pz_take (d := d + 8) hv hl h)⟩
      obtain ⟨n1, n2⟩ := rm_vn hv hr
      exact ⟨_, pr_take (pm_newAct_y (d := d + 11) n1 (by rw [rm_n hr]; exact hl) ((rm_on hr).2 ho)), rm_00 hr, fm_00, pm_st0⟩
    · have hl' : aq_n A < 24 := by have := hv.1.2; omega
      obtain ⟨v1, v2⟩ := vs_on hv hl' (by decide) ho
      refine ⟨0, nI (aq_n A), on_st A 1 p (-1) g n w, v1, fun M hr => ?_, pw_take (py_take (d := d + 8) hv hl' h v2)⟩
      obtain ⟨n1, n2⟩ := rm_vn hv hr
      have key := pr_take (pm_newAct (X := X) (d := d + 11) n1 (by rw [rm_n hr]; exact hl') ((rm_on hr).2 ho))
      rw [rm_n hr] at key
      refine ⟨_, key, rm_ost (rm_00 hr), ?_, ?_⟩
      · unfold on_st
        exact (((((((fm_00).st (by decide) (by decide)).st (by decide) (by decide)).st (by decide) (by decide)).st (by decide) (by decide)).st (by decide) (by decide)).st (by decide) (by decide)).st (by decide) (by decide)
      · rw [on_q (by omega), pm_st0]
  · refine ⟨1, 0, A, hv, fun M hr => ?_, pw_take_1 (px_take (d := d + 8) hv h)⟩
    obtain ⟨n1, n2⟩ := rm_vn hv hr
    exact ⟨_, pr_take (pm_newAct_x (d := d + 11) n1 n2 (fun q => h (hon.1 ((rm_on hr).1 q)))), rm_00 hr, fm_00, pm_st0⟩
theorem pr_move {p o g n w : Int32} {x : Int32} {M' : mj_M} (h : mj_C0 X d mt_M_newAct [mv_p 12, mv_i 2, mv_i p, mv_i o, mv_i g, mv_i n, mv_i w] M (.inr (some (.inl x)), M', 0)) : mj_C0 X (d + 1) mt_M_move [mv_p 12, mv_i p, mv_i o, mv_i g, mv_i n, mv_i w] M (mv_R x M') := by
  iterate 7 refine ev_go rfl ?_
  refine ev_callr rfl rfl rfl h ?_
  refine ev_end rfl ?_
  rfl
theorem ag_move (hv : vs_A A) (p o g n w : Int32) : ag_ X d mt_M_move mt_W_move [mv_p 12, mv_i p, mv_i o, mv_i g, mv_i n, mv_i w] [mv_p 0, mv_i p, mv_i o, mv_i g, mv_i n, mv_i w, mv_p 28] A := by
  have hon : on_ok A 2 p o g n w ↔ (na_ok A p g n w ∧ (0 ≤ o ∧ o ≤ 9 ∧ ¬ o = p)) := by
    rw [on_na hv]
    exact ⟨fun q => ⟨q.1, q.2 rfl⟩, fun q => ⟨q.1, fun _ => q.2⟩⟩
  by_cases h : (na_ok A p g n w ∧ (0 ≤ o ∧ o ≤ 9 ∧ ¬ o = p))
  · have ho := hon.2 h
    by_cases hl : aq_n A = 24
    · refine ⟨2, 0, A, hv, fun M hr => ?_, pw_move_2 (pz_move (d := d + 8) hv hl h.1 h.2)⟩
      obtain ⟨n1, n2⟩ := rm_vn hv hr
      exact ⟨_, pr_move (pm_newAct_y (d := d + 11) n1 (by rw [rm_n hr]; exact hl) ((rm_on hr).2 ho)), rm_00 hr, fm_00, pm_st0⟩
    · have hl' : aq_n A < 24 := by have := hv.1.2; omega
      obtain ⟨v1, v2⟩ := vs_on hv hl' (by decide) ho
      refine ⟨0, nI (aq_n A), on_st A 2 p o g n w, v1, fun M hr => ?_, pw_move (py_move (d := d + 8) hv hl' h.1 h.2 v2)⟩
      obtain ⟨n1, n2⟩ := rm_vn hv hr
      have key := pr_move (pm_newAct (X := X) (d := d + 11) n1 (by rw [rm_n hr]; exact hl') ((rm_on hr).2 ho))
      rw [rm_n hr] at key
      refine ⟨_, key, rm_ost (rm_00 hr), ?_, ?_⟩
      · unfold on_st
        exact (((((((fm_00).st (by decide) (by decide)).st (by decide) (by decide)).st (by decide) (by decide)).st (by decide) (by decide)).st (by decide) (by decide)).st (by decide) (by decide)).st (by decide) (by decide)
      · rw [on_q (by omega), pm_st0]
  · refine ⟨1, 0, A, hv, fun M hr => ?_, pw_move_1 (px_move (d := d + 8) hv h)⟩
    obtain ⟨n1, n2⟩ := rm_vn hv hr
    exact ⟨_, pr_move (pm_newAct_x (d := d + 11) n1 n2 (fun q => h (hon.1 ((rm_on hr).1 q)))), rm_00 hr, fm_00, pm_st0⟩
/-- an act's number is one or is not -/
theorem no_act (hv : vs_A A) (a : Int32) : (pd_na A a = 0 ∧ ∃ j, j < aq_n A ∧ a = nI j) ∨ (¬ pd_na A a = 0 ∧ (a < 0 ∨ ¬ a < nI (aq_n A))) := by
  by_cases h : pd_na A a = 0
  · exact Or.inl ⟨h, (na_0 hv.1.1 hv.1.2).1 h⟩
  · refine Or.inr ⟨h, ?_⟩
    unfold pd_na at h
    rw [hv.1.1] at h
    by_cases h1 : a < 0
    · exact Or.inl h1
    · rw [if_neg h1] at h
      by_cases h2 : a < nI (aq_n A)
      · rw [if_pos h2] at h
        exact absurd rfl h
      · exact Or.inr h2
theorem sh_ci (hv : vs_A A) (n : Nat) : sm (aq_ci A 7 1) n = sm (aq_sh A) n := sm_congr (fun a _ => by
  show (if A.1 20 a = 1 then (1 : Int32) else 0) = if A.1 20 a = 0 then 0 else 1
  rcases hv.2.2.2.1 a with q | q <;> rw [q] <;> decide)
theorem ag_closed (hv : vs_A A) (a b : Int32) (hb : b = 0 ∨ b = 1) : ag_ X d mt_M_closed mt_W_closed [mv_p 12, mv_i a, mv_i b] [mv_p 0, mv_i a, mv_i b, mv_p 28] A := by
  rcases no_act hv a with ⟨h1, j, h2, h3⟩ | ⟨h1, h2⟩
  · subst h3
    have hv' : vs_A (mj_st A 20 j b) := vs_st hv (Or.inr (Or.inr (Or.inl ⟨rfl, hb⟩)))
    have key := py_closed (X := X) (d := d + 8) hv h2 hb hv'
    rw [sh_ci hv'] at key
    refine ⟨0, _, mj_st A 20 j b, hv', fun M hr => ?_, pw_closed key⟩
    obtain ⟨n1, n2⟩ := rm_vn hv hr
    have k2 := pm_closed (X := X) (d := d + 12) (a := j) (b := b) (by have := hv.1.2; omega) (by rw [rm_na hr]; exact h1) hb n1 n2
    have r1 : rm_ (mj_st A 20 j b) (mj_st (mj_st M 12 0 0) 20 j b) := (rm_00 hr).st _ _ _
    have e1 : aq_sh (mj_st (mj_st M 12 0 0) 20 j b) = aq_sh (mj_st A 20 j b) := by
      funext z
      unfold aq_sh
      rw [r1.q (by decide) (by decide)]
    rw [e1, rm_n hr] at k2
    exact ⟨_, k2, r1, fm_00.st (by decide) (by decide), by rw [pm_st1 (by omega), pm_st0]⟩
  · refine ⟨1, 0, A, hv, rs_of (fun M hr => pm_closed_x (by rw [rm_na hr]; exact h1)), pw_closed_1 (px_closed (d := d + 8) hv h2)⟩
theorem ag_window (hv : vs_A A) (a b : Int32) : ag_ X d mt_M_window mt_W_window [mv_p 12, mv_i a, mv_i b] [mv_p 0, mv_i a, mv_i b, mv_p 28] A := by
  by_cases h : 0 ≤ a ∧ a ≤ 10000 ∧ 0 ≤ b ∧ b ≤ 10000 ∧ a ≤ b
  · have hv' : vs_A (ow_ A a b) := vs_st (vs_st hv (Or.inl ⟨rfl, Or.inl rfl⟩)) (Or.inl ⟨rfl, Or.inr rfl⟩)
    refine ⟨0, _, ow_ A a b, hv', fun M hr => ?_, pw_window (py_window (d := d + 8) h hv')⟩
    have r1 : rm_ (ow_ A a b) (ow_ (mj_st M 12 0 0) a b) := ((rm_00 hr).st _ _ _).st _ _ _
    have k2 := pm_window (X := X) (d := d + 11) h ((rm_vA r1).2 hv')
    rw [rm_caf r1, rm_n r1] at k2
    exact ⟨_, k2, r1, (fm_00.st (by decide) (by decide)).st (by decide) (by decide), by unfold ow_; rw [pm_st1 (by omega), pm_st1 (by omega), pm_st0]⟩
  · exact ⟨1, 0, A, hv, rs_of (fun M hr => pm_window_x h), pw_window_1 (px_window (d := d + 8) h)⟩
theorem pg_of {p g : Int32} (h : 0 ≤ p ∧ p ≤ 9 ∧ 0 ≤ g ∧ g ≤ 5) : ∃ p' g' : Nat, p' < 10 ∧ g' < 6 ∧ p = nI p' ∧ g = nI g' := by
  obtain ⟨p', hp, ep⟩ := nI_of2 (n := 9) rfl (show ¬ p < 0 by grind) h.2.1
  obtain ⟨g', hg, eg⟩ := nI_of2 (n := 5) rfl (show ¬ g < 0 by grind) h.2.2.2
  exact ⟨p', g', by omega, by omega, ep, eg⟩
theorem ag_counted (hv : vs_A A) (p g n : Int32) : ag_ X d mt_M_counted mt_W_counted [mv_p 12, mv_i p, mv_i g, mv_i n] [mv_p 0, mv_i p, mv_i g, mv_i n, mv_p 28] A := by
  by_cases h : 0 ≤ p ∧ p ≤ 9 ∧ 0 ≤ g ∧ g ≤ 5 ∧ -1 ≤ n ∧ n ≤ 100000
  · obtain ⟨p', g', hp, hg, ep, eg⟩ := pg_of (show 0 ≤ p ∧ p ≤ 9 ∧ 0 ≤ g ∧ g ≤ 5 by grind)
    subst ep eg
    have h0 : -1 ≤ n ∧ n ≤ 100000 := by grind
    have hv' : vs_A (oc_ A (p' * 6 + g') n) := vs_st hv (Or.inr (Or.inr (Or.inr (Or.inl ⟨rfl, h0.1⟩))))
    refine ⟨0, _, oc_ A (p' * 6 + g') n, hv', fun M hr => ?_, pw_counted (py_counted (d := d + 8) hv hp hg h0)⟩
    obtain ⟨n1, n2⟩ := rm_vn hv hr
    have r1 : rm_ (oc_ A (p' * 6 + g') n) (oc_ (mj_st M 12 0 0) (p' * 6 + g') n) := (rm_00 hr).st _ _ _
    have k2 := pm_counted (X := X) (d := d + 9) hp hg h0 n1 n2
    rw [rm_ndE r1] at k2
    exact ⟨_, k2, r1, fm_00.st (by decide) (by decide), by unfold oc_; rw [pm_st1 (by omega), pm_st0]⟩
  · exact ⟨1, 0, A, hv, rs_of (fun M hr => pm_counted_x h), pw_counted_1 (px_counted (d := d + 8) h)⟩
theorem ag_expected (hv : vs_A A) (p g : Int32) : ag_ X d mt_M_expected mt_W_expected [mv_p 12, mv_i p, mv_i g] [mv_p 0, mv_i p, mv_i g, mv_p 28] A := by
  by_cases h : 0 ≤ p ∧ p ≤ 9 ∧ 0 ≤ g ∧ g ≤ 5
  · obtain ⟨p', g', hp, hg, ep, eg⟩ := pg_of h
    subst ep eg
    refine ⟨0, _, A, hv, rs_of (fun M hr => ?_), pw_expected (py_expected (d := d + 8) hp hg)⟩
    obtain ⟨n1, n2⟩ := rm_vn hv hr
    have k2 := pm_expected (X := X) (d := d + 11) hp hg n1 n2
    rw [rm_E hr] at k2
    exact k2
  · exact ⟨1, 0, A, hv, rs_of (fun M hr => pm_expected_x h), pw_expected_1 (px_expected (d := d + 8) h)⟩
theorem ag_differ (hv : vs_A A) (i w : Int32) : ag_ X d mt_M_differ mt_W_differ [mv_p 12, mv_i i, mv_i w] [mv_p 0, mv_i i, mv_i w, mv_p 28] A := by
  by_cases h : i < 0 ∨ ¬ i < aq_nd A (aq_E A)
  · refine ⟨1, 0, A, hv, rs_of (fun M hr => ?_), pw_differ_1 (px_differ (d := d + 8) h)⟩
    obtain ⟨n1, n2⟩ := rm_vn hv hr
    exact pm_differ_x n1 n2 (by rw [rm_ndE hr]; exact h)
  · have h1 : ¬ i < 0 ∧ i < aq_nd A (aq_E A) := by
      by_cases q : i < 0
      · exact absurd (Or.inl q) h
      · by_cases q2 : i < aq_nd A (aq_E A)
        · exact ⟨q, q2⟩
        · exact absurd (Or.inr q2) h
    obtain ⟨j, hj, e⟩ := nI_of h1.1
    subst e
    have u := ct_le (aq_df A (aq_E A)) 60
    have lj : j < ct (aq_df A (aq_E A)) 60 := by
      have q := h1.2
      unfold aq_nd at q
      rw [aq_wct] at q
      exact (nI_ltI hj (by omega)).1 q
    by_cases hw : 0 ≤ w ∧ w ≤ 2
    · obtain ⟨c, hc, c1, c2⟩ := ct_at lj
      refine ⟨0, _, A, hv, rs_of (fun M hr => ?_), pw_differ (py_differ (d := d + 8) hv hc c1 c2 hw)⟩
      obtain ⟨n1, n2⟩ := rm_vn hv hr
      have k2 := pm_differ (X := X) (d := d + 9) (i := j) (w := w) n1 n2 hc (by rw [rm_dfE hr]; exact c1) (by rw [rm_dfE hr]; exact c2) hw
      rw [rm_dfE hr] at k2
      exact k2
    · refine ⟨2, 0, A, hv, rs_of (fun M hr => ?_), pw_differ_2 (pz_differ (d := d + 8) lj hw)⟩
      obtain ⟨n1, n2⟩ := rm_vn hv hr
      exact pm_differ_y n1 n2 (by rw [rm_ndE hr]; exact h1) hw
theorem ag_search (hv : vs_A A) (a b : Int32) : ag_ X d mt_M_search mt_W_search [mv_p 12, mv_i a, mv_i b] [mv_p 0, mv_i a, mv_i b, mv_p 28] A := by
  by_cases h : 1 ≤ a ∧ a ≤ 4 ∧ 0 ≤ b ∧ b ≤ 20000
  · obtain ⟨mo, hmo, e⟩ := nI_of2 (n := 4) rfl (show ¬ a < 0 by grind) h.2.1
    subst e
    have h0 : 0 < mo := by
      rcases Nat.eq_zero_or_pos mo with q | q
      · rw [q] at h
        exact absurd h.1 (by decide)
      · exact q
    exact ⟨0, _, _, vs_sr hv hmo, pm_search (d := d + 10) hv h0 hmo ⟨h.2.2.1, h.2.2.2⟩, pw_search (py_search (d := d) hv h0 hmo ⟨h.2.2.1, h.2.2.2⟩)⟩
  · exact ⟨1, 0, A, hv, rs_of (fun M hr => pm_search_x h), pw_search_1 (px_search (d := d) h)⟩
theorem ag_often (hv : vs_A A) (a : Int32) : ag_ X d mt_M_often mt_W_often [mv_p 12, mv_i a] [mv_p 0, mv_i a, mv_p 28] A := by
  rcases no_act hv a with ⟨h1, j, h2, h3⟩ | ⟨h1, h2⟩
  · subst h3
    refine ⟨0, _, A, hv, rs_of (fun M hr => ?_), pw_often (py_often (d := d + 8) hv h2)⟩
    have k2 := pm_often (X := X) (d := d + 12) (M := M) (a := j) (by have := hv.1.2; omega) (by rw [rm_na hr]; exact h1)
    rw [hr.q (by decide) (by decide)] at k2
    exact k2
  · exact ⟨1, 0, A, hv, rs_of (fun M hr => pm_often_x (by rw [rm_na hr]; exact h1)), pw_often_1 (px_often (d := d + 8) hv h2)⟩
theorem ag_found (hv : vs_A A) (i w : Int32) : ag_ X d mt_M_found mt_W_found [mv_p 12, mv_i i, mv_i w] [mv_p 0, mv_i i, mv_i w, mv_p 28] A := by
  obtain ⟨m, m1, m2, m3, m4⟩ := vs_ch hv
  by_cases h : i < 0 ∨ ¬ i < A.1 12 17
  · exact ⟨1, 0, A, hv, rs_of (fun M hr => pm_found_x (by rw [hr.s (by decide)]; exact h)), pw_found_1 (px_found (d := d + 8) hv h)⟩
  · have h1 : ¬ i < 0 ∧ i < A.1 12 17 := by
      by_cases q : i < 0
      · exact absurd (Or.inl q) h
      · by_cases q2 : i < A.1 12 17
        · exact ⟨q, q2⟩
        · exact absurd (Or.inr q2) h
    obtain ⟨j, hj, e⟩ := nI_of h1.1
    subst e
    have lj : j < m := by
      have q := h1.2
      rw [m2] at q
      exact (nI_ltI hj (by omega)).1 q
    by_cases hw : 0 ≤ w ∧ w ≤ 1
    · refine ⟨0, _, A, hv, rs_of (fun M hr => ?_), pw_found (py_found (d := d + 8) hv (by rw [m3]; exact lj) hw)⟩
      have k2 := pm_found (X := X) (d := d + 12) (M := M) (i := j) (w := w) (by omega) (by rw [hr.s (by decide)]; exact h1.2) hw
      rw [hr.q (by decide) (by decide)] at k2
      exact k2
    · exact ⟨2, 0, A, hv, rs_of (fun M hr => pm_found_y (by rw [hr.s (by decide)]; exact h1) hw), pw_found_2 (pz_found (d := d + 8) hv (by rw [m3]; exact lj) hw)⟩
theorem ag_accept (hv : vs_A A) : ag_ X d mt_M_accept mt_W_accept [mv_p 12] [mv_p 0, mv_p 28] A := by
  obtain ⟨m, m1, m2, m3, m4⟩ := vs_ch hv
  have hl := hv.1.2
  have hfA : ∀ i, i < m → A.1 23 i / 2 = nI (aq_fa A i) ∧ aq_fa A i < aq_n A ∧ (aq_fh A i = 0 ∨ aq_fh A i = 1) := fun i hi => by
    obtain ⟨a, g, k1, k2, k3⟩ := m4 i hi
    obtain ⟨d1, d2⟩ := ah_d (a := a) (h := g) (by omega) k2
    have e1 : aq_fa A i = a := by
      unfold aq_fa
      rw [k3, d1, nI_clamp (by omega)]
    refine ⟨by rw [e1, k3, d1], by omega, ?_⟩
    unfold aq_fh
    rw [k3, d2]
    rcases (show g = 0 ∨ g = 1 by omega) with q | q <;> subst q
    · exact Or.inl rfl
    · exact Or.inr rfl
  have hf : ∀ M, rm_ A M → (∀ i, aq_fa M i = aq_fa A i) ∧ ∀ i, i < m → M.1 23 i / 2 = nI (aq_fa M i) ∧ aq_fa M i < 24 := fun M hr => by
    have e1 : ∀ i, aq_fa M i = aq_fa A i := fun i => by unfold aq_fa; rw [hr.q (by decide) (by decide)]
    refine ⟨e1, fun i hi => ?_⟩
    rw [e1, hr.q (by decide) (by decide)]
    exact ⟨(hfA i hi).1, by have := (hfA i hi).2.1; omega⟩
  by_cases h : m = 0 ∨ ∃ i, i < m ∧ ¬ A.1 19 (aq_fa A i) = 0
  · refine ⟨1, 0, A, hv, rs_of (fun M hr => ?_), pw_accept_1 (px_accept (d := d + 6) hv ?_)⟩
    · obtain ⟨f1, f2⟩ := hf M hr
      refine pm_accept_x (m := m) (by rw [hr.s (by decide)]; exact m2) m1 f2 ?_
      rcases h with q | ⟨i, q1, q2⟩
      · exact Or.inl q
      · refine Or.inr ⟨i, q1, ?_⟩
        rw [f1, hr.q (by decide) (by decide)]
        exact q2
    · rcases h with q | ⟨i, q1, q2⟩
      · exact Or.inl (by rw [m2, q]; rfl)
      · exact Or.inr ⟨i, by rw [m3]; exact q1, q2⟩
  · have h0 : 0 < m := by
      rcases Nat.eq_zero_or_pos m with q | q
      · exact absurd (Or.inl q) h
      · exact q
    have hp : ∀ i, i < m → A.1 19 (aq_fa A i) = 0 := fun i hi => by
      by_cases q : A.1 19 (aq_fa A i) = 0
      · exact q
      · exact absurd (Or.inr ⟨i, hi, q⟩) h
    have hv' : vs_A (mj_st (oa_ A m) 12 17 0) := vs_st (vs_oa hv (fun i hi => ⟨(hfA i hi).2.2, (hfA i hi).2.1⟩) m (Nat.le_refl _)) (Or.inr (Or.inr (Or.inr (Or.inr ⟨rfl, rfl, rfl⟩))))
    refine ⟨0, _, _, hv', fun M hr => ?_, pw_accept (py_accept (d := d + 6) hv h0 m1 m2 hp)⟩
    obtain ⟨f1, f2⟩ := hf M hr
    obtain ⟨n1, n2⟩ := rm_vn hv hr
    have k2 := pm_accept (X := X) (d := d + 9) (M := M) (m := m) (by rw [hr.s (by decide)]; exact m2) h0 m1 f2 (fun i hi => by rw [f1, hr.q (by decide) (by decide)]; exact hp i hi) n1 n2
    have r1 : rm_ (mj_st (oa_ A m) 12 17 0) (mj_st (oa_ (mj_st M 12 0 0) m) 12 17 0) := (rm_oa (rm_00 hr) m).st _ _ _
    rw [rm_ndE r1] at k2
    exact ⟨_, k2, r1, (fm_00.trans (fm_oa _ m).1).st (by decide) (by decide), by rw [pm_st1 (by omega), (fm_oa _ m).2, pm_st0]⟩
theorem ag_back (hv : vs_A A) (a : Int32) : ag_ X d mt_M_back mt_W_back [mv_p 12, mv_i a] [mv_p 0, mv_i a, mv_p 28] A := by
  have hl := hv.1.2
  rcases no_act hv a with ⟨h1, j, h2, h3⟩ | ⟨h1, h2⟩
  · subst h3
    by_cases h4 : A.1 19 j = 0
    · exact ⟨2, 0, A, hv, rs_of (fun M hr => pm_back_y (by omega) (by rw [rm_na hr]; exact h1) (by rw [hr.q (by decide) (by decide)]; exact h4)), pw_back_2 (pz_back (d := d + 8) hv h2 h4)⟩
    · have hv' : vs_A (mj_st A 19 j 0) := vs_st hv (Or.inr (Or.inl ⟨rfl, h2, Or.inl rfl⟩))
      refine ⟨0, _, _, hv', fun M hr => ?_, pw_back (py_back (d := d + 8) hv h2 h4)⟩
      obtain ⟨n1, n2⟩ := rm_vn hv hr
      have k2 := pm_back (X := X) (d := d + 9) (M := M) (a := j) (by omega) (by rw [rm_na hr]; exact h1) (by rw [hr.q (by decide) (by decide)]; exact h4) n1 n2
      have r1 : rm_ (mj_st A 19 j 0) (mj_st (mj_st M 12 0 0) 19 j 0) := (rm_00 hr).st _ _ _
      rw [rm_ndE r1] at k2
      exact ⟨_, k2, r1, fm_00.st (by decide) (by decide), by rw [pm_st1 (by omega), pm_st0]⟩
  · exact ⟨1, 0, A, hv, rs_of (fun M hr => pm_back_x (by rw [rm_na hr]; exact h1)), pw_back_1 (px_back (d := d + 8) hv h2)⟩
theorem ag_share (hv : vs_A A) (p q : Int32) : ag_ X d mt_M_share mt_W_share [mv_p 12, mv_i p, mv_i q] [mv_p 0, mv_i p, mv_i q, mv_p 28] A := by
  by_cases h : 0 ≤ p ∧ p ≤ 1000000 ∧ 0 ≤ q
  · by_cases h' : q = 0
    · exact ⟨2, 0, A, hv, rs_of (fun M hr => pm_share_y h h'), pw_share_2 (pz_share (d := d + 8) h h')⟩
    · exact ⟨0, _, A, hv, rs_of (fun M hr => pm_share h h'), pw_share (py_share (d := d + 8) h h')⟩
  · exact ⟨1, 0, A, hv, rs_of (fun M hr => pm_share_x h), pw_share_1 (px_share (d := d + 8) h)⟩
theorem ag_told (hv : vs_A A) (a w : Int32) : ag_ X d mt_M_told mt_W_told [mv_p 12, mv_i a, mv_i w] [mv_p 0, mv_i a, mv_i w, mv_p 28] A := by
  have hl := hv.1.2
  rcases no_act hv a with ⟨h1, j, h2, h3⟩ | ⟨h1, h2⟩
  · subst h3
    by_cases hw : 0 ≤ w ∧ w ≤ 8
    · obtain ⟨w', hw', e⟩ := nI_of2 (n := 8) rfl (show ¬ w < 0 by grind) hw.2
      subst e
      refine ⟨0, _, A, hv, rs_of (fun M hr => ?_), pw_told (py_told (d := d + 8) hv h2 hw')⟩
      have k2 := pm_told (X := X) (d := d + 12) (M := M) (a := j) (w := w') (by omega) (by rw [rm_na hr]; exact h1) hw' ((rm_rw hr j).2 (hv.2.1 j h2))
      have e2 : aq_to M j w' = aq_to A j w' := by
        unfold aq_to
        by_cases q8 : w' = 8
        · rw [if_pos q8, if_pos q8, rm_ca hr]
        · rw [if_neg q8, if_neg q8, hr.q (q := 20) (by decide) (by decide), hr.q (q := 13 + w') (by omega) (by omega)]
      rw [e2] at k2
      exact k2
    · exact ⟨2, 0, A, hv, rs_of (fun M hr => pm_told_y (by rw [rm_na hr]; exact h1) hw), pw_told_2 (pz_told (d := d + 8) hv h2 hw)⟩
  · exact ⟨1, 0, A, hv, rs_of (fun M hr => pm_told_x (by rw [rm_na hr]; exact h1)), pw_told_1 (px_told (d := d + 8) hv h2)⟩
theorem ag_of (hv : vs_A A) (p g i : Int32) : ag_ X d mt_M_of mt_W_of [mv_p 12, mv_i p, mv_i g, mv_i i] [mv_p 0, mv_i p, mv_i g, mv_i i, mv_p 28] A := by
  by_cases h : 0 ≤ p ∧ p ≤ 9 ∧ 0 ≤ g ∧ g ≤ 5 ∧ 0 ≤ i
  · refine ⟨0, _, A, hv, rs_of (fun M hr => ?_), pw_of (py_of (d := d + 8) hv h)⟩
    obtain ⟨n1, n2⟩ := rm_vn hv hr
    have k2 := pm_of (X := X) (d := d + 11) (M := M) h n1 n2
    rw [rm_n hr, show (fun a => aq_ad M a (6 * p + g)) = (fun a => aq_ad A a (6 * p + g)) from funext (fun a => rm_ad hr a _)] at k2
    exact k2
  · exact ⟨1, 0, A, hv, rs_of (fun M hr => pm_of_x h), pw_of_1 (px_of (d := d + 8) h)⟩
/-- the calls that are compared as they stand -/
def ah_ (X : Nat × (Nat → Int32)) (d : Nat) (R C : mj_T) (ra ca : List mj_V) (A : mj_M) : Prop := ∃ v, rs_ X (d + 13) R ra A 0 v A ∧ ey_ X (d + 13) C ca A v A
theorem ah_exact (hv : vs_A A) : ah_ X d mt_M_exact mt_E_exact [mv_p 12] [mv_p 0] A := ⟨A.1 12 13, rs_of (fun M hr => by
  have k2 := pm_exact (X := X) (d := d + 13) (M := M) (by rw [hr.s (by decide)]; exact hv.2.2.2.2.2.2.1)
  rw [hr.s (by decide)] at k2
  exact k2), py_exact hv.2.2.2.2.2.2.1⟩
theorem ah_steps : ah_ X d mt_M_steps mt_E_steps [mv_p 12] [mv_p 0] A := ⟨A.1 12 14, rs_of (fun M hr => by
  have k2 := pm_steps (X := X) (d := d + 13) (M := M)
  rw [hr.s (by decide)] at k2
  exact k2), py_steps⟩
theorem ah_ties : ah_ X d mt_M_ties mt_E_ties [mv_p 12] [mv_p 0] A := ⟨A.1 12 15, rs_of (fun M hr => by
  have k2 := pm_ties (X := X) (d := d + 13) (M := M)
  rw [hr.s (by decide)] at k2
  exact k2), py_ties⟩
theorem rm_cn (h : rm_ A M) (w : Int32) : aq_cn M w = aq_cn A w := by
  have e1 : aq_ab M = aq_ab A := by funext c; unfold aq_ab; rw [rm_dfE h]
  have e2 : aq_so M = aq_so A := by funext c; unfold aq_so; rw [h.q (by decide) (by decide)]
  have e3 : ∀ v, aq_si M v = aq_si A v := fun v => by funext c; unfold aq_si; rw [h.q (by decide) (by decide)]
  unfold aq_cn
  rw [h.s (j := 1) (by decide), h.s (j := 17) (by decide), rm_ndE h, e1, rm_caf h, rm_n h, e3, e3, e2]
theorem ah_count (hv : vs_A A) (w : Int32) : ah_ X d mt_M_count mt_E_count [mv_p 12, mv_i w] [mv_p 0, mv_i w] A := ⟨aq_cn A w, rs_of (fun M hr => by
  have k2 := pm_count (X := X) (d := d + 9) (M := M) (w := w) ((rm_vA hr).2 hv)
  rw [rm_cn (rm_00 hr)] at k2
  exact k2), py_count (d := d + 9) hv⟩
end
end
section
/-! the law's loop -/
def jq_ (A M : mj_M) : Prop := vs_A A ∧ rm_ A M ∧ rc_ A M
/-- a case of the law comes to the loop's end, class and reference again in one state -/
def ca_ (X : Nat × (Nat → Int32)) (d pc i : Nat) (lo : mj_L) (M : mj_M) (k : Nat) : Prop := ∃ A' M' k' lo', jq_ A' M' ∧ k' ≤ k + 1 ∧ ∀ R, mj_Ev mj_S0 X mj_P (d + 14) mt_W_law 1364 (mj_up (mj_up (mj_up (mj_up (mj_up lo' 0 (mv_p 29)) 1 (mv_p 0)) 2 (mv_p 12)) 3 (mv_p 28)) 4 (mv_i (nI i))) [] M' k' R → mj_Ev mj_S0 X mj_P (d + 14) mt_W_law pc (mj_up (mj_up (mj_up (mj_up (mj_up lo 0 (mv_p 29)) 1 (mv_p 0)) 2 (mv_p 12)) 3 (mv_p 28)) 4 (mv_i (nI i))) [] M k R
theorem lg_same (x : Int64) : lg_cmp x x = 0 := by simp [lg_cmp]
section
variable {X : Nat × (Nat → Int32)} {d : Nat} {M A : mj_M} {i k : Nat} {lo : mj_L}
theorem ix_ {j : Nat} (hj : j < 6) (hi : i + 6 ≤ X.1) (hX : X.1 ≤ 3072) : mj_in (nI i + nI j) X.1 := by
  rw [nI_add]
  exact nI_in (by omega) (by omega)
theorem lc_put (h : jq_ A M) (hi : i + 6 ≤ X.1) (hX : X.1 ≤ 3072) : ca_ X d 136 i lo M k := by
  obtain ⟨c, v, A', hv', hrs, hcs⟩ := ag_put (X := X) (d := d) h.1 (X.2 (nI i + nI 1).toNatClampNeg) (X.2 (nI i + nI 2).toNatClampNeg) (X.2 (nI i + nI 3).toNatClampNeg) (X.2 (nI i + nI 4).toNatClampNeg)
  obtain ⟨hv, hm, hc⟩ := h
  obtain ⟨M1, k1, w1, w2, w3, w4, w5⟩ := hcs M hc
  obtain ⟨M2, r1, r2, r3, r4⟩ := hrs M1 (hm.fc w4)
  refine ⟨A', M2, k + k1 + 0 + 0, mj_up (mj_up lo 5 (mv_i c)) 6 (mv_i v), ⟨hv', r2, w3.fm r3⟩, by omega, fun R hR => ?_⟩
  iterate 5 refine ev_go rfl ?_
  refine ev_ok ⟨rfl, ix_ (j := 1) (by decide) hi hX⟩ rfl ?_
  iterate 4 refine ev_go rfl ?_
  refine ev_ok ⟨rfl, ix_ (j := 2) (by decide) hi hX⟩ rfl ?_
  iterate 4 refine ev_go rfl ?_
  refine ev_ok ⟨rfl, ix_ (j := 3) (by decide) hi hX⟩ rfl ?_
  iterate 4 refine ev_go rfl ?_
  refine ev_ok ⟨rfl, ix_ (j := 4) (by decide) hi hX⟩ rfl ?_
  refine ev_go rfl ?_
  refine ev_callr rfl rfl rfl w1 ?_
  iterate 6 refine ev_go rfl ?_
  refine ev_ok ⟨rfl, ix_ (j := 1) (by decide) hi hX⟩ rfl ?_
  iterate 4 refine ev_go rfl ?_
  refine ev_ok ⟨rfl, ix_ (j := 2) (by decide) hi hX⟩ rfl ?_
  iterate 4 refine ev_go rfl ?_
  refine ev_ok ⟨rfl, ix_ (j := 3) (by decide) hi hX⟩ rfl ?_
  iterate 4 refine ev_go rfl ?_
  refine ev_ok ⟨rfl, ix_ (j := 4) (by decide) hi hX⟩ rfl ?_
  refine ev_callr rfl rfl rfl r1 ?_
  iterate 2 refine ev_go rfl ?_
  refine ev_callr rfl rfl rfl pm_thrown ?_
  refine ev_go rfl ?_
  rw [r4]
  refine ev_if rfl (fun h203 => ?_) (fun h203 => ?_)
  · refine ev_go rfl ?_
    refine ev_if rfl (fun h210 => ?_) (fun h210 => ?_)
    · iterate 6 refine ev_go rfl ?_
      show mj_Ev _ _ _ _ _ _ _ [mv_i (lg_cmp M2.2 v.toInt64)] _ _ _
      rw [r3.1, w5 h210, lg_same]
      iterate 2 refine ev_go rfl ?_
      refine ev_lo ?_ hR
      funext z
      by_cases z0 : z = 0
      · subst z0
        first
          | rfl
          | simp [mj_up]
      by_cases z1 : z = 1
      · subst z1
        first
          | rfl
          | simp [mj_up]
      by_cases z2 : z = 2
      · subst z2
        first
          | rfl
          | simp [mj_up]
      by_cases z3 : z = 3
      · subst z3
        first
          | rfl
          | simp [mj_up]
      by_cases z4 : z = 4
      · subst z4
        first
          | rfl
          | simp [mj_up]
      by_cases z5 : z = 5
      · subst z5
        first
          | rfl
          | simp [mj_up]
      by_cases z6 : z = 6
      · subst z6
        first
          | rfl
          | simp [mj_up]
      first
        | (simp [mj_up, z0, z1, z2, z3, z4, z5, z6]; done)
        | (simp [mj_up, z0, z1, z2, z3, z4, z5, z6]; intro q; first | exact absurd q z0 | exact absurd q z1 | exact absurd q z2 | exact absurd q z3 | exact absurd q z4 | exact absurd q z5 | exact absurd q z6)
    · refine ev_go rfl ?_
      refine ev_lo ?_ hR
      funext z
      by_cases z0 : z = 0
      · subst z0
        first
          | rfl
          | simp [mj_up]
      by_cases z1 : z = 1
      · subst z1
        first
          | rfl
          | simp [mj_up]
      by_cases z2 : z = 2
      · subst z2
        first
          | rfl
          | simp [mj_up]
      by_cases z3 : z = 3
      · subst z3
        first
          | rfl
          | simp [mj_up]
      by_cases z4 : z = 4
      · subst z4
        first
          | rfl
          | simp [mj_up]
      by_cases z5 : z = 5
      · subst z5
        first
          | rfl
          | simp [mj_up]
      by_cases z6 : z = 6
      · subst z6
        first
          | rfl
          | simp [mj_up]
      first
        | (simp [mj_up, z0, z1, z2, z3, z4, z5, z6]; done)
        | (simp [mj_up, z0, z1, z2, z3, z4, z5, z6]; intro q; first | exact absurd q z0 | exact absurd q z1 | exact absurd q z2 | exact absurd q z3 | exact absurd q z4 | exact absurd q z5 | exact absurd q z6)
  · exact absurd rfl h203
theorem lc_take (h : jq_ A M) (hi : i + 6 ≤ X.1) (hX : X.1 ≤ 3072) : ca_ X d 228 i lo M k := by
  obtain ⟨c, v, A', hv', hrs, hcs⟩ := ag_take (X := X) (d := d) h.1 (X.2 (nI i + nI 1).toNatClampNeg) (X.2 (nI i + nI 2).toNatClampNeg) (X.2 (nI i + nI 3).toNatClampNeg) (X.2 (nI i + nI 4).toNatClampNeg)
  obtain ⟨hv, hm, hc⟩ := h
  obtain ⟨M1, k1, w1, w2, w3, w4, w5⟩ := hcs M hc
  obtain ⟨M2, r1, r2, r3, r4⟩ := hrs M1 (hm.fc w4)
  refine ⟨A', M2, k + k1 + 0 + 0, mj_up (mj_up lo 5 (mv_i c)) 6 (mv_i v), ⟨hv', r2, w3.fm r3⟩, by omega, fun R hR => ?_⟩
  iterate 5 refine ev_go rfl ?_
  refine ev_ok ⟨rfl, ix_ (j := 1) (by decide) hi hX⟩ rfl ?_
  iterate 4 refine ev_go rfl ?_
  refine ev_ok ⟨rfl, ix_ (j := 2) (by decide) hi hX⟩ rfl ?_
  iterate 4 refine ev_go rfl ?_
  refine ev_ok ⟨rfl, ix_ (j := 3) (by decide) hi hX⟩ rfl ?_
  iterate 4 refine ev_go rfl ?_
  refine ev_ok ⟨rfl, ix_ (j := 4) (by decide) hi hX⟩ rfl ?_
  refine ev_go rfl ?_
  refine ev_callr rfl rfl rfl w1 ?_
  iterate 6 refine ev_go rfl ?_
  refine ev_ok ⟨rfl, ix_ (j := 1) (by decide) hi hX⟩ rfl ?_
  iterate 4 refine ev_go rfl ?_
  refine ev_ok ⟨rfl, ix_ (j := 2) (by decide) hi hX⟩ rfl ?_
  iterate 4 refine ev_go rfl ?_
  refine ev_ok ⟨rfl, ix_ (j := 3) (by decide) hi hX⟩ rfl ?_
  iterate 4 refine ev_go rfl ?_
  refine ev_ok ⟨rfl, ix_ (j := 4) (by decide) hi hX⟩ rfl ?_
  refine ev_callr rfl rfl rfl r1 ?_
  iterate 2 refine ev_go rfl ?_
  refine ev_callr rfl rfl rfl pm_thrown ?_
  refine ev_go rfl ?_
  rw [r4]
  refine ev_if rfl (fun h295 => ?_) (fun h295 => ?_)
  · refine ev_go rfl ?_
    refine ev_if rfl (fun h302 => ?_) (fun h302 => ?_)
    · iterate 6 refine ev_go rfl ?_
      show mj_Ev _ _ _ _ _ _ _ [mv_i (lg_cmp M2.2 v.toInt64)] _ _ _
      rw [r3.1, w5 h302, lg_same]
      iterate 2 refine ev_go rfl ?_
      refine ev_lo ?_ hR
      funext z
      by_cases z0 : z = 0
      · subst z0
        first
          | rfl
          | simp [mj_up]
      by_cases z1 : z = 1
      · subst z1
        first
          | rfl
          | simp [mj_up]
      by_cases z2 : z = 2
      · subst z2
        first
          | rfl
          | simp [mj_up]
      by_cases z3 : z = 3
      · subst z3
        first
          | rfl
          | simp [mj_up]
      by_cases z4 : z = 4
      · subst z4
        first
          | rfl
          | simp [mj_up]
      by_cases z5 : z = 5
      · subst z5
        first
          | rfl
          | simp [mj_up]
      by_cases z6 : z = 6
      · subst z6
        first
          | rfl
          | simp [mj_up]
      first
        | (simp [mj_up, z0, z1, z2, z3, z4, z5, z6]; done)
        | (simp [mj_up, z0, z1, z2, z3, z4, z5, z6]; intro q; first | exact absurd q z0 | exact absurd q z1 | exact absurd q z2 | exact absurd q z3 | exact absurd q z4 | exact absurd q z5 | exact absurd q z6)
    · refine ev_go rfl ?_
      refine ev_lo ?_ hR
      funext z
      by_cases z0 : z = 0
      · subst z0
        first
          | rfl
          | simp [mj_up]
      by_cases z1 : z = 1
      · subst z1
        first
          | rfl
          | simp [mj_up]
      by_cases z2 : z = 2
      · subst z2
        first
          | rfl
          | simp [mj_up]
      by_cases z3 : z = 3
      · subst z3
        first
          | rfl
          | simp [mj_up]
      by_cases z4 : z = 4
      · subst z4
        first
          | rfl
          | simp [mj_up]
      by_cases z5 : z = 5
      · subst z5
        first
          | rfl
          | simp [mj_up]
      by_cases z6 : z = 6
      · subst z6
        first
          | rfl
          | simp [mj_up]
      first
        | (simp [mj_up, z0, z1, z2, z3, z4, z5, z6]; done)
        | (simp [mj_up, z0, z1, z2, z3, z4, z5, z6]; intro q; first | exact absurd q z0 | exact absurd q z1 | exact absurd q z2 | exact absurd q z3 | exact absurd q z4 | exact absurd q z5 | exact absurd q z6)
  · exact absurd rfl h295
theorem lc_move (h : jq_ A M) (hi : i + 6 ≤ X.1) (hX : X.1 ≤ 3072) : ca_ X d 320 i lo M k := by
  obtain ⟨c, v, A', hv', hrs, hcs⟩ := ag_move (X := X) (d := d) h.1 (X.2 (nI i + nI 1).toNatClampNeg) (X.2 (nI i + nI 2).toNatClampNeg) (X.2 (nI i + nI 3).toNatClampNeg) (X.2 (nI i + nI 4).toNatClampNeg) (X.2 (nI i + nI 5).toNatClampNeg)
  obtain ⟨hv, hm, hc⟩ := h
  obtain ⟨M1, k1, w1, w2, w3, w4, w5⟩ := hcs M hc
  obtain ⟨M2, r1, r2, r3, r4⟩ := hrs M1 (hm.fc w4)
  refine ⟨A', M2, k + k1 + 0 + 0, mj_up (mj_up lo 5 (mv_i c)) 6 (mv_i v), ⟨hv', r2, w3.fm r3⟩, by omega, fun R hR => ?_⟩
  iterate 5 refine ev_go rfl ?_
  refine ev_ok ⟨rfl, ix_ (j := 1) (by decide) hi hX⟩ rfl ?_
  iterate 4 refine ev_go rfl ?_
  refine ev_ok ⟨rfl, ix_ (j := 2) (by decide) hi hX⟩ rfl ?_
  iterate 4 refine ev_go rfl ?_
  refine ev_ok ⟨rfl, ix_ (j := 3) (by decide) hi hX⟩ rfl ?_
  iterate 4 refine ev_go rfl ?_
  refine ev_ok ⟨rfl, ix_ (j := 4) (by decide) hi hX⟩ rfl ?_
  iterate 4 refine ev_go rfl ?_
  refine ev_ok ⟨rfl, ix_ (j := 5) (by decide) hi hX⟩ rfl ?_
  refine ev_go rfl ?_
  refine ev_callr rfl rfl rfl w1 ?_
  iterate 6 refine ev_go rfl ?_
  refine ev_ok ⟨rfl, ix_ (j := 1) (by decide) hi hX⟩ rfl ?_
  iterate 4 refine ev_go rfl ?_
  refine ev_ok ⟨rfl, ix_ (j := 2) (by decide) hi hX⟩ rfl ?_
  iterate 4 refine ev_go rfl ?_
  refine ev_ok ⟨rfl, ix_ (j := 3) (by decide) hi hX⟩ rfl ?_
  iterate 4 refine ev_go rfl ?_
  refine ev_ok ⟨rfl, ix_ (j := 4) (by decide) hi hX⟩ rfl ?_
  iterate 4 refine ev_go rfl ?_
  refine ev_ok ⟨rfl, ix_ (j := 5) (by decide) hi hX⟩ rfl ?_
  refine ev_callr rfl rfl rfl r1 ?_
  iterate 2 refine ev_go rfl ?_
  refine ev_callr rfl rfl rfl pm_thrown ?_
  refine ev_go rfl ?_
  rw [r4]
  refine ev_if rfl (fun h399 => ?_) (fun h399 => ?_)
  · refine ev_go rfl ?_
    refine ev_if rfl (fun h406 => ?_) (fun h406 => ?_)
    · iterate 6 refine ev_go rfl ?_
      show mj_Ev _ _ _ _ _ _ _ [mv_i (lg_cmp M2.2 v.toInt64)] _ _ _
      rw [r3.1, w5 h406, lg_same]
      iterate 2 refine ev_go rfl ?_
      refine ev_lo ?_ hR
      funext z
      by_cases z0 : z = 0
      · subst z0
        first
          | rfl
          | simp [mj_up]
      by_cases z1 : z = 1
      · subst z1
        first
          | rfl
          | simp [mj_up]
      by_cases z2 : z = 2
      · subst z2
        first
          | rfl
          | simp [mj_up]
      by_cases z3 : z = 3
      · subst z3
        first
          | rfl
          | simp [mj_up]
      by_cases z4 : z = 4
      · subst z4
        first
          | rfl
          | simp [mj_up]
      by_cases z5 : z = 5
      · subst z5
        first
          | rfl
          | simp [mj_up]
      by_cases z6 : z = 6
      · subst z6
        first
          | rfl
          | simp [mj_up]
      first
        | (simp [mj_up, z0, z1, z2, z3, z4, z5, z6]; done)
        | (simp [mj_up, z0, z1, z2, z3, z4, z5, z6]; intro q; first | exact absurd q z0 | exact absurd q z1 | exact absurd q z2 | exact absurd q z3 | exact absurd q z4 | exact absurd q z5 | exact absurd q z6)
    · refine ev_go rfl ?_
      refine ev_lo ?_ hR
      funext z
      by_cases z0 : z = 0
      · subst z0
        first
          | rfl
          | simp [mj_up]
      by_cases z1 : z = 1
      · subst z1
        first
          | rfl
          | simp [mj_up]
      by_cases z2 : z = 2
      · subst z2
        first
          | rfl
          | simp [mj_up]
      by_cases z3 : z = 3
      · subst z3
        first
          | rfl
          | simp [mj_up]
      by_cases z4 : z = 4
      · subst z4
        first
          | rfl
          | simp [mj_up]
      by_cases z5 : z = 5
      · subst z5
        first
          | rfl
          | simp [mj_up]
      by_cases z6 : z = 6
      · subst z6
        first
          | rfl
          | simp [mj_up]
      first
        | (simp [mj_up, z0, z1, z2, z3, z4, z5, z6]; done)
        | (simp [mj_up, z0, z1, z2, z3, z4, z5, z6]; intro q; first | exact absurd q z0 | exact absurd q z1 | exact absurd q z2 | exact absurd q z3 | exact absurd q z4 | exact absurd q z5 | exact absurd q z6)
  · exact absurd rfl h399
theorem lc_window (h : jq_ A M) (hi : i + 6 ≤ X.1) (hX : X.1 ≤ 3072) : ca_ X d 508 i lo M k := by
  obtain ⟨c, v, A', hv', hrs, hcs⟩ := ag_window (X := X) (d := d) h.1 (X.2 (nI i + nI 1).toNatClampNeg) (X.2 (nI i + nI 2).toNatClampNeg)
  obtain ⟨hv, hm, hc⟩ := h
  obtain ⟨M1, k1, w1, w2, w3, w4, w5⟩ := hcs M hc
  obtain ⟨M2, r1, r2, r3, r4⟩ := hrs M1 (hm.fc w4)
  refine ⟨A', M2, k + k1 + 0 + 0, mj_up (mj_up lo 5 (mv_i c)) 6 (mv_i v), ⟨hv', r2, w3.fm r3⟩, by omega, fun R hR => ?_⟩
  iterate 5 refine ev_go rfl ?_
  refine ev_ok ⟨rfl, ix_ (j := 1) (by decide) hi hX⟩ rfl ?_
  iterate 4 refine ev_go rfl ?_
  refine ev_ok ⟨rfl, ix_ (j := 2) (by decide) hi hX⟩ rfl ?_
  refine ev_go rfl ?_
  refine ev_callr rfl rfl rfl w1 ?_
  iterate 6 refine ev_go rfl ?_
  refine ev_ok ⟨rfl, ix_ (j := 1) (by decide) hi hX⟩ rfl ?_
  iterate 4 refine ev_go rfl ?_
  refine ev_ok ⟨rfl, ix_ (j := 2) (by decide) hi hX⟩ rfl ?_
  refine ev_callr rfl rfl rfl r1 ?_
  iterate 2 refine ev_go rfl ?_
  refine ev_callr rfl rfl rfl pm_thrown ?_
  refine ev_go rfl ?_
  rw [r4]
  refine ev_if rfl (fun h551 => ?_) (fun h551 => ?_)
  · refine ev_go rfl ?_
    refine ev_if rfl (fun h558 => ?_) (fun h558 => ?_)
    · iterate 6 refine ev_go rfl ?_
      show mj_Ev _ _ _ _ _ _ _ [mv_i (lg_cmp M2.2 v.toInt64)] _ _ _
      rw [r3.1, w5 h558, lg_same]
      iterate 2 refine ev_go rfl ?_
      refine ev_lo ?_ hR
      funext z
      by_cases z0 : z = 0
      · subst z0
        first
          | rfl
          | simp [mj_up]
      by_cases z1 : z = 1
      · subst z1
        first
          | rfl
          | simp [mj_up]
      by_cases z2 : z = 2
      · subst z2
        first
          | rfl
          | simp [mj_up]
      by_cases z3 : z = 3
      · subst z3
        first
          | rfl
          | simp [mj_up]
      by_cases z4 : z = 4
      · subst z4
        first
          | rfl
          | simp [mj_up]
      by_cases z5 : z = 5
      · subst z5
        first
          | rfl
          | simp [mj_up]
      by_cases z6 : z = 6
      · subst z6
        first
          | rfl
          | simp [mj_up]
      first
        | (simp [mj_up, z0, z1, z2, z3, z4, z5, z6]; done)
        | (simp [mj_up, z0, z1, z2, z3, z4, z5, z6]; intro q; first | exact absurd q z0 | exact absurd q z1 | exact absurd q z2 | exact absurd q z3 | exact absurd q z4 | exact absurd q z5 | exact absurd q z6)
    · refine ev_go rfl ?_
      refine ev_lo ?_ hR
      funext z
      by_cases z0 : z = 0
      · subst z0
        first
          | rfl
          | simp [mj_up]
      by_cases z1 : z = 1
      · subst z1
        first
          | rfl
          | simp [mj_up]
      by_cases z2 : z = 2
      · subst z2
        first
          | rfl
          | simp [mj_up]
      by_cases z3 : z = 3
      · subst z3
        first
          | rfl
          | simp [mj_up]
      by_cases z4 : z = 4
      · subst z4
        first
          | rfl
          | simp [mj_up]
      by_cases z5 : z = 5
      · subst z5
        first
          | rfl
          | simp [mj_up]
      by_cases z6 : z = 6
      · subst z6
        first
          | rfl
          | simp [mj_up]
      first
        | (simp [mj_up, z0, z1, z2, z3, z4, z5, z6]; done)
        | (simp [mj_up, z0, z1, z2, z3, z4, z5, z6]; intro q; first | exact absurd q z0 | exact absurd q z1 | exact absurd q z2 | exact absurd q z3 | exact absurd q z4 | exact absurd q z5 | exact absurd q z6)
  · exact absurd rfl h551
theorem lc_counted (h : jq_ A M) (hi : i + 6 ≤ X.1) (hX : X.1 ≤ 3072) : ca_ X d 576 i lo M k := by
  obtain ⟨c, v, A', hv', hrs, hcs⟩ := ag_counted (X := X) (d := d) h.1 (X.2 (nI i + nI 1).toNatClampNeg) (X.2 (nI i + nI 2).toNatClampNeg) (X.2 (nI i + nI 3).toNatClampNeg)
  obtain ⟨hv, hm, hc⟩ := h
  obtain ⟨M1, k1, w1, w2, w3, w4, w5⟩ := hcs M hc
  obtain ⟨M2, r1, r2, r3, r4⟩ := hrs M1 (hm.fc w4)
  refine ⟨A', M2, k + k1 + 0 + 0, mj_up (mj_up lo 5 (mv_i c)) 6 (mv_i v), ⟨hv', r2, w3.fm r3⟩, by omega, fun R hR => ?_⟩
  iterate 5 refine ev_go rfl ?_
  refine ev_ok ⟨rfl, ix_ (j := 1) (by decide) hi hX⟩ rfl ?_
  iterate 4 refine ev_go rfl ?_
  refine ev_ok ⟨rfl, ix_ (j := 2) (by decide) hi hX⟩ rfl ?_
  iterate 4 refine ev_go rfl ?_
  refine ev_ok ⟨rfl, ix_ (j := 3) (by decide) hi hX⟩ rfl ?_
  refine ev_go rfl ?_
  refine ev_callr rfl rfl rfl w1 ?_
  iterate 6 refine ev_go rfl ?_
  refine ev_ok ⟨rfl, ix_ (j := 1) (by decide) hi hX⟩ rfl ?_
  iterate 4 refine ev_go rfl ?_
  refine ev_ok ⟨rfl, ix_ (j := 2) (by decide) hi hX⟩ rfl ?_
  iterate 4 refine ev_go rfl ?_
  refine ev_ok ⟨rfl, ix_ (j := 3) (by decide) hi hX⟩ rfl ?_
  refine ev_callr rfl rfl rfl r1 ?_
  iterate 2 refine ev_go rfl ?_
  refine ev_callr rfl rfl rfl pm_thrown ?_
  refine ev_go rfl ?_
  rw [r4]
  refine ev_if rfl (fun h631 => ?_) (fun h631 => ?_)
  · refine ev_go rfl ?_
    refine ev_if rfl (fun h638 => ?_) (fun h638 => ?_)
    · iterate 6 refine ev_go rfl ?_
      show mj_Ev _ _ _ _ _ _ _ [mv_i (lg_cmp M2.2 v.toInt64)] _ _ _
      rw [r3.1, w5 h638, lg_same]
      iterate 2 refine ev_go rfl ?_
      refine ev_lo ?_ hR
      funext z
      by_cases z0 : z = 0
      · subst z0
        first
          | rfl
          | simp [mj_up]
      by_cases z1 : z = 1
      · subst z1
        first
          | rfl
          | simp [mj_up]
      by_cases z2 : z = 2
      · subst z2
        first
          | rfl
          | simp [mj_up]
      by_cases z3 : z = 3
      · subst z3
        first
          | rfl
          | simp [mj_up]
      by_cases z4 : z = 4
      · subst z4
        first
          | rfl
          | simp [mj_up]
      by_cases z5 : z = 5
      · subst z5
        first
          | rfl
          | simp [mj_up]
      by_cases z6 : z = 6
      · subst z6
        first
          | rfl
          | simp [mj_up]
      first
        | (simp [mj_up, z0, z1, z2, z3, z4, z5, z6]; done)
        | (simp [mj_up, z0, z1, z2, z3, z4, z5, z6]; intro q; first | exact absurd q z0 | exact absurd q z1 | exact absurd q z2 | exact absurd q z3 | exact absurd q z4 | exact absurd q z5 | exact absurd q z6)
    · refine ev_go rfl ?_
      refine ev_lo ?_ hR
      funext z
      by_cases z0 : z = 0
      · subst z0
        first
          | rfl
          | simp [mj_up]
      by_cases z1 : z = 1
      · subst z1
        first
          | rfl
          | simp [mj_up]
      by_cases z2 : z = 2
      · subst z2
        first
          | rfl
          | simp [mj_up]
      by_cases z3 : z = 3
      · subst z3
        first
          | rfl
          | simp [mj_up]
      by_cases z4 : z = 4
      · subst z4
        first
          | rfl
          | simp [mj_up]
      by_cases z5 : z = 5
      · subst z5
        first
          | rfl
          | simp [mj_up]
      by_cases z6 : z = 6
      · subst z6
        first
          | rfl
          | simp [mj_up]
      first
        | (simp [mj_up, z0, z1, z2, z3, z4, z5, z6]; done)
        | (simp [mj_up, z0, z1, z2, z3, z4, z5, z6]; intro q; first | exact absurd q z0 | exact absurd q z1 | exact absurd q z2 | exact absurd q z3 | exact absurd q z4 | exact absurd q z5 | exact absurd q z6)
  · exact absurd rfl h631
theorem lc_expected (h : jq_ A M) (hi : i + 6 ≤ X.1) (hX : X.1 ≤ 3072) : ca_ X d 656 i lo M k := by
  obtain ⟨c, v, A', hv', hrs, hcs⟩ := ag_expected (X := X) (d := d) h.1 (X.2 (nI i + nI 1).toNatClampNeg) (X.2 (nI i + nI 2).toNatClampNeg)
  obtain ⟨hv, hm, hc⟩ := h
  obtain ⟨M1, k1, w1, w2, w3, w4, w5⟩ := hcs M hc
  obtain ⟨M2, r1, r2, r3, r4⟩ := hrs M1 (hm.fc w4)
  refine ⟨A', M2, k + k1 + 0 + 0, mj_up (mj_up lo 5 (mv_i c)) 6 (mv_i v), ⟨hv', r2, w3.fm r3⟩, by omega, fun R hR => ?_⟩
  iterate 5 refine ev_go rfl ?_
  refine ev_ok ⟨rfl, ix_ (j := 1) (by decide) hi hX⟩ rfl ?_
  iterate 4 refine ev_go rfl ?_
  refine ev_ok ⟨rfl, ix_ (j := 2) (by decide) hi hX⟩ rfl ?_
  refine ev_go rfl ?_
  refine ev_callr rfl rfl rfl w1 ?_
  iterate 6 refine ev_go rfl ?_
  refine ev_ok ⟨rfl, ix_ (j := 1) (by decide) hi hX⟩ rfl ?_
  iterate 4 refine ev_go rfl ?_
  refine ev_ok ⟨rfl, ix_ (j := 2) (by decide) hi hX⟩ rfl ?_
  refine ev_callr rfl rfl rfl r1 ?_
  iterate 2 refine ev_go rfl ?_
  refine ev_callr rfl rfl rfl pm_thrown ?_
  refine ev_go rfl ?_
  rw [r4]
  refine ev_if rfl (fun h699 => ?_) (fun h699 => ?_)
  · refine ev_go rfl ?_
    refine ev_if rfl (fun h706 => ?_) (fun h706 => ?_)
    · iterate 6 refine ev_go rfl ?_
      show mj_Ev _ _ _ _ _ _ _ [mv_i (lg_cmp M2.2 v.toInt64)] _ _ _
      rw [r3.1, w5 h706, lg_same]
      iterate 2 refine ev_go rfl ?_
      refine ev_lo ?_ hR
      funext z
      by_cases z0 : z = 0
      · subst z0
        first
          | rfl
          | simp [mj_up]
      by_cases z1 : z = 1
      · subst z1
        first
          | rfl
          | simp [mj_up]
      by_cases z2 : z = 2
      · subst z2
        first
          | rfl
          | simp [mj_up]
      by_cases z3 : z = 3
      · subst z3
        first
          | rfl
          | simp [mj_up]
      by_cases z4 : z = 4
      · subst z4
        first
          | rfl
          | simp [mj_up]
      by_cases z5 : z = 5
      · subst z5
        first
          | rfl
          | simp [mj_up]
      by_cases z6 : z = 6
      · subst z6
        first
          | rfl
          | simp [mj_up]
      first
        | (simp [mj_up, z0, z1, z2, z3, z4, z5, z6]; done)
        | (simp [mj_up, z0, z1, z2, z3, z4, z5, z6]; intro q; first | exact absurd q z0 | exact absurd q z1 | exact absurd q z2 | exact absurd q z3 | exact absurd q z4 | exact absurd q z5 | exact absurd q z6)
    · refine ev_go rfl ?_
      refine ev_lo ?_ hR
      funext z
      by_cases z0 : z = 0
      · subst z0
        first
          | rfl
          | simp [mj_up]
      by_cases z1 : z = 1
      · subst z1
        first
          | rfl
          | simp [mj_up]
      by_cases z2 : z = 2
      · subst z2
        first
          | rfl
          | simp [mj_up]
      by_cases z3 : z = 3
      · subst z3
        first
          | rfl
          | simp [mj_up]
      by_cases z4 : z = 4
      · subst z4
        first
          | rfl
          | simp [mj_up]
      by_cases z5 : z = 5
      · subst z5
        first
          | rfl
          | simp [mj_up]
      by_cases z6 : z = 6
      · subst z6
        first
          | rfl
          | simp [mj_up]
      first
        | (simp [mj_up, z0, z1, z2, z3, z4, z5, z6]; done)
        | (simp [mj_up, z0, z1, z2, z3, z4, z5, z6]; intro q; first | exact absurd q z0 | exact absurd q z1 | exact absurd q z2 | exact absurd q z3 | exact absurd q z4 | exact absurd q z5 | exact absurd q z6)
  · exact absurd rfl h699
theorem lc_differ (h : jq_ A M) (hi : i + 6 ≤ X.1) (hX : X.1 ≤ 3072) : ca_ X d 724 i lo M k := by
  obtain ⟨c, v, A', hv', hrs, hcs⟩ := ag_differ (X := X) (d := d) h.1 (X.2 (nI i + nI 1).toNatClampNeg) (X.2 (nI i + nI 2).toNatClampNeg)
  obtain ⟨hv, hm, hc⟩ := h
  obtain ⟨M1, k1, w1, w2, w3, w4, w5⟩ := hcs M hc
  obtain ⟨M2, r1, r2, r3, r4⟩ := hrs M1 (hm.fc w4)
  refine ⟨A', M2, k + k1 + 0 + 0, mj_up (mj_up lo 5 (mv_i c)) 6 (mv_i v), ⟨hv', r2, w3.fm r3⟩, by omega, fun R hR => ?_⟩
  iterate 5 refine ev_go rfl ?_
  refine ev_ok ⟨rfl, ix_ (j := 1) (by decide) hi hX⟩ rfl ?_
  iterate 4 refine ev_go rfl ?_
  refine ev_ok ⟨rfl, ix_ (j := 2) (by decide) hi hX⟩ rfl ?_
  refine ev_go rfl ?_
  refine ev_callr rfl rfl rfl w1 ?_
  iterate 6 refine ev_go rfl ?_
  refine ev_ok ⟨rfl, ix_ (j := 1) (by decide) hi hX⟩ rfl ?_
  iterate 4 refine ev_go rfl ?_
  refine ev_ok ⟨rfl, ix_ (j := 2) (by decide) hi hX⟩ rfl ?_
  refine ev_callr rfl rfl rfl r1 ?_
  iterate 2 refine ev_go rfl ?_
  refine ev_callr rfl rfl rfl pm_thrown ?_
  refine ev_go rfl ?_
  rw [r4]
  refine ev_if rfl (fun h767 => ?_) (fun h767 => ?_)
  · refine ev_go rfl ?_
    refine ev_if rfl (fun h774 => ?_) (fun h774 => ?_)
    · iterate 6 refine ev_go rfl ?_
      show mj_Ev _ _ _ _ _ _ _ [mv_i (lg_cmp M2.2 v.toInt64)] _ _ _
      rw [r3.1, w5 h774, lg_same]
      iterate 2 refine ev_go rfl ?_
      refine ev_lo ?_ hR
      funext z
      by_cases z0 : z = 0
      · subst z0
        first
          | rfl
          | simp [mj_up]
      by_cases z1 : z = 1
      · subst z1
        first
          | rfl
          | simp [mj_up]
      by_cases z2 : z = 2
      · subst z2
        first
          | rfl
          | simp [mj_up]
      by_cases z3 : z = 3
      · subst z3
        first
          | rfl
          | simp [mj_up]
      by_cases z4 : z = 4
      · subst z4
        first
          | rfl
          | simp [mj_up]
      by_cases z5 : z = 5
      · subst z5
        first
          | rfl
          | simp [mj_up]
      by_cases z6 : z = 6
      · subst z6
        first
          | rfl
          | simp [mj_up]
      first
        | (simp [mj_up, z0, z1, z2, z3, z4, z5, z6]; done)
        | (simp [mj_up, z0, z1, z2, z3, z4, z5, z6]; intro q; first | exact absurd q z0 | exact absurd q z1 | exact absurd q z2 | exact absurd q z3 | exact absurd q z4 | exact absurd q z5 | exact absurd q z6)
    · refine ev_go rfl ?_
      refine ev_lo ?_ hR
      funext z
      by_cases z0 : z = 0
      · subst z0
        first
          | rfl
          | simp [mj_up]
      by_cases z1 : z = 1
      · subst z1
        first
          | rfl
          | simp [mj_up]
      by_cases z2 : z = 2
      · subst z2
        first
          | rfl
          | simp [mj_up]
      by_cases z3 : z = 3
      · subst z3
        first
          | rfl
          | simp [mj_up]
      by_cases z4 : z = 4
      · subst z4
        first
          | rfl
          | simp [mj_up]
      by_cases z5 : z = 5
      · subst z5
        first
          | rfl
          | simp [mj_up]
      by_cases z6 : z = 6
      · subst z6
        first
          | rfl
          | simp [mj_up]
      first
        | (simp [mj_up, z0, z1, z2, z3, z4, z5, z6]; done)
        | (simp [mj_up, z0, z1, z2, z3, z4, z5, z6]; intro q; first | exact absurd q z0 | exact absurd q z1 | exact absurd q z2 | exact absurd q z3 | exact absurd q z4 | exact absurd q z5 | exact absurd q z6)
  · exact absurd rfl h767
theorem lc_search (h : jq_ A M) (hi : i + 6 ≤ X.1) (hX : X.1 ≤ 3072) : ca_ X d 792 i lo M k := by
  obtain ⟨c, v, A', hv', hrs, hcs⟩ := ag_search (X := X) (d := d) h.1 (X.2 (nI i + nI 1).toNatClampNeg) (X.2 (nI i + nI 2).toNatClampNeg)
  obtain ⟨hv, hm, hc⟩ := h
  obtain ⟨M1, k1, w1, w2, w3, w4, w5⟩ := hcs M hc
  obtain ⟨M2, r1, r2, r3, r4⟩ := hrs M1 (hm.fc w4)
  refine ⟨A', M2, k + k1 + 0 + 0, mj_up (mj_up lo 5 (mv_i c)) 6 (mv_i v), ⟨hv', r2, w3.fm r3⟩, by omega, fun R hR => ?_⟩
  iterate 5 refine ev_go rfl ?_
  refine ev_ok ⟨rfl, ix_ (j := 1) (by decide) hi hX⟩ rfl ?_
  iterate 4 refine ev_go rfl ?_
  refine ev_ok ⟨rfl, ix_ (j := 2) (by decide) hi hX⟩ rfl ?_
  refine ev_go rfl ?_
  refine ev_callr rfl rfl rfl w1 ?_
  iterate 6 refine ev_go rfl ?_
  refine ev_ok ⟨rfl, ix_ (j := 1) (by decide) hi hX⟩ rfl ?_
  iterate 4 refine ev_go rfl ?_
  refine ev_ok ⟨rfl, ix_ (j := 2) (by decide) hi hX⟩ rfl ?_
  refine ev_callr rfl rfl rfl r1 ?_
  iterate 2 refine ev_go rfl ?_
  refine ev_callr rfl rfl rfl pm_thrown ?_
  refine ev_go rfl ?_
  rw [r4]
  refine ev_if rfl (fun h835 => ?_) (fun h835 => ?_)
  · refine ev_go rfl ?_
    refine ev_if rfl (fun h842 => ?_) (fun h842 => ?_)
    · iterate 6 refine ev_go rfl ?_
      show mj_Ev _ _ _ _ _ _ _ [mv_i (lg_cmp M2.2 v.toInt64)] _ _ _
      rw [r3.1, w5 h842, lg_same]
      iterate 2 refine ev_go rfl ?_
      refine ev_lo ?_ hR
      funext z
      by_cases z0 : z = 0
      · subst z0
        first
          | rfl
          | simp [mj_up]
      by_cases z1 : z = 1
      · subst z1
        first
          | rfl
          | simp [mj_up]
      by_cases z2 : z = 2
      · subst z2
        first
          | rfl
          | simp [mj_up]
      by_cases z3 : z = 3
      · subst z3
        first
          | rfl
          | simp [mj_up]
      by_cases z4 : z = 4
      · subst z4
        first
          | rfl
          | simp [mj_up]
      by_cases z5 : z = 5
      · subst z5
        first
          | rfl
          | simp [mj_up]
      by_cases z6 : z = 6
      · subst z6
        first
          | rfl
          | simp [mj_up]
      first
        | (simp [mj_up, z0, z1, z2, z3, z4, z5, z6]; done)
        | (simp [mj_up, z0, z1, z2, z3, z4, z5, z6]; intro q; first | exact absurd q z0 | exact absurd q z1 | exact absurd q z2 | exact absurd q z3 | exact absurd q z4 | exact absurd q z5 | exact absurd q z6)
    · refine ev_go rfl ?_
      refine ev_lo ?_ hR
      funext z
      by_cases z0 : z = 0
      · subst z0
        first
          | rfl
          | simp [mj_up]
      by_cases z1 : z = 1
      · subst z1
        first
          | rfl
          | simp [mj_up]
      by_cases z2 : z = 2
      · subst z2
        first
          | rfl
          | simp [mj_up]
      by_cases z3 : z = 3
      · subst z3
        first
          | rfl
          | simp [mj_up]
      by_cases z4 : z = 4
      · subst z4
        first
          | rfl
          | simp [mj_up]
      by_cases z5 : z = 5
      · subst z5
        first
          | rfl
          | simp [mj_up]
      by_cases z6 : z = 6
      · subst z6
        first
          | rfl
          | simp [mj_up]
      first
        | (simp [mj_up, z0, z1, z2, z3, z4, z5, z6]; done)
        | (simp [mj_up, z0, z1, z2, z3, z4, z5, z6]; intro q; first | exact absurd q z0 | exact absurd q z1 | exact absurd q z2 | exact absurd q z3 | exact absurd q z4 | exact absurd q z5 | exact absurd q z6)
  · exact absurd rfl h835
theorem lc_often (h : jq_ A M) (hi : i + 6 ≤ X.1) (hX : X.1 ≤ 3072) : ca_ X d 899 i lo M k := by
  obtain ⟨c, v, A', hv', hrs, hcs⟩ := ag_often (X := X) (d := d) h.1 (X.2 (nI i + nI 1).toNatClampNeg)
  obtain ⟨hv, hm, hc⟩ := h
  obtain ⟨M1, k1, w1, w2, w3, w4, w5⟩ := hcs M hc
  obtain ⟨M2, r1, r2, r3, r4⟩ := hrs M1 (hm.fc w4)
  refine ⟨A', M2, k + k1 + 0 + 0, mj_up (mj_up lo 5 (mv_i c)) 6 (mv_i v), ⟨hv', r2, w3.fm r3⟩, by omega, fun R hR => ?_⟩
  iterate 5 refine ev_go rfl ?_
  refine ev_ok ⟨rfl, ix_ (j := 1) (by decide) hi hX⟩ rfl ?_
  refine ev_go rfl ?_
  refine ev_callr rfl rfl rfl w1 ?_
  iterate 6 refine ev_go rfl ?_
  refine ev_ok ⟨rfl, ix_ (j := 1) (by decide) hi hX⟩ rfl ?_
  refine ev_callr rfl rfl rfl r1 ?_
  iterate 2 refine ev_go rfl ?_
  refine ev_callr rfl rfl rfl pm_thrown ?_
  refine ev_go rfl ?_
  rw [r4]
  refine ev_if rfl (fun h930 => ?_) (fun h930 => ?_)
  · refine ev_go rfl ?_
    refine ev_if rfl (fun h937 => ?_) (fun h937 => ?_)
    · iterate 6 refine ev_go rfl ?_
      show mj_Ev _ _ _ _ _ _ _ [mv_i (lg_cmp M2.2 v.toInt64)] _ _ _
      rw [r3.1, w5 h937, lg_same]
      iterate 2 refine ev_go rfl ?_
      refine ev_lo ?_ hR
      funext z
      by_cases z0 : z = 0
      · subst z0
        first
          | rfl
          | simp [mj_up]
      by_cases z1 : z = 1
      · subst z1
        first
          | rfl
          | simp [mj_up]
      by_cases z2 : z = 2
      · subst z2
        first
          | rfl
          | simp [mj_up]
      by_cases z3 : z = 3
      · subst z3
        first
          | rfl
          | simp [mj_up]
      by_cases z4 : z = 4
      · subst z4
        first
          | rfl
          | simp [mj_up]
      by_cases z5 : z = 5
      · subst z5
        first
          | rfl
          | simp [mj_up]
      by_cases z6 : z = 6
      · subst z6
        first
          | rfl
          | simp [mj_up]
      first
        | (simp [mj_up, z0, z1, z2, z3, z4, z5, z6]; done)
        | (simp [mj_up, z0, z1, z2, z3, z4, z5, z6]; intro q; first | exact absurd q z0 | exact absurd q z1 | exact absurd q z2 | exact absurd q z3 | exact absurd q z4 | exact absurd q z5 | exact absurd q z6)
    · refine ev_go rfl ?_
      refine ev_lo ?_ hR
      funext z
      by_cases z0 : z = 0
      · subst z0
        first
          | rfl
          | simp [mj_up]
      by_cases z1 : z = 1
      · subst z1
        first
          | rfl
          | simp [mj_up]
      by_cases z2 : z = 2
      · subst z2
        first
          | rfl
          | simp [mj_up]
      by_cases z3 : z = 3
      · subst z3
        first
          | rfl
          | simp [mj_up]
      by_cases z4 : z = 4
      · subst z4
        first
          | rfl
          | simp [mj_up]
      by_cases z5 : z = 5
      · subst z5
        first
          | rfl
          | simp [mj_up]
      by_cases z6 : z = 6
      · subst z6
        first
          | rfl
          | simp [mj_up]
      first
        | (simp [mj_up, z0, z1, z2, z3, z4, z5, z6]; done)
        | (simp [mj_up, z0, z1, z2, z3, z4, z5, z6]; intro q; first | exact absurd q z0 | exact absurd q z1 | exact absurd q z2 | exact absurd q z3 | exact absurd q z4 | exact absurd q z5 | exact absurd q z6)
  · exact absurd rfl h930
theorem lc_found (h : jq_ A M) (hi : i + 6 ≤ X.1) (hX : X.1 ≤ 3072) : ca_ X d 955 i lo M k := by
  obtain ⟨c, v, A', hv', hrs, hcs⟩ := ag_found (X := X) (d := d) h.1 (X.2 (nI i + nI 1).toNatClampNeg) (X.2 (nI i + nI 2).toNatClampNeg)
  obtain ⟨hv, hm, hc⟩ := h
  obtain ⟨M1, k1, w1, w2, w3, w4, w5⟩ := hcs M hc
  obtain ⟨M2, r1, r2, r3, r4⟩ := hrs M1 (hm.fc w4)
  refine ⟨A', M2, k + k1 + 0 + 0, mj_up (mj_up lo 5 (mv_i c)) 6 (mv_i v), ⟨hv', r2, w3.fm r3⟩, by omega, fun R hR => ?_⟩
  iterate 5 refine ev_go rfl ?_
  refine ev_ok ⟨rfl, ix_ (j := 1) (by decide) hi hX⟩ rfl ?_
  iterate 4 refine ev_go rfl ?_
  refine ev_ok ⟨rfl, ix_ (j := 2) (by decide) hi hX⟩ rfl ?_
  refine ev_go rfl ?_
  refine ev_callr rfl rfl rfl w1 ?_
  iterate 6 refine ev_go rfl ?_
  refine ev_ok ⟨rfl, ix_ (j := 1) (by decide) hi hX⟩ rfl ?_
  iterate 4 refine ev_go rfl ?_
  refine ev_ok ⟨rfl, ix_ (j := 2) (by decide) hi hX⟩ rfl ?_
  refine ev_callr rfl rfl rfl r1 ?_
  iterate 2 refine ev_go rfl ?_
  refine ev_callr rfl rfl rfl pm_thrown ?_
  refine ev_go rfl ?_
  rw [r4]
  refine ev_if rfl (fun h998 => ?_) (fun h998 => ?_)
  · refine ev_go rfl ?_
    refine ev_if rfl (fun h1005 => ?_) (fun h1005 => ?_)
    · iterate 6 refine ev_go rfl ?_
      show mj_Ev _ _ _ _ _ _ _ [mv_i (lg_cmp M2.2 v.toInt64)] _ _ _
      rw [r3.1, w5 h1005, lg_same]
      iterate 2 refine ev_go rfl ?_
      refine ev_lo ?_ hR
      funext z
      by_cases z0 : z = 0
      · subst z0
        first
          | rfl
          | simp [mj_up]
      by_cases z1 : z = 1
      · subst z1
        first
          | rfl
          | simp [mj_up]
      by_cases z2 : z = 2
      · subst z2
        first
          | rfl
          | simp [mj_up]
      by_cases z3 : z = 3
      · subst z3
        first
          | rfl
          | simp [mj_up]
      by_cases z4 : z = 4
      · subst z4
        first
          | rfl
          | simp [mj_up]
      by_cases z5 : z = 5
      · subst z5
        first
          | rfl
          | simp [mj_up]
      by_cases z6 : z = 6
      · subst z6
        first
          | rfl
          | simp [mj_up]
      first
        | (simp [mj_up, z0, z1, z2, z3, z4, z5, z6]; done)
        | (simp [mj_up, z0, z1, z2, z3, z4, z5, z6]; intro q; first | exact absurd q z0 | exact absurd q z1 | exact absurd q z2 | exact absurd q z3 | exact absurd q z4 | exact absurd q z5 | exact absurd q z6)
    · refine ev_go rfl ?_
      refine ev_lo ?_ hR
      funext z
      by_cases z0 : z = 0
      · subst z0
        first
          | rfl
          | simp [mj_up]
      by_cases z1 : z = 1
      · subst z1
        first
          | rfl
          | simp [mj_up]
      by_cases z2 : z = 2
      · subst z2
        first
          | rfl
          | simp [mj_up]
      by_cases z3 : z = 3
      · subst z3
        first
          | rfl
          | simp [mj_up]
      by_cases z4 : z = 4
      · subst z4
        first
          | rfl
          | simp [mj_up]
      by_cases z5 : z = 5
      · subst z5
        first
          | rfl
          | simp [mj_up]
      by_cases z6 : z = 6
      · subst z6
        first
          | rfl
          | simp [mj_up]
      first
        | (simp [mj_up, z0, z1, z2, z3, z4, z5, z6]; done)
        | (simp [mj_up, z0, z1, z2, z3, z4, z5, z6]; intro q; first | exact absurd q z0 | exact absurd q z1 | exact absurd q z2 | exact absurd q z3 | exact absurd q z4 | exact absurd q z5 | exact absurd q z6)
  · exact absurd rfl h998
theorem lc_accept (h : jq_ A M) (hi : i + 6 ≤ X.1) (hX : X.1 ≤ 3072) : ca_ X d 1023 i lo M k := by
  obtain ⟨c, v, A', hv', hrs, hcs⟩ := ag_accept (X := X) (d := d) h.1 
  obtain ⟨hv, hm, hc⟩ := h
  obtain ⟨M1, k1, w1, w2, w3, w4, w5⟩ := hcs M hc
  obtain ⟨M2, r1, r2, r3, r4⟩ := hrs M1 (hm.fc w4)
  refine ⟨A', M2, k + k1 + 0 + 0, mj_up (mj_up lo 5 (mv_i c)) 6 (mv_i v), ⟨hv', r2, w3.fm r3⟩, by omega, fun R hR => ?_⟩
  iterate 2 refine ev_go rfl ?_
  refine ev_callr rfl rfl rfl w1 ?_
  iterate 2 refine ev_go rfl ?_
  refine ev_callr rfl rfl rfl r1 ?_
  iterate 2 refine ev_go rfl ?_
  refine ev_callr rfl rfl rfl pm_thrown ?_
  refine ev_go rfl ?_
  rw [r4]
  refine ev_if rfl (fun h1042 => ?_) (fun h1042 => ?_)
  · refine ev_go rfl ?_
    refine ev_if rfl (fun h1049 => ?_) (fun h1049 => ?_)
    · iterate 6 refine ev_go rfl ?_
      show mj_Ev _ _ _ _ _ _ _ [mv_i (lg_cmp M2.2 v.toInt64)] _ _ _
      rw [r3.1, w5 h1049, lg_same]
      iterate 2 refine ev_go rfl ?_
      refine ev_lo ?_ hR
      funext z
      by_cases z0 : z = 0
      · subst z0
        first
          | rfl
          | simp [mj_up]
      by_cases z1 : z = 1
      · subst z1
        first
          | rfl
          | simp [mj_up]
      by_cases z2 : z = 2
      · subst z2
        first
          | rfl
          | simp [mj_up]
      by_cases z3 : z = 3
      · subst z3
        first
          | rfl
          | simp [mj_up]
      by_cases z4 : z = 4
      · subst z4
        first
          | rfl
          | simp [mj_up]
      by_cases z5 : z = 5
      · subst z5
        first
          | rfl
          | simp [mj_up]
      by_cases z6 : z = 6
      · subst z6
        first
          | rfl
          | simp [mj_up]
      first
        | (simp [mj_up, z0, z1, z2, z3, z4, z5, z6]; done)
        | (simp [mj_up, z0, z1, z2, z3, z4, z5, z6]; intro q; first | exact absurd q z0 | exact absurd q z1 | exact absurd q z2 | exact absurd q z3 | exact absurd q z4 | exact absurd q z5 | exact absurd q z6)
    · refine ev_go rfl ?_
      refine ev_lo ?_ hR
      funext z
      by_cases z0 : z = 0
      · subst z0
        first
          | rfl
          | simp [mj_up]
      by_cases z1 : z = 1
      · subst z1
        first
          | rfl
          | simp [mj_up]
      by_cases z2 : z = 2
      · subst z2
        first
          | rfl
          | simp [mj_up]
      by_cases z3 : z = 3
      · subst z3
        first
          | rfl
          | simp [mj_up]
      by_cases z4 : z = 4
      · subst z4
        first
          | rfl
          | simp [mj_up]
      by_cases z5 : z = 5
      · subst z5
        first
          | rfl
          | simp [mj_up]
      by_cases z6 : z = 6
      · subst z6
        first
          | rfl
          | simp [mj_up]
      first
        | (simp [mj_up, z0, z1, z2, z3, z4, z5, z6]; done)
        | (simp [mj_up, z0, z1, z2, z3, z4, z5, z6]; intro q; first | exact absurd q z0 | exact absurd q z1 | exact absurd q z2 | exact absurd q z3 | exact absurd q z4 | exact absurd q z5 | exact absurd q z6)
  · exact absurd rfl h1042
theorem lc_back (h : jq_ A M) (hi : i + 6 ≤ X.1) (hX : X.1 ≤ 3072) : ca_ X d 1067 i lo M k := by
  obtain ⟨c, v, A', hv', hrs, hcs⟩ := ag_back (X := X) (d := d) h.1 (X.2 (nI i + nI 1).toNatClampNeg)
  obtain ⟨hv, hm, hc⟩ := h
  obtain ⟨M1, k1, w1, w2, w3, w4, w5⟩ := hcs M hc
  obtain ⟨M2, r1, r2, r3, r4⟩ := hrs M1 (hm.fc w4)
  refine ⟨A', M2, k + k1 + 0 + 0, mj_up (mj_up lo 5 (mv_i c)) 6 (mv_i v), ⟨hv', r2, w3.fm r3⟩, by omega, fun R hR => ?_⟩
  iterate 5 refine ev_go rfl ?_
  refine ev_ok ⟨rfl, ix_ (j := 1) (by decide) hi hX⟩ rfl ?_
  refine ev_go rfl ?_
  refine ev_callr rfl rfl rfl w1 ?_
  iterate 6 refine ev_go rfl ?_
  refine ev_ok ⟨rfl, ix_ (j := 1) (by decide) hi hX⟩ rfl ?_
  refine ev_callr rfl rfl rfl r1 ?_
  iterate 2 refine ev_go rfl ?_
  refine ev_callr rfl rfl rfl pm_thrown ?_
  refine ev_go rfl ?_
  rw [r4]
  refine ev_if rfl (fun h1098 => ?_) (fun h1098 => ?_)
  · refine ev_go rfl ?_
    refine ev_if rfl (fun h1105 => ?_) (fun h1105 => ?_)
    · iterate 6 refine ev_go rfl ?_
      show mj_Ev _ _ _ _ _ _ _ [mv_i (lg_cmp M2.2 v.toInt64)] _ _ _
      rw [r3.1, w5 h1105, lg_same]
      iterate 2 refine ev_go rfl ?_
      refine ev_lo ?_ hR
      funext z
      by_cases z0 : z = 0
      · subst z0
        first
          | rfl
          | simp [mj_up]
      by_cases z1 : z = 1
      · subst z1
        first
          | rfl
          | simp [mj_up]
      by_cases z2 : z = 2
      · subst z2
        first
          | rfl
          | simp [mj_up]
      by_cases z3 : z = 3
      · subst z3
        first
          | rfl
          | simp [mj_up]
      by_cases z4 : z = 4
      · subst z4
        first
          | rfl
          | simp [mj_up]
      by_cases z5 : z = 5
      · subst z5
        first
          | rfl
          | simp [mj_up]
      by_cases z6 : z = 6
      · subst z6
        first
          | rfl
          | simp [mj_up]
      first
        | (simp [mj_up, z0, z1, z2, z3, z4, z5, z6]; done)
        | (simp [mj_up, z0, z1, z2, z3, z4, z5, z6]; intro q; first | exact absurd q z0 | exact absurd q z1 | exact absurd q z2 | exact absurd q z3 | exact absurd q z4 | exact absurd q z5 | exact absurd q z6)
    · refine ev_go rfl ?_
      refine ev_lo ?_ hR
      funext z
      by_cases z0 : z = 0
      · subst z0
        first
          | rfl
          | simp [mj_up]
      by_cases z1 : z = 1
      · subst z1
        first
          | rfl
          | simp [mj_up]
      by_cases z2 : z = 2
      · subst z2
        first
          | rfl
          | simp [mj_up]
      by_cases z3 : z = 3
      · subst z3
        first
          | rfl
          | simp [mj_up]
      by_cases z4 : z = 4
      · subst z4
        first
          | rfl
          | simp [mj_up]
      by_cases z5 : z = 5
      · subst z5
        first
          | rfl
          | simp [mj_up]
      by_cases z6 : z = 6
      · subst z6
        first
          | rfl
          | simp [mj_up]
      first
        | (simp [mj_up, z0, z1, z2, z3, z4, z5, z6]; done)
        | (simp [mj_up, z0, z1, z2, z3, z4, z5, z6]; intro q; first | exact absurd q z0 | exact absurd q z1 | exact absurd q z2 | exact absurd q z3 | exact absurd q z4 | exact absurd q z5 | exact absurd q z6)
  · exact absurd rfl h1098
theorem lc_share (h : jq_ A M) (hi : i + 6 ≤ X.1) (hX : X.1 ≤ 3072) : ca_ X d 1123 i lo M k := by
  obtain ⟨c, v, A', hv', hrs, hcs⟩ := ag_share (X := X) (d := d) h.1 (X.2 (nI i + nI 1).toNatClampNeg) (X.2 (nI i + nI 2).toNatClampNeg)
  obtain ⟨hv, hm, hc⟩ := h
  obtain ⟨M1, k1, w1, w2, w3, w4, w5⟩ := hcs M hc
  obtain ⟨M2, r1, r2, r3, r4⟩ := hrs M1 (hm.fc w4)
  refine ⟨A', M2, k + k1 + 0 + 0, mj_up (mj_up lo 5 (mv_i c)) 6 (mv_i v), ⟨hv', r2, w3.fm r3⟩, by omega, fun R hR => ?_⟩
  iterate 5 refine ev_go rfl ?_
  refine ev_ok ⟨rfl, ix_ (j := 1) (by decide) hi hX⟩ rfl ?_
  iterate 4 refine ev_go rfl ?_
  refine ev_ok ⟨rfl, ix_ (j := 2) (by decide) hi hX⟩ rfl ?_
  refine ev_go rfl ?_
  refine ev_callr rfl rfl rfl w1 ?_
  iterate 6 refine ev_go rfl ?_
  refine ev_ok ⟨rfl, ix_ (j := 1) (by decide) hi hX⟩ rfl ?_
  iterate 4 refine ev_go rfl ?_
  refine ev_ok ⟨rfl, ix_ (j := 2) (by decide) hi hX⟩ rfl ?_
  refine ev_callr rfl rfl rfl r1 ?_
  iterate 2 refine ev_go rfl ?_
  refine ev_callr rfl rfl rfl pm_thrown ?_
  refine ev_go rfl ?_
  rw [r4]
  refine ev_if rfl (fun h1166 => ?_) (fun h1166 => ?_)
  · refine ev_go rfl ?_
    refine ev_if rfl (fun h1173 => ?_) (fun h1173 => ?_)
    · iterate 6 refine ev_go rfl ?_
      show mj_Ev _ _ _ _ _ _ _ [mv_i (lg_cmp M2.2 v.toInt64)] _ _ _
      rw [r3.1, w5 h1173, lg_same]
      iterate 2 refine ev_go rfl ?_
      refine ev_lo ?_ hR
      funext z
      by_cases z0 : z = 0
      · subst z0
        first
          | rfl
          | simp [mj_up]
      by_cases z1 : z = 1
      · subst z1
        first
          | rfl
          | simp [mj_up]
      by_cases z2 : z = 2
      · subst z2
        first
          | rfl
          | simp [mj_up]
      by_cases z3 : z = 3
      · subst z3
        first
          | rfl
          | simp [mj_up]
      by_cases z4 : z = 4
      · subst z4
        first
          | rfl
          | simp [mj_up]
      by_cases z5 : z = 5
      · subst z5
        first
          | rfl
          | simp [mj_up]
      by_cases z6 : z = 6
      · subst z6
        first
          | rfl
          | simp [mj_up]
      first
        | (simp [mj_up, z0, z1, z2, z3, z4, z5, z6]; done)
        | (simp [mj_up, z0, z1, z2, z3, z4, z5, z6]; intro q; first | exact absurd q z0 | exact absurd q z1 | exact absurd q z2 | exact absurd q z3 | exact absurd q z4 | exact absurd q z5 | exact absurd q z6)
    · refine ev_go rfl ?_
      refine ev_lo ?_ hR
      funext z
      by_cases z0 : z = 0
      · subst z0
        first
          | rfl
          | simp [mj_up]
      by_cases z1 : z = 1
      · subst z1
        first
          | rfl
          | simp [mj_up]
      by_cases z2 : z = 2
      · subst z2
        first
          | rfl
          | simp [mj_up]
      by_cases z3 : z = 3
      · subst z3
        first
          | rfl
          | simp [mj_up]
      by_cases z4 : z = 4
      · subst z4
        first
          | rfl
          | simp [mj_up]
      by_cases z5 : z = 5
      · subst z5
        first
          | rfl
          | simp [mj_up]
      by_cases z6 : z = 6
      · subst z6
        first
          | rfl
          | simp [mj_up]
      first
        | (simp [mj_up, z0, z1, z2, z3, z4, z5, z6]; done)
        | (simp [mj_up, z0, z1, z2, z3, z4, z5, z6]; intro q; first | exact absurd q z0 | exact absurd q z1 | exact absurd q z2 | exact absurd q z3 | exact absurd q z4 | exact absurd q z5 | exact absurd q z6)
  · exact absurd rfl h1166
theorem lc_told (h : jq_ A M) (hi : i + 6 ≤ X.1) (hX : X.1 ≤ 3072) : ca_ X d 1191 i lo M k := by
  obtain ⟨c, v, A', hv', hrs, hcs⟩ := ag_told (X := X) (d := d) h.1 (X.2 (nI i + nI 1).toNatClampNeg) (X.2 (nI i + nI 2).toNatClampNeg)
  obtain ⟨hv, hm, hc⟩ := h
  obtain ⟨M1, k1, w1, w2, w3, w4, w5⟩ := hcs M hc
  obtain ⟨M2, r1, r2, r3, r4⟩ := hrs M1 (hm.fc w4)
  refine ⟨A', M2, k + k1 + 0 + 0, mj_up (mj_up lo 5 (mv_i c)) 6 (mv_i v), ⟨hv', r2, w3.fm r3⟩, by omega, fun R hR => ?_⟩
  iterate 5 refine ev_go rfl ?_
  refine ev_ok ⟨rfl, ix_ (j := 1) (by decide) hi hX⟩ rfl ?_
  iterate 4 refine ev_go rfl ?_
  refine ev_ok ⟨rfl, ix_ (j := 2) (by decide) hi hX⟩ rfl ?_
  refine ev_go rfl ?_
  refine ev_callr rfl rfl rfl w1 ?_
  iterate 6 refine ev_go rfl ?_
  refine ev_ok ⟨rfl, ix_ (j := 1) (by decide) hi hX⟩ rfl ?_
  iterate 4 refine ev_go rfl ?_
  refine ev_ok ⟨rfl, ix_ (j := 2) (by decide) hi hX⟩ rfl ?_
  refine ev_callr rfl rfl rfl r1 ?_
  iterate 2 refine ev_go rfl ?_
  refine ev_callr rfl rfl rfl pm_thrown ?_
  refine ev_go rfl ?_
  rw [r4]
  refine ev_if rfl (fun h1234 => ?_) (fun h1234 => ?_)
  · refine ev_go rfl ?_
    refine ev_if rfl (fun h1241 => ?_) (fun h1241 => ?_)
    · iterate 6 refine ev_go rfl ?_
      show mj_Ev _ _ _ _ _ _ _ [mv_i (lg_cmp M2.2 v.toInt64)] _ _ _
      rw [r3.1, w5 h1241, lg_same]
      iterate 2 refine ev_go rfl ?_
      refine ev_lo ?_ hR
      funext z
      by_cases z0 : z = 0
      · subst z0
        first
          | rfl
          | simp [mj_up]
      by_cases z1 : z = 1
      · subst z1
        first
          | rfl
          | simp [mj_up]
      by_cases z2 : z = 2
      · subst z2
        first
          | rfl
          | simp [mj_up]
      by_cases z3 : z = 3
      · subst z3
        first
          | rfl
          | simp [mj_up]
      by_cases z4 : z = 4
      · subst z4
        first
          | rfl
          | simp [mj_up]
      by_cases z5 : z = 5
      · subst z5
        first
          | rfl
          | simp [mj_up]
      by_cases z6 : z = 6
      · subst z6
        first
          | rfl
          | simp [mj_up]
      first
        | (simp [mj_up, z0, z1, z2, z3, z4, z5, z6]; done)
        | (simp [mj_up, z0, z1, z2, z3, z4, z5, z6]; intro q; first | exact absurd q z0 | exact absurd q z1 | exact absurd q z2 | exact absurd q z3 | exact absurd q z4 | exact absurd q z5 | exact absurd q z6)
    · refine ev_go rfl ?_
      refine ev_lo ?_ hR
      funext z
      by_cases z0 : z = 0
      · subst z0
        first
          | rfl
          | simp [mj_up]
      by_cases z1 : z = 1
      · subst z1
        first
          | rfl
          | simp [mj_up]
      by_cases z2 : z = 2
      · subst z2
        first
          | rfl
          | simp [mj_up]
      by_cases z3 : z = 3
      · subst z3
        first
          | rfl
          | simp [mj_up]
      by_cases z4 : z = 4
      · subst z4
        first
          | rfl
          | simp [mj_up]
      by_cases z5 : z = 5
      · subst z5
        first
          | rfl
          | simp [mj_up]
      by_cases z6 : z = 6
      · subst z6
        first
          | rfl
          | simp [mj_up]
      first
        | (simp [mj_up, z0, z1, z2, z3, z4, z5, z6]; done)
        | (simp [mj_up, z0, z1, z2, z3, z4, z5, z6]; intro q; first | exact absurd q z0 | exact absurd q z1 | exact absurd q z2 | exact absurd q z3 | exact absurd q z4 | exact absurd q z5 | exact absurd q z6)
  · exact absurd rfl h1234
theorem lc_of (h : jq_ A M) (hi : i + 6 ≤ X.1) (hX : X.1 ≤ 3072) : ca_ X d 1259 i lo M k := by
  obtain ⟨c, v, A', hv', hrs, hcs⟩ := ag_of (X := X) (d := d) h.1 (X.2 (nI i + nI 1).toNatClampNeg) (X.2 (nI i + nI 2).toNatClampNeg) (X.2 (nI i + nI 3).toNatClampNeg)
  obtain ⟨hv, hm, hc⟩ := h
  obtain ⟨M1, k1, w1, w2, w3, w4, w5⟩ := hcs M hc
  obtain ⟨M2, r1, r2, r3, r4⟩ := hrs M1 (hm.fc w4)
  refine ⟨A', M2, k + k1 + 0 + 0, mj_up (mj_up lo 5 (mv_i c)) 6 (mv_i v), ⟨hv', r2, w3.fm r3⟩, by omega, fun R hR => ?_⟩
  iterate 5 refine ev_go rfl ?_
  refine ev_ok ⟨rfl, ix_ (j := 1) (by decide) hi hX⟩ rfl ?_
  iterate 4 refine ev_go rfl ?_
  refine ev_ok ⟨rfl, ix_ (j := 2) (by decide) hi hX⟩ rfl ?_
  iterate 4 refine ev_go rfl ?_
  refine ev_ok ⟨rfl, ix_ (j := 3) (by decide) hi hX⟩ rfl ?_
  refine ev_go rfl ?_
  refine ev_callr rfl rfl rfl w1 ?_
  iterate 6 refine ev_go rfl ?_
  refine ev_ok ⟨rfl, ix_ (j := 1) (by decide) hi hX⟩ rfl ?_
  iterate 4 refine ev_go rfl ?_
  refine ev_ok ⟨rfl, ix_ (j := 2) (by decide) hi hX⟩ rfl ?_
  iterate 4 refine ev_go rfl ?_
  refine ev_ok ⟨rfl, ix_ (j := 3) (by decide) hi hX⟩ rfl ?_
  refine ev_callr rfl rfl rfl r1 ?_
  iterate 2 refine ev_go rfl ?_
  refine ev_callr rfl rfl rfl pm_thrown ?_
  refine ev_go rfl ?_
  rw [r4]
  refine ev_if rfl (fun h1314 => ?_) (fun h1314 => ?_)
  · refine ev_go rfl ?_
    refine ev_if rfl (fun h1321 => ?_) (fun h1321 => ?_)
    · iterate 6 refine ev_go rfl ?_
      show mj_Ev _ _ _ _ _ _ _ [mv_i (lg_cmp M2.2 v.toInt64)] _ _ _
      rw [r3.1, w5 h1321, lg_same]
      iterate 2 refine ev_go rfl ?_
      refine ev_lo ?_ hR
      funext z
      by_cases z0 : z = 0
      · subst z0
        first
          | rfl
          | simp [mj_up]
      by_cases z1 : z = 1
      · subst z1
        first
          | rfl
          | simp [mj_up]
      by_cases z2 : z = 2
      · subst z2
        first
          | rfl
          | simp [mj_up]
      by_cases z3 : z = 3
      · subst z3
        first
          | rfl
          | simp [mj_up]
      by_cases z4 : z = 4
      · subst z4
        first
          | rfl
          | simp [mj_up]
      by_cases z5 : z = 5
      · subst z5
        first
          | rfl
          | simp [mj_up]
      by_cases z6 : z = 6
      · subst z6
        first
          | rfl
          | simp [mj_up]
      first
        | (simp [mj_up, z0, z1, z2, z3, z4, z5, z6]; done)
        | (simp [mj_up, z0, z1, z2, z3, z4, z5, z6]; intro q; first | exact absurd q z0 | exact absurd q z1 | exact absurd q z2 | exact absurd q z3 | exact absurd q z4 | exact absurd q z5 | exact absurd q z6)
    · refine ev_go rfl ?_
      refine ev_lo ?_ hR
      funext z
      by_cases z0 : z = 0
      · subst z0
        first
          | rfl
          | simp [mj_up]
      by_cases z1 : z = 1
      · subst z1
        first
          | rfl
          | simp [mj_up]
      by_cases z2 : z = 2
      · subst z2
        first
          | rfl
          | simp [mj_up]
      by_cases z3 : z = 3
      · subst z3
        first
          | rfl
          | simp [mj_up]
      by_cases z4 : z = 4
      · subst z4
        first
          | rfl
          | simp [mj_up]
      by_cases z5 : z = 5
      · subst z5
        first
          | rfl
          | simp [mj_up]
      by_cases z6 : z = 6
      · subst z6
        first
          | rfl
          | simp [mj_up]
      first
        | (simp [mj_up, z0, z1, z2, z3, z4, z5, z6]; done)
        | (simp [mj_up, z0, z1, z2, z3, z4, z5, z6]; intro q; first | exact absurd q z0 | exact absurd q z1 | exact absurd q z2 | exact absurd q z3 | exact absurd q z4 | exact absurd q z5 | exact absurd q z6)
  · exact absurd rfl h1314
theorem lc_closed (h : jq_ A M) (hi : i + 6 ≤ X.1) (hX : X.1 ≤ 3072) : ca_ X d 424 i lo M k := by
  by_cases hb : X.2 (nI i + nI 2).toNatClampNeg = 0
  · obtain ⟨c, v, A', hv', hrs, hcs⟩ := ag_closed (X := X) (d := d) h.1 (X.2 (nI i + nI 1).toNatClampNeg) 0 (by decide)
    obtain ⟨hv, hm, hc⟩ := h
    obtain ⟨M1, k1, w1, w2, w3, w4, w5⟩ := hcs M hc
    obtain ⟨M2, r1, r2, r3, r4⟩ := hrs M1 (hm.fc w4)
    refine ⟨A', M2, k + k1 + 0 + 0, mj_up (mj_up lo 5 (mv_i c)) 6 (mv_i v), ⟨hv', r2, w3.fm r3⟩, by omega, fun R hR => ?_⟩
    iterate 5 refine ev_go rfl ?_
    refine ev_ok ⟨rfl, ix_ (j := 1) (by decide) hi hX⟩ rfl ?_
    iterate 4 refine ev_go rfl ?_
    refine ev_ok ⟨rfl, ix_ (j := 2) (by decide) hi hX⟩ rfl ?_
    refine ev_if rfl (fun h437 => ?_) (fun h437 => ?_)
    · iterate 2 refine ev_go rfl ?_
      refine ev_callr rfl rfl rfl w1 ?_
      iterate 6 refine ev_go rfl ?_
      refine ev_ok ⟨rfl, ix_ (j := 1) (by decide) hi hX⟩ rfl ?_
      iterate 4 refine ev_go rfl ?_
      refine ev_ok ⟨rfl, ix_ (j := 2) (by decide) hi hX⟩ rfl ?_
      refine ev_if rfl (fun h464 => ?_) (fun h464 => ?_)
      · refine ev_go rfl ?_
        refine ev_callr rfl rfl rfl r1 ?_
        iterate 2 refine ev_go rfl ?_
        refine ev_callr rfl rfl rfl pm_thrown ?_
        refine ev_go rfl ?_
        rw [r4]
        refine ev_if rfl (fun h483 => ?_) (fun h483 => ?_)
        · refine ev_go rfl ?_
          refine ev_if rfl (fun h490 => ?_) (fun h490 => ?_)
          · iterate 6 refine ev_go rfl ?_
            show mj_Ev _ _ _ _ _ _ _ [mv_i (lg_cmp M2.2 v.toInt64)] _ _ _
            rw [r3.1, w5 h490, lg_same]
            iterate 2 refine ev_go rfl ?_
            refine ev_lo ?_ hR
            funext z
            by_cases z0 : z = 0
            · subst z0
              first
                | rfl
                | simp [mj_up]
            by_cases z1 : z = 1
            · subst z1
              first
                | rfl
                | simp [mj_up]
            by_cases z2 : z = 2
            · subst z2
              first
                | rfl
                | simp [mj_up]
            by_cases z3 : z = 3
            · subst z3
              first
                | rfl
                | simp [mj_up]
            by_cases z4 : z = 4
            · subst z4
              first
                | rfl
                | simp [mj_up]
            by_cases z5 : z = 5
            · subst z5
              first
                | rfl
                | simp [mj_up]
            by_cases z6 : z = 6
            · subst z6
              first
                | rfl
                | simp [mj_up]
            first
              | (simp [mj_up, z0, z1, z2, z3, z4, z5, z6]; done)
              | (simp [mj_up, z0, z1, z2, z3, z4, z5, z6]; intro q; first | exact absurd q z0 | exact absurd q z1 | exact absurd q z2 | exact absurd q z3 | exact absurd q z4 | exact absurd q z5 | exact absurd q z6)
          · refine ev_go rfl ?_
            refine ev_lo ?_ hR
            funext z
            by_cases z0 : z = 0
            · subst z0
              first
                | rfl
                | simp [mj_up]
            by_cases z1 : z = 1
            · subst z1
              first
                | rfl
                | simp [mj_up]
            by_cases z2 : z = 2
            · subst z2
              first
                | rfl
                | simp [mj_up]
            by_cases z3 : z = 3
            · subst z3
              first
                | rfl
                | simp [mj_up]
            by_cases z4 : z = 4
            · subst z4
              first
                | rfl
                | simp [mj_up]
            by_cases z5 : z = 5
            · subst z5
              first
                | rfl
                | simp [mj_up]
            by_cases z6 : z = 6
            · subst z6
              first
                | rfl
                | simp [mj_up]
            first
              | (simp [mj_up, z0, z1, z2, z3, z4, z5, z6]; done)
              | (simp [mj_up, z0, z1, z2, z3, z4, z5, z6]; intro q; first | exact absurd q z0 | exact absurd q z1 | exact absurd q z2 | exact absurd q z3 | exact absurd q z4 | exact absurd q z5 | exact absurd q z6)
        · exact absurd rfl h483
      · exact absurd hb h464
    · exact absurd hb h437
  · obtain ⟨c, v, A', hv', hrs, hcs⟩ := ag_closed (X := X) (d := d) h.1 (X.2 (nI i + nI 1).toNatClampNeg) 1 (by decide)
    obtain ⟨hv, hm, hc⟩ := h
    obtain ⟨M1, k1, w1, w2, w3, w4, w5⟩ := hcs M hc
    obtain ⟨M2, r1, r2, r3, r4⟩ := hrs M1 (hm.fc w4)
    refine ⟨A', M2, k + k1 + 0 + 0, mj_up (mj_up lo 5 (mv_i c)) 6 (mv_i v), ⟨hv', r2, w3.fm r3⟩, by omega, fun R hR => ?_⟩
    iterate 5 refine ev_go rfl ?_
    refine ev_ok ⟨rfl, ix_ (j := 1) (by decide) hi hX⟩ rfl ?_
    iterate 4 refine ev_go rfl ?_
    refine ev_ok ⟨rfl, ix_ (j := 2) (by decide) hi hX⟩ rfl ?_
    refine ev_if rfl (fun h437 => ?_) (fun h437 => ?_)
    · exact absurd h437 hb
    · iterate 3 refine ev_go rfl ?_
      refine ev_callr rfl rfl rfl w1 ?_
      iterate 6 refine ev_go rfl ?_
      refine ev_ok ⟨rfl, ix_ (j := 1) (by decide) hi hX⟩ rfl ?_
      iterate 4 refine ev_go rfl ?_
      refine ev_ok ⟨rfl, ix_ (j := 2) (by decide) hi hX⟩ rfl ?_
      refine ev_if rfl (fun h464 => ?_) (fun h464 => ?_)
      · exact absurd h464 hb
      · iterate 2 refine ev_go rfl ?_
        refine ev_callr rfl rfl rfl r1 ?_
        iterate 2 refine ev_go rfl ?_
        refine ev_callr rfl rfl rfl pm_thrown ?_
        refine ev_go rfl ?_
        rw [r4]
        refine ev_if rfl (fun h483 => ?_) (fun h483 => ?_)
        · refine ev_go rfl ?_
          refine ev_if rfl (fun h490 => ?_) (fun h490 => ?_)
          · iterate 6 refine ev_go rfl ?_
            show mj_Ev _ _ _ _ _ _ _ [mv_i (lg_cmp M2.2 v.toInt64)] _ _ _
            rw [r3.1, w5 h490, lg_same]
            iterate 2 refine ev_go rfl ?_
            refine ev_lo ?_ hR
            funext z
            by_cases z0 : z = 0
            · subst z0
              first
                | rfl
                | simp [mj_up]
            by_cases z1 : z = 1
            · subst z1
              first
                | rfl
                | simp [mj_up]
            by_cases z2 : z = 2
            · subst z2
              first
                | rfl
                | simp [mj_up]
            by_cases z3 : z = 3
            · subst z3
              first
                | rfl
                | simp [mj_up]
            by_cases z4 : z = 4
            · subst z4
              first
                | rfl
                | simp [mj_up]
            by_cases z5 : z = 5
            · subst z5
              first
                | rfl
                | simp [mj_up]
            by_cases z6 : z = 6
            · subst z6
              first
                | rfl
                | simp [mj_up]
            first
              | (simp [mj_up, z0, z1, z2, z3, z4, z5, z6]; done)
              | (simp [mj_up, z0, z1, z2, z3, z4, z5, z6]; intro q; first | exact absurd q z0 | exact absurd q z1 | exact absurd q z2 | exact absurd q z3 | exact absurd q z4 | exact absurd q z5 | exact absurd q z6)
          · refine ev_go rfl ?_
            refine ev_lo ?_ hR
            funext z
            by_cases z0 : z = 0
            · subst z0
              first
                | rfl
                | simp [mj_up]
            by_cases z1 : z = 1
            · subst z1
              first
                | rfl
                | simp [mj_up]
            by_cases z2 : z = 2
            · subst z2
              first
                | rfl
                | simp [mj_up]
            by_cases z3 : z = 3
            · subst z3
              first
                | rfl
                | simp [mj_up]
            by_cases z4 : z = 4
            · subst z4
              first
                | rfl
                | simp [mj_up]
            by_cases z5 : z = 5
            · subst z5
              first
                | rfl
                | simp [mj_up]
            by_cases z6 : z = 6
            · subst z6
              first
                | rfl
                | simp [mj_up]
            first
              | (simp [mj_up, z0, z1, z2, z3, z4, z5, z6]; done)
              | (simp [mj_up, z0, z1, z2, z3, z4, z5, z6]; intro q; first | exact absurd q z0 | exact absurd q z1 | exact absurd q z2 | exact absurd q z3 | exact absurd q z4 | exact absurd q z5 | exact absurd q z6)
        · exact absurd rfl h483
theorem lc_exact (h : jq_ A M) (hi : i + 6 ≤ X.1) (hX : X.1 ≤ 3072) : ca_ X d 860 i lo M k := by
  obtain ⟨v, hrs, hcs⟩ := ah_exact (X := X) (d := d) h.1
  obtain ⟨hv, hm, hc⟩ := h
  obtain ⟨M1, w1, w3, w4⟩ := hcs M hc
  obtain ⟨M2, r1, r2, r3, r4⟩ := hrs M1 (hm.fc w4)
  refine ⟨A, M2, k + 0 + 0, lo, ⟨hv, r2, w3.fm r3⟩, by omega, fun R hR => ?_⟩
  refine ev_go rfl ?_
  refine ev_callr rfl rfl rfl w1 ?_
  refine ev_go rfl ?_
  refine ev_callr rfl rfl rfl r1 ?_
  refine ev_if rfl (fun h868 => ?_) (fun h868 => ?_)
  · exact hR
  · exact absurd rfl h868
theorem lc_steps (h : jq_ A M) (hi : i + 6 ≤ X.1) (hX : X.1 ≤ 3072) : ca_ X d 873 i lo M k := by
  obtain ⟨v, hrs, hcs⟩ := ah_steps (X := X) (d := d) (A := A)
  obtain ⟨hv, hm, hc⟩ := h
  obtain ⟨M1, w1, w3, w4⟩ := hcs M hc
  obtain ⟨M2, r1, r2, r3, r4⟩ := hrs M1 (hm.fc w4)
  refine ⟨A, M2, k + 0 + 0, lo, ⟨hv, r2, w3.fm r3⟩, by omega, fun R hR => ?_⟩
  refine ev_go rfl ?_
  refine ev_callr rfl rfl rfl w1 ?_
  refine ev_go rfl ?_
  refine ev_callr rfl rfl rfl r1 ?_
  refine ev_if rfl (fun h881 => ?_) (fun h881 => ?_)
  · exact hR
  · exact absurd rfl h881
theorem lc_ties (h : jq_ A M) (hi : i + 6 ≤ X.1) (hX : X.1 ≤ 3072) : ca_ X d 886 i lo M k := by
  obtain ⟨v, hrs, hcs⟩ := ah_ties (X := X) (d := d) (A := A)
  obtain ⟨hv, hm, hc⟩ := h
  obtain ⟨M1, w1, w3, w4⟩ := hcs M hc
  obtain ⟨M2, r1, r2, r3, r4⟩ := hrs M1 (hm.fc w4)
  refine ⟨A, M2, k + 0 + 0, lo, ⟨hv, r2, w3.fm r3⟩, by omega, fun R hR => ?_⟩
  refine ev_go rfl ?_
  refine ev_callr rfl rfl rfl w1 ?_
  refine ev_go rfl ?_
  refine ev_callr rfl rfl rfl r1 ?_
  refine ev_if rfl (fun h894 => ?_) (fun h894 => ?_)
  · exact hR
  · exact absurd rfl h894
theorem lc_count (h : jq_ A M) (hi : i + 6 ≤ X.1) (hX : X.1 ≤ 3072) : ca_ X d 1339 i lo M k := by
  obtain ⟨v, hrs, hcs⟩ := ah_count (X := X) (d := d) h.1 (X.2 (nI i + nI 1).toNatClampNeg)
  obtain ⟨hv, hm, hc⟩ := h
  obtain ⟨M1, w1, w3, w4⟩ := hcs M hc
  obtain ⟨M2, r1, r2, r3, r4⟩ := hrs M1 (hm.fc w4)
  refine ⟨A, M2, k + 0 + 0, lo, ⟨hv, r2, w3.fm r3⟩, by omega, fun R hR => ?_⟩
  iterate 5 refine ev_go rfl ?_
  refine ev_ok ⟨rfl, ix_ (j := 1) (by decide) hi hX⟩ rfl ?_
  refine ev_callr rfl rfl rfl w1 ?_
  iterate 5 refine ev_go rfl ?_
  refine ev_ok ⟨rfl, ix_ (j := 1) (by decide) hi hX⟩ rfl ?_
  refine ev_callr rfl rfl rfl r1 ?_
  refine ev_if rfl (fun h1359 => ?_) (fun h1359 => ?_)
  · exact hR
  · exact absurd rfl h1359
end
end
section
/-! the law's loop: all of it -/
section
variable {X : Nat × (Nat → Int32)} {d : Nat} {M A : mj_M} {i k : Nat} {lo : mj_L}
theorem lw_sw (y : Int32) (h : jq_ A M) (hi : i + 6 ≤ X.1) (hX : X.1 ≤ 3072) : ∃ A' M' k' lo', jq_ A' M' ∧ k' ≤ k + 1 ∧ ∀ R, mj_Ev mj_S0 X mj_P (d + 14) mt_W_law 1364 (mj_up (mj_up (mj_up (mj_up (mj_up lo' 0 (mv_p 29)) 1 (mv_p 0)) 2 (mv_p 12)) 3 (mv_p 28)) 4 (mv_i (nI i))) [] M' k' R → mj_Ev mj_S0 X mj_P (d + 14) mt_W_law 40 (mj_up (mj_up (mj_up (mj_up (mj_up lo 0 (mv_p 29)) 1 (mv_p 0)) 2 (mv_p 12)) 3 (mv_p 28)) 4 (mv_i (nI i))) [mv_i y] M k R := by
  by_cases g0 : 0 ≤ y ∧ y ≤ 19
  · obtain ⟨j9, g1, g2⟩ := nI_of2 (n := 19) rfl (by grind) g0.2
    subst g2
    have g3 : j9 = 0 ∨ j9 = 1 ∨ j9 = 2 ∨ j9 = 3 ∨ j9 = 4 ∨ j9 = 5 ∨ j9 = 6 ∨ j9 = 7 ∨ j9 = 8 ∨ j9 = 9 ∨ j9 = 10 ∨ j9 = 11 ∨ j9 = 12 ∨ j9 = 13 ∨ j9 = 14 ∨ j9 = 15 ∨ j9 = 16 ∨ j9 = 17 ∨ j9 = 18 ∨ j9 = 19 := by omega
    rcases g3 with g3 | g3 | g3 | g3 | g3 | g3 | g3 | g3 | g3 | g3 | g3 | g3 | g3 | g3 | g3 | g3 | g3 | g3 | g3 | g3 <;> subst g3
    · obtain ⟨A', M', k', lo', c1, c2, c3⟩ := lc_put (X := X) (d := d) (lo := lo) (k := k) h hi hX
      exact ⟨A', M', k', lo', c1, c2, fun R hR => ev_go rfl (c3 R hR)⟩
    · obtain ⟨A', M', k', lo', c1, c2, c3⟩ := lc_take (X := X) (d := d) (lo := lo) (k := k) h hi hX
      exact ⟨A', M', k', lo', c1, c2, fun R hR => ev_go rfl (c3 R hR)⟩
    · obtain ⟨A', M', k', lo', c1, c2, c3⟩ := lc_move (X := X) (d := d) (lo := lo) (k := k) h hi hX
      exact ⟨A', M', k', lo', c1, c2, fun R hR => ev_go rfl (c3 R hR)⟩
    · obtain ⟨A', M', k', lo', c1, c2, c3⟩ := lc_closed (X := X) (d := d) (lo := lo) (k := k) h hi hX
      exact ⟨A', M', k', lo', c1, c2, fun R hR => ev_go rfl (c3 R hR)⟩
    · obtain ⟨A', M', k', lo', c1, c2, c3⟩ := lc_window (X := X) (d := d) (lo := lo) (k := k) h hi hX
      exact ⟨A', M', k', lo', c1, c2, fun R hR => ev_go rfl (c3 R hR)⟩
    · obtain ⟨A', M', k', lo', c1, c2, c3⟩ := lc_counted (X := X) (d := d) (lo := lo) (k := k) h hi hX
      exact ⟨A', M', k', lo', c1, c2, fun R hR => ev_go rfl (c3 R hR)⟩
    · obtain ⟨A', M', k', lo', c1, c2, c3⟩ := lc_expected (X := X) (d := d) (lo := lo) (k := k) h hi hX
      exact ⟨A', M', k', lo', c1, c2, fun R hR => ev_go rfl (c3 R hR)⟩
    · obtain ⟨A', M', k', lo', c1, c2, c3⟩ := lc_differ (X := X) (d := d) (lo := lo) (k := k) h hi hX
      exact ⟨A', M', k', lo', c1, c2, fun R hR => ev_go rfl (c3 R hR)⟩
    · obtain ⟨A', M', k', lo', c1, c2, c3⟩ := lc_search (X := X) (d := d) (lo := lo) (k := k) h hi hX
      exact ⟨A', M', k', lo', c1, c2, fun R hR => ev_go rfl (c3 R hR)⟩
    · obtain ⟨A', M', k', lo', c1, c2, c3⟩ := lc_exact (X := X) (d := d) (lo := lo) (k := k) h hi hX
      exact ⟨A', M', k', lo', c1, c2, fun R hR => ev_go rfl (c3 R hR)⟩
    · obtain ⟨A', M', k', lo', c1, c2, c3⟩ := lc_steps (X := X) (d := d) (lo := lo) (k := k) h hi hX
      exact ⟨A', M', k', lo', c1, c2, fun R hR => ev_go rfl (c3 R hR)⟩
    · obtain ⟨A', M', k', lo', c1, c2, c3⟩ := lc_ties (X := X) (d := d) (lo := lo) (k := k) h hi hX
      exact ⟨A', M', k', lo', c1, c2, fun R hR => ev_go rfl (c3 R hR)⟩
    · obtain ⟨A', M', k', lo', c1, c2, c3⟩ := lc_often (X := X) (d := d) (lo := lo) (k := k) h hi hX
      exact ⟨A', M', k', lo', c1, c2, fun R hR => ev_go rfl (c3 R hR)⟩
    · obtain ⟨A', M', k', lo', c1, c2, c3⟩ := lc_found (X := X) (d := d) (lo := lo) (k := k) h hi hX
      exact ⟨A', M', k', lo', c1, c2, fun R hR => ev_go rfl (c3 R hR)⟩
    · obtain ⟨A', M', k', lo', c1, c2, c3⟩ := lc_accept (X := X) (d := d) (lo := lo) (k := k) h hi hX
      exact ⟨A', M', k', lo', c1, c2, fun R hR => ev_go rfl (c3 R hR)⟩
    · obtain ⟨A', M', k', lo', c1, c2, c3⟩ := lc_back (X := X) (d := d) (lo := lo) (k := k) h hi hX
      exact ⟨A', M', k', lo', c1, c2, fun R hR => ev_go rfl (c3 R hR)⟩
    · obtain ⟨A', M', k', lo', c1, c2, c3⟩ := lc_share (X := X) (d := d) (lo := lo) (k := k) h hi hX
      exact ⟨A', M', k', lo', c1, c2, fun R hR => ev_go rfl (c3 R hR)⟩
    · obtain ⟨A', M', k', lo', c1, c2, c3⟩ := lc_told (X := X) (d := d) (lo := lo) (k := k) h hi hX
      exact ⟨A', M', k', lo', c1, c2, fun R hR => ev_go rfl (c3 R hR)⟩
    · obtain ⟨A', M', k', lo', c1, c2, c3⟩ := lc_of (X := X) (d := d) (lo := lo) (k := k) h hi hX
      exact ⟨A', M', k', lo', c1, c2, fun R hR => ev_go rfl (c3 R hR)⟩
    · obtain ⟨A', M', k', lo', c1, c2, c3⟩ := lc_count (X := X) (d := d) (lo := lo) (k := k) h hi hX
      exact ⟨A', M', k', lo', c1, c2, fun R hR => ev_go rfl (c3 R hR)⟩
  · have g4 : y.toInt < 0 ∨ 19 < y.toInt := by
      have g5 : y < 0 ∨ 19 < y := by grind
      rcases g5 with g5 | g5
      · exact Or.inl (Int32.lt_iff_toInt_lt.mp g5)
      · exact Or.inr (Int32.lt_iff_toInt_lt.mp g5)
    exact ⟨A, M, k, lo, h, by omega, fun R hR => ev_pos g4 rfl hR⟩
theorem lw_cmp {N i : Nat} (hN : N < 2 ^ 30) (hi : i < 2 ^ 30) : Int32.ofNat N - 6 < nI i ↔ N < i + 6 := by
  rw [Int32.lt_iff_toInt_lt, show Int32.ofNat N - 6 = nI N - nI 6 from rfl, pk_sub_toInt hN (by decide), nI_toInt (by omega)]
  omega
theorem lw_loop (hX : X.1 ≤ 3072) : ∀ n i lo M A k, i + 6 * n = 3072 → jq_ A M → ∃ M' k', mj_Ev mj_S0 X mj_P (d + 14) mt_W_law 23 (mj_up (mj_up (mj_up (mj_up (mj_up lo 0 (mv_p 29)) 1 (mv_p 0)) 2 (mv_p 12)) 3 (mv_p 28)) 4 (mv_i (nI i))) [] M k (.inr (some (.inl 1)), M', k') ∧ k' ≤ k + n := by
  intro n
  induction n with
  | zero =>
    intro i lo M A k hn h
    refine ⟨M, k, ?_, Nat.le_refl _⟩
    iterate 5 refine ev_go rfl ?_
    refine ev_if rfl (fun h30 => ?_) (fun h30 => ?_)
    · refine ev_go rfl ?_
      refine ev_end rfl ?_
      rfl
    · exact absurd ((lw_cmp (by omega) (by omega)).2 (by omega)) h30
  | succ n ih =>
    intro i lo M A k hn h
    by_cases hi : i + 6 ≤ X.1
    · obtain ⟨A', M', k', lo', c1, c2, c3⟩ := lw_sw (X := X) (d := d) (lo := lo) (k := k) (i := i) (X.2 (nI i).toNatClampNeg &&& 31) h hi hX
      obtain ⟨M9, k9, e1, e2⟩ := ih (i + 6) lo' M' A' k' (by omega) c1
      refine ⟨M9, k9, ?_, by omega⟩
      have key := c3 (.inr (some (.inl 1)), M9, k9) (by
        refine ev_go rfl ?_
        refine ev_go rfl ?_
        refine ev_lo ?_ e1
        rw [show nI (i + 6) = nI i + 6 from (nI_add i 6).symm]
        exact mj_upo)
      iterate 5 refine ev_go rfl ?_
      refine ev_if rfl (fun h30 => ?_) (fun h30 => ?_)
      · exact absurd ((lw_cmp (by omega) (by omega)).1 h30) (by omega)
      · iterate 2 refine ev_go rfl ?_
        refine ev_ok ⟨rfl, nI_in (show i < X.1 by omega) (by omega)⟩ rfl ?_
        iterate 2 refine ev_go rfl ?_
        exact key
    · refine ⟨M, k, ?_, by omega⟩
      iterate 5 refine ev_go rfl ?_
      refine ev_if rfl (fun h30 => ?_) (fun h30 => ?_)
      · refine ev_go rfl ?_
        refine ev_end rfl ?_
        rfl
      · exact absurd ((lw_cmp (by omega) (by omega)).2 (by omega)) h30
/-- the law, from where its objects are made, comes to true -/
theorem lw_all (hX : X.1 ≤ 3072) (h : jq_ A M) : ∃ M' k', mj_Ev mj_S0 X mj_P (d + 14) mt_W_law 20 (mj_up (mj_up (mj_up (mj_up lo 0 (mv_p 29)) 1 (mv_p 0)) 2 (mv_p 12)) 3 (mv_p 28)) [] M 0 (.inr (some (.inl 1)), M', k') ∧ k' ≤ 512 := by
  obtain ⟨M', k', e1, e2⟩ := lw_loop (X := X) (d := d) hX 512 0 lo M A 0 (by omega) h
  refine ⟨M', k', ?_, by omega⟩
  refine ev_go rfl ?_
  refine ev_go rfl ?_
  exact e1
end
end
section
/-! the state at the start -/
/-- memory after the constructors -/
def mi_0 : mj_M := (fun q j => if (q = 5 ∨ q = 21) ∧ j < 60 then -1 else if (q = 1 ∧ j = 6) ∨ (q = 12 ∧ j = 11) then 10000 else 0, 0)
theorem mi_z {q j : Nat} (h1 : ¬ ((q = 5 ∨ q = 21) ∧ j < 60)) (h2 : ¬ ((q = 1 ∧ j = 6) ∨ (q = 12 ∧ j = 11))) : mi_0.1 q j = 0 := by
  show (if (q = 5 ∨ q = 21) ∧ j < 60 then (-1 : Int32) else if (q = 1 ∧ j = 6) ∨ (q = 12 ∧ j = 11) then 10000 else 0) = 0
  rw [if_neg h1, if_neg h2]
theorem mi_c {q j : Nat} (h1 : (q = 5 ∨ q = 21) ∧ j < 60) : mi_0.1 q j = -1 := if_pos h1
theorem mi_n : aq_n mi_0 = 0 := by
  unfold aq_n
  rw [mi_z (by omega) (by omega)]
  rfl
theorem mi_w {c : Nat} (hc : c < 60) : aq_w mi_0 (aq_E mi_0) c = 0 := by
  unfold aq_w aq_df
  rw [mi_c ⟨Or.inr rfl, hc⟩]
  rfl
theorem sm_0 {f : Nat → Int32} : ∀ {n : Nat}, (∀ k, k < n → f k = 0) → sm f n = 0
  | 0, _ => rfl
  | n + 1, h => by
    show sm f n + f n = 0
    rw [sm_0 (fun k hk => h k (by omega)), h n (by omega)]
    rfl
theorem jq_0 : jq_ mi_0 mi_0 := by
  have z17 : mi_0.1 12 17 = 0 := mi_z (by omega) (by omega)
  refine ⟨⟨⟨?_, by rw [mi_n]; decide⟩, fun a ha => ?_, fun a => ?_, fun a => ?_, fun a _ => ?_, fun c => ?_, ?_, 0, by decide, z17, fun i hi => absurd hi (Nat.not_lt_zero _)⟩, rm_.refl _, ⟨⟨fun a ha j hj => ?_, fun c hc => ?_, ?_, ?_, ?_⟩, ⟨fun c hc => ?_, ?_⟩, ⟨?_, ?_, ?_, fun a ha => ?_, fun i hi => ?_⟩, ?_⟩⟩
  · rw [mi_n, mi_z (by omega) (by omega)]; rfl
  · rw [mi_n] at ha
    exact absurd ha (Nat.not_lt_zero _)
  · exact Or.inl (mi_z (by omega) (by omega))
  · exact Or.inl (mi_z (by omega) (by omega))
  · exact mi_z (by omega) (by omega)
  · by_cases hc : c < 60
    · rw [mi_c ⟨Or.inr rfl, hc⟩]; decide
    · rw [mi_z (by omega) (by omega)]; decide
  · exact Or.inl (mi_z (by omega) (by omega))
  · rw [mi_z (by rw [pr_e]; omega) (by rw [pr_e]; omega), mi_z (by omega) (by omega)]
  · rw [mi_c ⟨Or.inl rfl, hc⟩, mi_c ⟨Or.inr rfl, hc⟩]
  · rw [mi_z (by omega) (by omega), mi_z (by omega) (by omega)]
  · rw [mi_z (by omega) (by omega), mi_z (by omega) (by omega)]
  · rfl
  · rw [mi_z (by omega) (by omega)]
    unfold aq_E
    rw [mi_n]
    rfl
  · rw [mi_z (by omega) (by omega)]
    exact (sm_0 (fun c hc => mi_w hc)).symm
  · rw [mi_z (by omega) (by omega), mi_z (by omega) (by omega)]
  · rw [mi_z (by omega) (by omega), mi_z (by omega) (by omega)]
  · rw [mi_z (by omega) (by omega), mi_z (by omega) (by omega)]
  · rw [mi_z (by omega) (by omega), mi_z (by omega) (by omega)]
  · rw [z17] at hi
    exact absurd hi (Nat.not_lt_zero _)
  · rw [mi_z (by omega) (by omega), mi_z (by omega) (by omega)]
theorem lw_run {X : Nat × (Nat → Int32)} {lo : mj_L} (hX : X.1 ≤ 3072) : ∃ n M' k', mj_run mj_S0 X mj_P n 14 mt_W_law 20 (mj_up (mj_up (mj_up (mj_up lo 0 (mv_p 29)) 1 (mv_p 0)) 2 (mv_p 12)) 3 (mv_p 28)) [] mi_0 0 = some (.inr (some (.inl 1)), M', k') ∧ k' ≤ 512 := by
  obtain ⟨M', k', ⟨n, h1⟩, h2⟩ := lw_all (X := X) (d := 0) (lo := lo) hX jq_0
  exact ⟨n, M', k', h1, h2⟩
end
