section
variable {S : mj_S} {X : Nat × (Nat → Int32)} {P : List mj_T} {ad : Nat → Nat} {cI cR cJ cZ : ClassId} {D : va_G} {A : Nat → Prop} {B : Nat} {l : Launch}
theorem mj_nps {T : mj_T} {pc E : Nat} {args : Array Value} {s : State} {hh : List (Nat × Nat × Nat × Nat × Nat × Nat × Nat)} (hts : ∀ w ∈ mj_tbl, w.before args s = true) (hE : mj_En S X ad cI cR cJ cZ D A s) (hok : ∀ q ∈ hh, mj_okH T q = true) (hx : E < mj_xs.length) (hn : ∀ z ∈ hh, ¬ (z.1 ≤ pc ∧ pc < z.2.1 ∧ z.2.2.2.2.1 = E)) :
    ∀ z ∈ tableOf (hh.map (fun q => (q.1, q.2.1, q.2.2.1, q.2.2.2.1))), covers z pc = false ∨ (z.catchType ≠ 0 ∧ ∃ nm : String, (Cond.classLink (mj_tn T).cls z.catchType nm).before args s = true ∧ va_Nc (mj_xn E) nm s) := by
  intro z hz
  unfold tableOf at hz
  rw [List.map_map] at hz
  obtain ⟨q, hq, rfl⟩ := List.mem_map.mp hz
  have h1 := hok q hq
  unfold mj_okH at h1
  simp only [Bool.and_eq_true, decide_eq_true_eq] at h1
  by_cases hc : q.1 ≤ pc ∧ pc < q.2.1
  · have hne : q.2.2.2.2.1 ≠ E := fun h => hn q hq ⟨hc.1, hc.2, h⟩
    have h2 := List.all_eq_true.mp h1.1.2 E (List.mem_range.mpr hx)
    rw [Bool.or_eq_true, decide_eq_true_eq, decide_eq_true_eq] at h2
    rcases h2 with h2 | h2
    · exact absurd h2 hne
    · exact Or.inr ⟨h1.1.1.1, mj_xn q.2.2.2.2.1, hts _ (mj_inL h1.1.1.2), hE.2.2.2.2.2.1 _ h2⟩
  · refine Or.inl ?_
    show (decide (q.1 ≤ pc) && decide (pc < q.2.1)) = false
    by_cases h2 : q.1 ≤ pc
    · rw [decide_eq_false (fun h3 => hc ⟨h2, h3⟩), Bool.and_false]
    · rw [decide_eq_false h2, Bool.false_and]
theorem mj_cast {s : State} {args : Array Value} {E : Nat} (hE : mj_En S X ad cI cR cJ cZ D A s) (hx : E < mj_xs.length) : (Cond.castable (mj_xn E) (mj_xn E)).before args s = true := by
  have h1 : mj_xn E = (mj_xs[E]).1 := by unfold mj_xn; rw [List.getElem?_eq_getElem hx]; rfl
  rw [h1]
  exact va_Nw.use rfl (hE.2.2.2.2.2.2.2.1 _ (List.getElem_mem hx))
theorem mj_okT_lt {T : mj_T} {pc ik a b : Nat} {v : Int32} (h : mj_okT T pc ik a b v = true) : a < mj_xs.length := by
  unfold mj_okT at h
  cases hxs : mj_xs[a]? with
  | none => rw [hxs] at h; simp at h
  | some q => exact (List.getElem?_eq_some_iff.mp hxs).1
theorem mj_callee_ok {T T' : mj_T} {pc nx : Nat} {st as rest : List mj_V} {ns : Bool} (hTB : mj_okB S P T = true) (hP : P.length ≤ 1000) (hc : mj_callee P T pc st = some (T', as, rest, nx, ns)) : T' ∈ P ∧ (∀ v ∈ as, mj_one v = true) ∧ as.length ≤ mj_tl T' := by
  have hTok := hTB
  unfold mj_okB at hTok
  rw [Bool.and_eq_true] at hTok
  have hcode := hTok.2
  unfold mj_callee at hc
  cases hat : mj_at T pc with
  | none => rw [hat] at hc; cases hc
  | some en =>
    obtain ⟨pc9, i, nx9, a, b, v⟩ := en
    rw [hat] at hc
    dsimp only at hc
    obtain ⟨hok9, -⟩ := mj_at_ok hat hcode
    rw [Bool.and_eq_true] at hok9
    obtain ⟨-, hokL⟩ := hok9
    split at hc
    · next hisc =>
      split at hc
      · next T9 as9 rest9 hPa hpop =>
        split at hc
        · next hcond =>
          cases hc
          obtain ⟨-, has⟩ := mj_pop_0 hpop
          refine ⟨List.mem_of_getElem? hPa, fun v hv => List.all_eq_true.mp hcond.2.2 v hv, ?_⟩
          match i, hisc, hokL with
          | .invokevirtual idx, _, hokL =>
            simp only [mj_okL] at hokL
            rw [hPa] at hokL
            dsimp only at hokL
            simp only [Bool.and_eq_true, decide_eq_true_eq] at hokL
            rw [has]
            exact hokL.2.1.2.2.2
          | .invokestatic idx, _, hokL =>
            simp only [mj_okL] at hokL
            split at hokL
            · rw [hPa] at hokL
              dsimp only at hokL
              simp only [Bool.and_eq_true, decide_eq_true_eq] at hokL
              rw [has]
              exact hokL.2.2.2
            · next hge =>
              have h9 : P[a]? = none := List.getElem?_eq_none (Nat.le_trans hP (Nat.le_of_not_lt hge))
              rw [h9] at hPa
              cases hPa
        · cases hc
      · cases hc
    · cases hc
theorem mj_xlt (hok : ∀ T ∈ P, mj_okM S P T = true) (hP : P.length ≤ 1000) : ∀ (n d : Nat) (T : mj_T) (pc : Nat) (lo : mj_L) (st : List mj_V) (M : mj_M) (k : Nat) (r : mj_R), mj_okB S P T = true → mj_run S X P n d T pc lo st M k = some r → ∀ E, r.1 = .inl E → E < mj_xs.length := by
  intro n
  induction n with
  | zero =>
    intro d T pc lo st M k r _ h
    rw [mj_run_0] at h
    cases h
  | succ n ih =>
    intro d T pc lo st M k r hTP h E hE
    have hTok := hTP
    unfold mj_okB at hTok
    rw [Bool.and_eq_true] at hTok
    have hcode := hTok.2
    rw [mj_run_s] at h
    unfold mj_body at h
    cases hg : mj_go S X T pc lo st M with
    | some c =>
      obtain ⟨pc', lo', st', M'⟩ := c
      rw [hg] at h
      exact ih _ _ _ _ _ _ _ _ hTP h E hE
    | none =>
      rw [hg] at h
      dsimp only at h
      cases he : mj_end T pc st M k with
      | some r' =>
        rw [he] at h
        cases h
        unfold mj_end at he
        cases hat : mj_at T pc with
        | none => rw [hat] at he; cases he
        | some en =>
          obtain ⟨pc9, i, nx, a, b, v⟩ := en
          rw [hat] at he
          obtain ⟨hok9, -⟩ := mj_at_ok hat hcode
          rw [Bool.and_eq_true] at hok9
          obtain ⟨-, hokL⟩ := hok9
          split at he
          · split at he
            · split at he
              · cases he; cases hE
              · split at he
                · cases he; cases hE
                · cases he
              · cases he
            · cases he
          · split at he
            · cases he; cases hE
            · cases he
          · next ik nx8 a8 b8 v8 h9 =>
            cases h9
            split at he
            · cases he
              cases hE
              exact mj_okT_lt hokL
            · cases he
          · cases he
      | none =>
        rw [he] at h
        dsimp only at h
        cases d with
        | zero => cases h
        | succ d' =>
          cases hc : mj_callee P T pc st with
          | none =>
            rw [hc] at h
            cases h
          | some q =>
            obtain ⟨T', as, rest, nx, ns⟩ := q
            rw [hc] at h
            dsimp only at h
            obtain ⟨hT', -, -⟩ := mj_callee_ok hTP hP hc
            cases hr : mj_run S X P n d' T' 0 (fun j => as[j]?) [] M 0 with
            | none => rw [hr] at h; cases h
            | some q =>
              rw [hr] at h
              obtain ⟨o, M', k'⟩ := q
              cases o with
              | inl E' =>
                dsimp only at h
                by_cases hns : ns = true
                · rw [if_pos hns] at h
                  cases h
                · rw [if_neg hns] at h
                  cases hx : mj_cat (mj_th T) pc E' with
                  | none =>
                    rw [hx] at h
                    cases h
                    cases hE
                    exact ih _ _ _ _ _ _ _ _ (mj_okMB (hok T' hT')) hr _ rfl
                  | some q =>
                    obtain ⟨h9, j⟩ := q
                    rw [hx] at h
                    exact ih _ _ _ _ _ _ _ _ hTP h E hE
              | inr o =>
                cases o with
                | none => exact ih _ _ _ _ _ _ _ _ hTP h E hE
                | some v => exact ih _ _ _ _ _ _ _ _ hTP h E hE
set_option maxHeartbeats 4000000 in
set_option maxRecDepth 100000 in
theorem mj_sound (ok : mj_Ok S P ad cI cR cJ cZ A B l) :
    ∀ (n d : Nat) (T : mj_T) (pc : Nat) (lo : mj_L) (st : List mj_V) (M : mj_M) (k : Nat) (r : mj_R), mj_okB S P T = true → mj_run S X P n d T pc lo st M k = some r →
    ∀ (p : Program) (e : Env) (R : Room) (s : State) (m : MethodId) (args : Array Value) (below : List Frame) (meth : Method) (c : Code) (H : Heap) (locs : List Loc) (c0 s0 : Nat) (Q : State → Prop) (ls : Array Slot),
      mj_Fm T p s m args meth c → mj_En S X ad cI cR cJ cZ D A s → B ≤ s.heap.size → d + 12 ≤ R.frames → 60 * d + 240 ≤ R.locals → c0 + r.2.2 ≤ R.cells → s0 + 6 * r.2.2 ≤ R.slots →
      va_P D vwCl (mj_w S ad cI cR cJ cZ M) H → va_S A s.heap H locs → mj_lv S ad (mj_tl T) lo ls → mj_Fin S ad cI cR cJ cZ D A T p l e R s m args below meth c c0 s0 Q r →
      W p l e R s m args below meth c H locs (c0 + k) (s0 + 6 * k) Q (F0 m pc ls (st.map (mj_c S ad))) := by
  intro n
  induction n with
  | zero =>
    intro d T pc lo st M k r _ h
    rw [mj_run_0] at h
    cases h
  | succ n ih =>
    intro d T pc lo st M k r hTP h p e R s m args below meth c H locs c0 s0 Q ls Fm hE hB hRf hRl hRc hRs hP hS hlv hFin
    have hk := mj_kle _ _ _ _ _ _ _ _ _ h
    have hTok := hTP
    unfold mj_okB at hTok
    rw [Bool.and_eq_true] at hTok
    have hcode := hTok.2
    have hhok : ∀ q ∈ mj_th T, mj_okH T q = true := List.all_eq_true.mp hTok.1
    rw [mj_run_s] at h
    unfold mj_body at h
    cases hg : mj_go S X T pc lo st M with
    | some c9 =>
      obtain ⟨pc', lo', st', M'⟩ := c9
      rw [hg] at h
      dsimp only at h
      unfold mj_go at hg
      cases hat : mj_at T pc with
      | none => rw [hat] at hg; cases hg
      | some en =>
        obtain ⟨pc9, i, nx, a, b, v⟩ := en
        rw [hat] at hg
        dsimp only at hg
        obtain ⟨hok, hpc9⟩ := mj_at_ok hat hcode
        have hpc9 : pc9 = pc := hpc9
        subst hpc9
        rw [Bool.and_eq_true] at hok
        exact mj_step_ok (mj_cx ok Fm hE hB) ⟨by omega, by omega, by omega, by omega⟩ hok.1 hP hS hlv hg (fun H' locs' ls' hP' hS' hl' => ih d T pc' lo' st' M' k r hTP h p e R s m args below meth c H' locs' c0 s0 Q ls' Fm hE hB hRf hRl hRc hRs hP' hS' hl' hFin)
    | none =>
      rw [hg] at h
      dsimp only at h
      cases he : mj_end T pc st M k with
      | some r' =>
        rw [he] at h
        cases h
        unfold mj_end at he
        cases hat : mj_at T pc with
        | none => rw [hat] at he; cases he
        | some en =>
          obtain ⟨pc9, i, nx, a, b, v⟩ := en
          rw [hat] at he
          obtain ⟨hok, hpc9⟩ := mj_at_ok hat hcode
          have hpc9 : pc9 = pc := hpc9
          subst hpc9
          rw [Bool.and_eq_true] at hok
          obtain ⟨hokI, hokL⟩ := hok
          split at he
          · next q9 h9 =>
            cases h9
            obtain ⟨hd, -, -⟩ := mj_okD hokI rfl
            split at he
            · next x =>
              split at he
              · next hty =>
                cases he
                exact (hFin H locs ls pc9 hP hS hlv.1).2.1 x .int rfl hty rfl hd
              · next hty =>
                split at he
                · next h01 =>
                  cases he
                  refine (hFin H locs ls pc9 hP hS hlv.1).2.1 x .boolean rfl hty ?_ hd
                  rcases h01 with rfl | rfl <;> decide +kernel
                · cases he
              · cases he
            · cases he
          · next q9 h9 =>
            cases h9
            obtain ⟨hd, -, -⟩ := mj_okD hokI rfl
            split at he
            · next hty =>
              cases he
              exact (hFin H locs ls pc9 hP hS hlv.1).1 rfl hty hd
            · cases he
          · next ik nx8 a8 b8 v8 h9 =>
            cases h9
            obtain ⟨hd, -, -⟩ := mj_okD hokI rfl
            split at he
            · cases he
              exact (hFin H locs ls pc9 hP hS hlv.1).2.2.2 _ k _ _ _ rfl rfl hd hokL
            · cases he
          · cases he
      | none =>
        rw [he] at h
        dsimp only at h
        cases d with
        | zero => cases h
        | succ d' =>
          cases hc : mj_callee P T pc st with
          | none =>
            rw [hc] at h
            cases h
          | some q =>
            obtain ⟨T', as, rest, nx, ns⟩ := q
            rw [hc] at h
            dsimp only at h
            cases hr : mj_run S X P n d' T' 0 (fun j => as[j]?) [] M 0 with
            | none => rw [hr] at h; cases h
            | some r' =>
              rw [hr] at h
              obtain ⟨hT'P, hone, hlen⟩ := mj_callee_ok hTP ok.2.2.2.2.2.2.2 hc
              have hM : vx_Met l (mj_tn T') (mj_ws T') (mj_rm d' r'.2.2) (mj_Pc S X ad cI cR cJ cZ D A B as M) (mj_Qc S ad cI cR cJ cZ D A r') (mj_XC S ad cI cR cJ cZ D A r') r'.2.2 (6 * r'.2.2) A :=
                mj_met ok (ok.2.1 T' hT'P) hone hlen (fun p e s m args below meth c ls Fm hE hB hP hl =>
                  ih d' T' 0 (fun j => as[j]?) [] M 0 r' (mj_okMB (ok.2.1 T' hT'P)) hr p e (mj_rm d' r'.2.2) s m args below meth c s.heap [] 0 0 _ ls Fm hE hB (Nat.le_refl _) (Nat.le_refl _) (by rw [Nat.zero_add]; exact Nat.le_refl _) (by rw [Nat.zero_add]; exact Nat.le_refl _) hP va_S.rf hl (mj_fin ok.1 Fm hE))
              have hsum : k + r'.2.2 ≤ r.2.2 := by
                obtain ⟨o, M', k'⟩ := r'
                cases o with
                | inl E =>
                  dsimp only at h
                  by_cases hns : ns = true
                  · rw [if_pos hns] at h
                    cases h
                  · rw [if_neg hns] at h
                    cases hx : mj_cat (mj_th T) pc E with
                    | none =>
                      rw [hx] at h
                      cases h
                      exact Nat.le_refl _
                    | some q =>
                      obtain ⟨h9, j⟩ := q
                      rw [hx] at h
                      exact mj_kle _ _ _ _ _ _ _ _ _ h
                | inr o =>
                  cases o with
                  | none => exact mj_kle _ _ _ _ _ _ _ _ _ h
                  | some v => exact mj_kle _ _ _ _ _ _ _ _ _ h
              have hns9 : ns = true → ∃ v, r'.1 = .inr v := by
                intro hns
                obtain ⟨o, M', k'⟩ := r'
                cases o with
                | inl E =>
                  dsimp only at h
                  rw [if_pos hns] at h
                  cases h
                | inr o => exact ⟨o, rfl⟩
              obtain ⟨hnx, hrun⟩ := mj_call (e := e) (below := below) (cells := c0 + k) (slots := s0 + 6 * k) (R := R) (ls := ls) ok hTP Fm hE hB hP hS hlv.1 hc hns9 hM (by omega) (by omega) (by omega) (by omega)
              subst hnx
              intro T8 hT8 X8
              rcases hrun T8 hT8 X8 with ⟨v, st₀, t, T9, L, h0, X9, hL, e1, e2, ⟨⟨v9, hv9, ho⟩, hP9, hF9⟩, go⟩ | ⟨q, st₀, t, T9, L, E, ce, h0, X9, hL, e1, e2, ⟨⟨x9, hx9, hE9⟩, hP9, hF9⟩, hce, hcv, hcl, go⟩
              · obtain ⟨k1, k2, k3⟩ := vx_keep h0 e1 hS (fun _ _ h => h) (fun _ h => h) hL hF9
                obtain ⟨o, M', k'⟩ := r'
                cases hv9
                cases ho
                dsimp only at X9 hP9 h
                rw [Nat.add_assoc, show s0 + 6 * k + 6 * k' = s0 + 6 * (k + k') by omega] at X9
                rw [← e1] at hP9
                cases v9 with
                | none =>
                  obtain ⟨t2, a1, b1⟩ := ih (d' + 1) T (pc + 3) lo rest M' (k + k') r hTP h p e R s m args below meth c T9.heap (locs ++ L) c0 s0 Q ls Fm hE hB hRf hRl hRc hRs hP9 k3 hlv hFin T9 rfl X9
                  exact ⟨t2, go t2 a1, b1⟩
                | some v =>
                  obtain ⟨t2, a1, b1⟩ := ih (d' + 1) T (pc + 3) lo (v :: rest) M' (k + k') r hTP h p e R s m args below meth c T9.heap (locs ++ L) c0 s0 Q ls Fm hE hB hRf hRl hRc hRs hP9 k3 hlv hFin T9 rfl X9
                  exact ⟨t2, go t2 a1, b1⟩
              · obtain ⟨k1, k2, k3⟩ := vx_keep h0 e1 hS (fun _ _ h => h) (fun _ h => h) hL hF9
                have hxl := mj_xlt ok.2.1 ok.2.2.2.2.2.2.2 _ _ _ _ _ _ _ _ _ (mj_okMB (ok.2.1 T' hT'P)) hr x9 hx9
                obtain ⟨o, M', k'⟩ := r'
                cases hx9
                subst hE9
                dsimp only at X9 hP9 h
                rw [Nat.add_assoc, show s0 + 6 * k + 6 * k' = s0 + 6 * (k + k') by omega] at X9
                rw [← e1] at hP9 hce
                by_cases hns : ns = true
                · rw [if_pos hns] at h
                  cases h
                · rw [if_neg hns] at h
                  cases hx : mj_cat (mj_th T) pc x9 with
                  | none =>
                    rw [hx] at h
                    cases h
                    obtain ⟨t2, a1, b1⟩ := (hFin T9.heap (locs ++ L) ls pc hP9 k3 hlv.1).2.2.1 x9 rfl (rest.map (mj_c S ad)) q ce hce hcv hcl (mj_nps Fm.2.2.2.2.1 hE hhok hxl (mj_cat_none _ _ _ hx)) T9 rfl X9
                    exact ⟨t2, go.trans a1, b1⟩
                  | some q9 =>
                    obtain ⟨h9, j⟩ := q9
                    rw [hx] at h
                    obtain ⟨pre, qh, suf, hs1, hs2, rfl, rfl, hs5⟩ := mj_cat_some _ _ _ _ _ hx
                    have hmem : ∀ q ∈ pre, q ∈ mj_th T := fun q hq => by rw [hs1]; exact List.mem_append_left _ hq
                    have hqm : qh ∈ mj_th T := by rw [hs1]; exact List.mem_append_right _ List.mem_cons_self
                    have hqk := hhok qh hqm
                    unfold mj_okH at hqk
                    simp only [Bool.and_eq_true, Bool.or_eq_true, decide_eq_true_eq] at hqk
                    obtain ⟨⟨⟨q1, q2⟩, -⟩, q3, q4⟩ := hqk
                    have kk : W p l e R s m args below meth c T9.heap (locs ++ L) (c0 + (k + k')) (s0 + 6 * (k + k')) Q (F0 m qh.2.2.1 ls [.ref q]) := by
                      rcases q4 with ⟨d1, d2⟩ | ⟨d1, d2, d3⟩
                      · refine lv_astore Fm.1 Fm.2.1 d1 hlv.has q3 rfl (fun ls' hl' => ?_)
                        rw [← d2]
                        exact ih (d' + 1) T _ (mj_dl lo qh.2.2.2.2.2.2) [] M' (k + k') r hTP h p e R s m args below meth c T9.heap (locs ++ L) c0 s0 Q ls' Fm hE hB hRf hRl hRc hRs hP9 k3 (hlv.del hl') hFin
                      · refine lv_astore_n Fm.1 Fm.2.1 d1 (Nat.mod_eq_of_lt d2) hlv.has q3 rfl (fun ls' hl' => ?_)
                        rw [← d3]
                        exact ih (d' + 1) T _ (mj_dl lo qh.2.2.2.2.2.2) [] M' (k + k') r hTP h p e R s m args below meth c T9.heap (locs ++ L) c0 s0 Q ls' Fm hE hB hRf hRl hRc hRs hP9 k3 (hlv.del hl') hFin
                    have htab : c.exceptionTable.toList = tableOf (pre.map (fun q => (q.1, q.2.1, q.2.2.1, q.2.2.2.1))) ++ (⟨qh.1, qh.2.1, qh.2.2.1, qh.2.2.2.1⟩ : ExceptionTableEntry) :: tableOf (suf.map (fun q => (q.1, q.2.1, q.2.2.1, q.2.2.2.1))) := by
                      rw [Fm.2.2.2.2.2.1]
                      unfold mj_tab tableOf
                      rw [hs1]
                      simp
                    have hvw := vx_catch (rest := rest.map (mj_c S ad)) (pc := pc) (ls := ls) (E := mj_xn x9) (name := mj_xn x9) Fm.2.2.2.1 _ (⟨qh.1, qh.2.1, qh.2.2.1, qh.2.2.2.1⟩ : ExceptionTableEntry) _ htab (mj_nps Fm.2.2.2.2.1 hE (fun q hq => hhok q (hmem q hq)) hxl hs5) (by show (decide (qh.1 ≤ pc) && decide (pc < qh.2.1)) = true; rw [decide_eq_true hs2.1, decide_eq_true hs2.2.1]; rfl) q1 (Fm.2.2.2.2.1 _ (by rw [← hs2.2.2]; exact mj_inL q2)) (mj_cast hE hxl) hce hcv hcl kk
                    obtain ⟨t2, a1, b1⟩ := hvw T9 rfl X9
                    exact ⟨t2, go.trans a1, b1⟩
end
