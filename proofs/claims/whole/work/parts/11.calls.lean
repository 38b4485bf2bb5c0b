section
variable {S : mj_S} {X : Nat × (Nat → Int32)} {P : List mj_T} {ad : Nat → Nat} {cI cR cJ cZ : ClassId} {D : va_G} {A : Nat → Prop} {B : Nat} {l : Launch}
/-- what the program, its shape and its addresses are held to -/
def mj_Ok (S : mj_S) (P : List mj_T) (ad : Nat → Nat) (cI cR cJ cZ : ClassId) (A : Nat → Prop) (B : Nat) (l : Launch) : Prop :=
  l.stackTraces = false ∧ (∀ T ∈ P, mj_okM S P T = true) ∧ (∀ (g n k o : Nat), S.1[g]? = some (.inr (.inr (.inl (n, k, o)))) → ∀ r : Nat, r < n → S.2[o + r]? = some k) ∧ (∀ (g n g' n' : Nat), S.1[g]? = some (.inr (.inr (.inr (.inl n)))) → S.1[g']? = some (.inr (.inr (.inr (.inl n')))) → g = g' ∧ n = 1) ∧ (∀ M, va_D A (mj_w S ad cI cR cJ cZ M)) ∧ ad S.1.length < B ∧ ¬ A (ad S.1.length) ∧ P.length ≤ 1000
theorem mj_cx {T : mj_T} {p : Program} {s : State} {m : MethodId} {args : Array Value} {meth : Method} {c : Code} (ok : mj_Ok S P ad cI cR cJ cZ A B l) (Fm : mj_Fm T p s m args meth c) (hE : mj_En S X ad cI cR cJ cZ D A s) (hB : B ≤ s.heap.size) : mj_Cx S X ad cI cR cJ cZ D A T p s m args c := by
  obtain ⟨-, -, hgr, hlg, hD, hsp, hbA, -⟩ := ok
  obtain ⟨hx, hb, hml, hown, hts, -, -, -⟩ := Fm
  exact ⟨⟨hx, hb, hml, hown, hts⟩, ⟨hE.1, hD, hE.2.1, Nat.lt_of_lt_of_le hsp hB, hbA⟩, hgr, hlg⟩
/-- a method's contract out of the walk of its body -/
theorem mj_met {T : mj_T} {as : List mj_V} {M : mj_M} {r : mj_R} {d : Nat} (ok : mj_Ok S P ad cI cR cJ cZ A B l) (hT : mj_okM S P T = true) (ha : ∀ v ∈ as, mj_one v = true) (hn : as.length ≤ mj_tl T)
    (body : ∀ (p : Program) (e : Env) (s : State) (m : MethodId) (args : Array Value) (below : List Frame) (meth : Method) (c : Code) (ls : Array Slot), mj_Fm T p s m args meth c → mj_En S X ad cI cR cJ cZ D A s → B ≤ s.heap.size → va_P D vwCl (mj_w S ad cI cR cJ cZ M) s.heap → mj_lv S ad (mj_tl T) (fun j => as[j]?) ls →
      W p l e (mj_rm d r.2.2) s m args below meth c s.heap [] 0 0 (vx_MQ below (mj_Qc S ad cI cR cJ cZ D A r) (mj_XC S ad cI cR cJ cZ D A r) args s r.2.2 (6 * r.2.2) A) (F0 m 0 ls [])) :
    vx_Met l (mj_tn T) (mj_ws T) (mj_rm d r.2.2) (mj_Pc S X ad cI cR cJ cZ D A B as M) (mj_Qc S ad cI cR cJ cZ D A r) (mj_XC S ad cI cR cJ cZ D A r) r.2.2 (6 * r.2.2) A := by
  have hT' := hT
  unfold mj_okM at hT'
  simp only [Bool.and_eq_true, decide_eq_true_eq] at hT'
  obtain ⟨⟨h1, h2, h3, h4, h5, h6⟩, h7⟩ := hT'
  cases hh : mj_th T with
  | nil =>
    refine vx_ofW (cc := mj_tb T) (maxL := mj_tl T) (ret := mj_tr T) (ws' := mj_tbl) h5 (by unfold mj_ws mj_cw; rw [hh]) ?_
    intro p e s m args below meth c s₁ Bd hml htab hv
    obtain ⟨rfl, hE, hP, hB⟩ := hv
    have hts := atoms_spec (ws := mj_ws T) Bd.pre
    rw [lg_entry_eq]
    refine body p e s m _ below meth c _ ⟨Bd.exec, Bd.bytes, hml, findClass_of_methodNamed Bd.named, fun w hw => hts w (List.mem_cons_of_mem _ hw), ?_, Bd.notSynchronized, Bd.returns⟩ hE hB hP (mj_entry as ha hn)
    unfold mj_tab
    rw [hh]
    exact List.eq_nil_iff_forall_not_mem.mpr htab
  | cons q hh9 =>
    have hw : mj_ws T = Cond.codeWith (mj_tn T) (mj_tb T) (mj_tl T) (mj_tr T) ((mj_th T).map (fun q => (q.1, q.2.1, q.2.2.1, q.2.2.2.1))) :: mj_tbl := by
      unfold mj_ws mj_cw
      rw [hh]
    refine vx_ofWH (cc := mj_tb T) (maxL := mj_tl T) (ret := mj_tr T) (ws' := mj_tbl) h5 hw ?_
    intro p e s m args below meth c s₁ Bd hml hv
    obtain ⟨rfl, hE, hP, hB⟩ := hv
    have hts := atoms_spec (ws := mj_ws T) Bd.pre
    have htb := vx_table (x := mj_tn T) Bd (hts _ (by rw [hw]; exact List.mem_cons_self))
    rw [lg_entry_eq]
    exact body p e s m _ below meth c _ ⟨Bd.exec, Bd.bytes, hml, findClass_of_methodNamed Bd.named, fun w hw => hts w (List.mem_cons_of_mem _ hw), htb, Bd.notSynchronized, Bd.returns⟩ hE hB hP (mj_entry as ha hn)
end
section
variable {S : mj_S} {X : Nat × (Nat → Int32)} {P : List mj_T} {ad : Nat → Nat} {cI cR cJ cZ : ClassId} {D : va_G} {A : Nat → Prop} {B : Nat} {l : Launch}
theorem mj_toMet {y : MethodName} {ws : List Cond} {rm : Room} {Pc : Array Value → State → Prop} {r : mj_R} {mc ms : Nat} {v : Option mj_V} (h : vx_Met l y ws rm Pc (mj_Qc S ad cI cR cJ cZ D A r) (mj_XC S ad cI cR cJ cZ D A r) mc ms A) (hr : r.1 = .inr v) : Met l y ws rm Pc (mj_Qc S ad cI cR cJ cZ D A r) mc ms A := by
  intro p e ha hc hk s m args below hf happ hP hK
  obtain ⟨n, o, a1, a2, a3, hq⟩ := h p e ha hc hk s m args below hf happ hP hK
  refine ⟨n, o, a1, a2, a3, ?_⟩
  rcases hq with hq | ⟨q, -, E, ce, L, ⟨⟨x, hx, -⟩, -⟩, -⟩
  · exact hq
  · rw [hr] at hx
    cases hx
variable {T T' : mj_T} {p : Program} {e : Env} {R : Room} {s : State} {m : MethodId} {args : Array Value} {below : List Frame} {meth : Method} {c : Code} {H : Heap} {locs : List Loc} {cells slots : Nat} {ls : Array Slot} {pc : Nat} {st as rest : List mj_V} {M : mj_M} {r : mj_R} {d nx : Nat} {ns : Bool}
theorem mj_ln {n : Nat} (h : mj_par T' = some n) : ∀ sig, parseMethodDescriptor (mj_tn T').desc = some sig → n = sig.parameters.length := by
  intro sig hs
  unfold mj_par at h
  rw [hs] at h
  exact (Option.some.inj h).symm
set_option maxRecDepth 100000 in
/-- a call, by the callee's contract -/
theorem mj_call (ok : mj_Ok S P ad cI cR cJ cZ A B l) (hTB : mj_okB S P T = true) (Fm : mj_Fm T p s m args meth c) (hE : mj_En S X ad cI cR cJ cZ D A s) (hB : B ≤ s.heap.size) (hP : va_P D vwCl (mj_w S ad cI cR cJ cZ M) H) (hS : va_S A s.heap H locs) (hsz : ls.size = mj_tl T)
    (hc : mj_callee P T pc st = some (T', as, rest, nx, ns)) (hns : ns = true → ∃ v, r.1 = .inr v)
    (hM : vx_Met l (mj_tn T') (mj_ws T') (mj_rm d r.2.2) (mj_Pc S X ad cI cR cJ cZ D A B as M) (mj_Qc S ad cI cR cJ cZ D A r) (mj_XC S ad cI cR cJ cZ D A r) r.2.2 (6 * r.2.2) A)
    (hf : (d + 1) + 12 ≤ R.frames) (hlo : 60 * (d + 1) + 240 ≤ R.locals) (hcl : cells + r.2.2 ≤ R.cells) (hsl : slots + 6 * r.2.2 ≤ R.slots) :
    nx = pc + 3 ∧ vx_Run p l e R s m args below meth c H locs cells slots r.2.2 (6 * r.2.2) (F0 m pc ls (st.map (mj_c S ad))) (rest.map (mj_c S ad)) (mj_Qc S ad cI cR cJ cZ D A r (as.map (mj_c S ad)).toArray) (mj_XC S ad cI cR cJ cZ D A r) A := by
  have hbA : ¬ A (ad S.1.length) := ok.2.2.2.2.2.2.1
  have hsp : ad S.1.length < B := ok.2.2.2.2.2.1
  have hfb := mj_blind (S := S) (X := X) (ad := ad) (cI := cI) (cR := cR) (cJ := cJ) (cZ := cZ) (D := D) (A := A) (as := as) (M := M) hsp hbA
  have hpre : ∀ U : State, U.heap = H → s.WarmedH U.vm → mj_Pc S X ad cI cR cJ cZ D A B as M (as.map (mj_c S ad)).toArray U := fun U hU hW => by
    refine ⟨rfl, mj_En.moved S X ad cI cR cJ cZ D A hE hW (fun q h1 h2 => by rw [hU]; exact hS.2.1 q h1 h2) (Nat.lt_of_lt_of_le hsp hB) hbA, by rw [hU]; exact hP, ?_⟩
    rw [hU]
    exact Nat.le_trans hB hS.1
  obtain ⟨hx, hb, hml, hown, hts, -, -, -⟩ := Fm
  have Fx : CallFix p m c (mj_tb T) (mj_tl T) s args mj_tbl (mj_tn T).cls := ⟨hx, hb, hml, hown, hts⟩
  have hTok := hTB
  unfold mj_okB at hTok
  rw [Bool.and_eq_true] at hTok
  have hcode := hTok.2
  unfold mj_callee at hc
  cases hat : mj_at T pc with
  | none => rw [hat] at hc; cases hc
  | some en =>
    obtain ⟨pc9, i, nx9, a, b, v⟩ := en
    rw [hat] at hc
    dsimp only at hc
    obtain ⟨hok, hpc9⟩ := mj_at_ok hat hcode
    have hpc9 : pc9 = pc := hpc9
    subst hpc9
    rw [Bool.and_eq_true] at hok
    obtain ⟨hokI, hokL⟩ := hok
    split at hc
    · next hisc =>
      split at hc
      · next T9 as9 rest9 hPa hpop =>
        split at hc
        · next hcond =>
          cases hc
          obtain ⟨hrcv, hrl, hone⟩ := hcond
          have hT' : T' ∈ P := List.mem_of_getElem? hPa
          have hTk := ok.2.1 T' hT'
          unfold mj_okM at hTk
          simp only [Bool.and_eq_true, decide_eq_true_eq] at hTk
          obtain ⟨⟨k1, k2, k3, k4, k5, k6⟩, -⟩ := hTk
          obtain ⟨hst, has⟩ := mj_pop_0 hpop
          have hcat : ((rest.map (mj_c S ad)).map fun v => v.category).sum ≤ 8 := by
            have := mj_cats (S := S) (ad := ad) rest
            omega
          have hroom : 8 + (mj_tl T' + 11) + (mj_rm d r.2.2).locals ≤ R.locals := by
            show 8 + (mj_tl T' + 11) + (60 * d + 240) ≤ R.locals
            omega
          have hfr : (mj_rm d r.2.2).frames + 1 ≤ R.frames := by
            show d + 12 + 1 ≤ R.frames
            omega
          have k1 := mj_inC k1
          have k2 := mj_inN k2
          have hpay := pay_in hts (mj_goodT k1)
          have hW9 : 2 * (F0 m pc9 ls (st.map (mj_c S ad))).monitorRoom + ((rest.map (mj_c S ad)).map fun v => v.category).sum ≤ 8 := lv_room hcat
          match i, hisc, hokI, hokL, hrcv with
          | .invokevirtual idx, _, hokI, hokL, hrcv =>
            obtain ⟨hd, hnx, -⟩ := mj_okD hokI rfl
            refine ⟨hnx, ?_⟩
            simp only [mj_okL] at hokL
            rw [hPa] at hokL
            dsimp only at hokL
            simp only [Bool.and_eq_true, decide_eq_true_eq] at hokL
            obtain ⟨⟨g1, g2, g3⟩, ⟨g4, g5, g6, g7⟩, g8⟩ := hokL
            cases hsh : S.1[mj_tp T']? with
            | none => rw [hsh] at g8; cases g8
            | some K =>
              match K, hsh, g8 with
              | .inl (ci, fs), hsh, g8 =>
                rw [hsh] at g8
                dsimp only at g8
                rw [decide_eq_true_eq] at g8
                cases hcl9 : vwCl[ci]? with
                | none => rw [hcl9] at g8; cases g8
                | some w =>
                  rw [hcl9] at g8
                  have hw1 : w.1 = (mj_tn T').cls := Option.some.inj g8
                  match as, hrcv, has, hst, hone, hM, hfb, hpre with
                  | .inr (.inr (.inl q)) :: as', hrcv, has, hst, hone, hM, hfb, hpre =>
                    have hq : q = mj_tp T' := by simpa [mj_rcv] using hrcv
                    subst hq
                    have hrec := va_recv hE.1 hP hcl9 (mj_w_at (S := S) (ad := ad) (cI := cI) (cR := cR) (cJ := cJ) (cZ := cZ) (M := M) hsh)
                    rw [hw1] at hrec
                    have hcode9 : mj_cw T' = Cond.code (mj_tn T') (mj_tb T') (mj_tl T') (mj_tr T') := by unfold mj_cw; rw [g4]
                    refine vx_runV (As := as'.map (mj_c S ad)) (n := b - 1) (C := (mj_tn T').cls) (bytes := mj_tb T') (maxL := mj_tl T') (ret := mj_tr T') Fx hM ⟨⟨rfl, rfl, hfr, hroom, hpay, ?_, ?_, hts _ k2, ⟨k3, k4⟩, mj_ln g5, hts _ (mj_inM g1)⟩, hts _ (mj_inI g2), hts _ (mj_inS g3)⟩ ⟨hfb, hrec, hpre⟩ rfl ?_ hsz ?_ hW9 hd ⟨hcl, hsl⟩
                    · rw [← hcode9]; exact List.mem_cons_self
                    · rw [← hcode9]; exact hts _ k1
                    · rw [List.length_map]
                      rw [List.length_cons] at has
                      omega
                    · show st.map (mj_c S ad) = _
                      rw [hst]
                      simp [mj_c]
                  | .inl _ :: _, hrcv, _, _, _, _, _, _ => simp [mj_rcv] at hrcv
                  | .inr (.inl _) :: _, hrcv, _, _, _, _, _, _ => simp [mj_rcv] at hrcv
                  | .inr (.inr (.inr _)) :: _, hrcv, _, _, _, _, _, _ => simp [mj_rcv] at hrcv
                  | [], hrcv, _, _, _, _, _, _ => simp [mj_rcv] at hrcv
              | .inr _, hsh, g8 =>
                rw [hsh] at g8
                cases g8
          | .invokestatic idx, _, hokI, hokL, hrcv =>
            obtain ⟨hd, hnx, -⟩ := mj_okD hokI rfl
            refine ⟨hnx, ?_⟩
            simp only [mj_okL] at hokL
            split at hokL
            · rw [hPa] at hokL
              dsimp only at hokL
              simp only [Bool.and_eq_true, Bool.or_eq_true, decide_eq_true_eq] at hokL
              obtain ⟨g1, g2, g3, g4⟩ := hokL
              have hstk : (F0 m pc9 ls (st.map (mj_c S ad))).stack = (as.map (mj_c S ad)).reverse ++ rest.map (mj_c S ad) := by
                show st.map (mj_c S ad) = _
                rw [hst]
                simp
              have hlen : (as.map (mj_c S ad)).length = b := by rw [List.length_map]; exact has
              rcases g1 with g1 | ⟨g5, g6, g7⟩
              · cases hh : mj_th T' with
                | nil =>
                  have hcode9 : mj_cw T' = Cond.code (mj_tn T') (mj_tb T') (mj_tl T') (mj_tr T') := by unfold mj_cw; rw [hh]
                  refine vx_runS (As := as.map (mj_c S ad)) (n := b) (bytes := mj_tb T') (maxL := mj_tl T') (ret := mj_tr T') Fx hM ⟨⟨rfl, rfl, hfr, hroom, hpay, ?_, ?_, hts _ k2, ⟨k3, k4⟩, mj_ln g3, hts _ (mj_inM g1)⟩, hts _ (mj_inT g2)⟩ ⟨hfb, hpre⟩ rfl hlen hsz hstk hW9 hd ⟨hcl, hsl⟩
                  · rw [← hcode9]; exact List.mem_cons_self
                  · rw [← hcode9]; exact hts _ k1
                | cons q9 hh9 =>
                  have hcode9 : mj_cw T' = Cond.codeWith (mj_tn T') (mj_tb T') (mj_tl T') (mj_tr T') ((q9 :: hh9).map (fun q => (q.1, q.2.1, q.2.2.1, q.2.2.2.1))) := by unfold mj_cw; rw [hh]
                  refine vx_runSX (As := as.map (mj_c S ad)) (n := b) (bytes := mj_tb T') (maxL := mj_tl T') (ret := mj_tr T') (hh := (q9 :: hh9).map (fun q => (q.1, q.2.1, q.2.2.1, q.2.2.2.1))) Fx hM ⟨⟨rfl, rfl, hfr, hroom, hpay, ?_⟩, ?_, hts _ k2, ⟨k3, k4⟩, mj_ln g3, hts _ (mj_inM g1), hts _ (mj_inT g2)⟩ ⟨hfb, hpre⟩ rfl hlen hsz hstk hW9 hd ⟨hcl, hsl⟩
                  · rw [← hcode9]; exact List.mem_cons_self
                  · rw [← hcode9]; exact hts _ k1
              · obtain ⟨q9, hq9, hq8⟩ := List.any_eq_true.mp g7
                rw [decide_eq_true_eq] at hq8
                have hnw := hE.2.2.2.2.2.2.1 q9 hq9
                rw [hq8.1, hq8.2.1, hq8.2.2] at hnw
                have hcode9 : mj_cw T' = Cond.code (mj_tn T') (mj_tb T') (mj_tl T') (mj_tr T') := by unfold mj_cw; rw [g5]
                obtain ⟨v9, hv9⟩ := hns (by rw [g6]; rfl)
                have hr9 := va_runSN (As := as.map (mj_c S ad)) (n := b) (bytes := mj_tb T') (maxL := mj_tl T') (ret := mj_tr T') (host := q9.2.2.2) (p := p) (e := e) (R := R) (m := m) (below := below) (meth := meth) (c := c) (H := H) (locs := locs) (cells := cells) (slots := slots) (rest := rest.map (mj_c S ad)) (g := F0 m pc9 ls (st.map (mj_c S ad))) Fx (mj_toMet hM hv9) ⟨⟨⟨rfl, rfl, hfr, hroom, hpay, by rw [← hcode9]; exact List.mem_cons_self⟩, by rw [← hcode9]; exact hts _ k1, hts _ k2, ⟨k3, k4⟩, mj_ln g3, va_Nw.use rfl hnw⟩, hts _ (mj_inT g2), trivial⟩ ⟨hfb, hpre⟩ rfl hlen hsz hstk hW9 hd ⟨hcl, hsl⟩
                intro T8 hT8 X8
                exact Or.inl (hr9 T8 hT8 X8)
            · next hge =>
              exfalso
              have h9 : P[a]? = none := List.getElem?_eq_none (Nat.le_trans ok.2.2.2.2.2.2.2 (Nat.le_of_not_lt hge))
              rw [h9] at hPa
              cases hPa
        · cases hc
      · cases hc
    · cases hc
end
