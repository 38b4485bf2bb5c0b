/-! A SMALL MACHINE over places: what the class, the reference and the law do, told by numbers alone. Values: an int, a long, a place (a fixed cell), a row of a grid. -/
abbrev mj_V : Type := Int32 ⊕ (Int64 ⊕ (Nat ⊕ (Nat × Nat)))
abbrev mj_L : Type := Nat → Option mj_V
abbrev mj_M : Type := (Nat → Nat → Int32) × Int64
abbrev mj_C : Type := Nat × mj_L × List mj_V × mj_M
abbrev mj_R : Type := (Nat ⊕ Option mj_V) × mj_M × Nat
/-- an index within -/
abbrev mj_in (i : Int32) (n : Nat) : Prop := ¬ (i < 0 ∨ n ≤ i.toNatClampNeg)
def mj_up (lo : mj_L) (i : Nat) (v : mj_V) : mj_L := fun j => if j = i then some v else lo j
def mj_dl (lo : mj_L) (i : Nat) : mj_L := fun j => if j = i then none else lo j
/-- memory with x in slot j of cell k -/
def mj_st (M : mj_M) (k j : Nat) (x : Int32) : mj_M := (fun a => if a = k then upd (M.1 a) j x else M.1 a, M.2)
/-- memory with another content of cell k -/
def mj_sc (M : mj_M) (k : Nat) (f : Nat → Int32) : mj_M := (fun a => if a = k then f else M.1 a, M.2)
def mj_pop : Nat → List mj_V → List mj_V → Option (List mj_V × List mj_V)
  | 0, st, acc => some (acc, st)
  | _ + 1, [], _ => none
  | n + 1, v :: st, acc => mj_pop n st (v :: acc)
/-- a cell: an object (its class, its fields: a place, or an int), an int array, a grid (rows, columns, the number of its first row), a long array, a boolean array -/
abbrev mj_K : Type := (Nat × List (Option Nat)) ⊕ (Nat ⊕ ((Nat × Nat × Nat) ⊕ (Nat ⊕ Nat)))
/-- a shape: the places; the columns of each row of the grids -/
abbrev mj_S : Type := List mj_K × List Nat
/-- the cell of row r of the grid whose rows begin at o -/
def mj_rw (S : mj_S) (o r : Nat) : Nat := S.1.length + 1 + (o + r)
section
variable (S : mj_S) (X : Nat × (Nat → Int32))
def mj_const (nx : Nat) (v : Int32) (lo : mj_L) (st : List mj_V) (M : mj_M) : Option mj_C := some (nx, lo, .inl v :: st, M)
def mj_iload (nx j : Nat) (lo : mj_L) (st : List mj_V) (M : mj_M) : Option mj_C := match lo j with
  | some (.inl x) => some (nx, lo, .inl x :: st, M)
  | _ => none
def mj_aload (nx j : Nat) (lo : mj_L) (st : List mj_V) (M : mj_M) : Option mj_C := match lo j with
  | some (.inr (.inr q)) => some (nx, lo, .inr (.inr q) :: st, M)
  | _ => none
def mj_istore (nx j : Nat) (lo : mj_L) (st : List mj_V) (M : mj_M) : Option mj_C := match st with
  | .inl x :: st => some (nx, mj_up lo j (.inl x), st, M)
  | _ => none
def mj_astore (nx j : Nat) (lo : mj_L) (st : List mj_V) (M : mj_M) : Option mj_C := match st with
  | .inr (.inr q) :: st => some (nx, mj_up lo j (.inr (.inr q)), st, M)
  | _ => none
def mj_iinc (nx j : Nat) (v : Int32) (lo : mj_L) (st : List mj_V) (M : mj_M) : Option mj_C := match lo j with
  | some (.inl x) => some (nx, mj_up lo j (.inl (x + v)), st, M)
  | _ => none
def mj_bin (f : Int32 → Int32 → Int32) (nx : Nat) (lo : mj_L) (st : List mj_V) (M : mj_M) : Option mj_C := match st with
  | .inl y :: .inl x :: st => some (nx, lo, .inl (f x y) :: st, M)
  | _ => none
def mj_div (f : Int32 → Int32 → Int32) (nx : Nat) (lo : mj_L) (st : List mj_V) (M : mj_M) : Option mj_C := match st with
  | .inl y :: .inl x :: st => if ¬ y = 0 then some (nx, lo, .inl (f x y) :: st, M) else none
  | _ => none
def mj_ineg (nx : Nat) (lo : mj_L) (st : List mj_V) (M : mj_M) : Option mj_C := match st with
  | .inl x :: st => some (nx, lo, .inl (-x) :: st, M)
  | _ => none
def mj_one (v : mj_V) : Bool := match v with
  | .inr (.inl _) => false
  | _ => true
def mj_dup (nx : Nat) (lo : mj_L) (st : List mj_V) (M : mj_M) : Option mj_C := match st with
  | v :: st => if mj_one v = true then some (nx, lo, v :: v :: st, M) else none
  | _ => none
def mj_pop1 (nx : Nat) (lo : mj_L) (st : List mj_V) (M : mj_M) : Option mj_C := match st with
  | v :: st => if mj_one v = true then some (nx, lo, st, M) else none
  | _ => none
def mj_dup2 (nx : Nat) (lo : mj_L) (st : List mj_V) (M : mj_M) : Option mj_C := match st with
  | v :: w :: st => if mj_one v = true ∧ mj_one w = true then some (nx, lo, v :: w :: v :: w :: st, M) else none
  | _ => none
def mj_dupx1 (nx : Nat) (lo : mj_L) (st : List mj_V) (M : mj_M) : Option mj_C := match st with
  | v :: w :: st => if mj_one v = true ∧ mj_one w = true then some (nx, lo, v :: w :: v :: st, M) else none
  | _ => none
def mj_i2l (nx : Nat) (lo : mj_L) (st : List mj_V) (M : mj_M) : Option mj_C := match st with
  | .inl x :: st => some (nx, lo, .inr (.inl x.toInt64) :: st, M)
  | _ => none
def mj_lcmp (nx : Nat) (lo : mj_L) (st : List mj_V) (M : mj_M) : Option mj_C := match st with
  | .inr (.inl y) :: .inr (.inl x) :: st => some (nx, lo, .inl (lg_cmp x y) :: st, M)
  | _ => none
/-- a branch on an int against 0, on two ints -/
def mj_br (c : ClassFile.Cond) (x y : Int32) (a nx : Nat) (lo : mj_L) (st : List mj_V) (M : mj_M) : Option mj_C := match c with
  | .eq => if x = y then some (a, lo, st, M) else some (nx, lo, st, M)
  | .ne => if x = y then some (nx, lo, st, M) else some (a, lo, st, M)
  | .lt => if x < y then some (a, lo, st, M) else some (nx, lo, st, M)
  | .ge => if y ≤ x then some (a, lo, st, M) else some (nx, lo, st, M)
  | .gt => if y < x then some (a, lo, st, M) else some (nx, lo, st, M)
  | .le => if x ≤ y then some (a, lo, st, M) else some (nx, lo, st, M)
def mj_if0 (c : ClassFile.Cond) (a nx : Nat) (lo : mj_L) (st : List mj_V) (M : mj_M) : Option mj_C := match st with
  | .inl x :: st => mj_br c x 0 a nx lo st M
  | _ => none
def mj_if2 (c : ClassFile.Cond) (a nx : Nat) (lo : mj_L) (st : List mj_V) (M : mj_M) : Option mj_C := match st with
  | .inl y :: .inl x :: st => mj_br c x y a nx lo st M
  | _ => none
def mj_get (nx a b : Nat) (lo : mj_L) (st : List mj_V) (M : mj_M) : Option mj_C := match st with
  | .inr (.inr (.inl q)) :: st => if q = a then (match S.1[a]? with
      | some (.inl (_, fs)) => (match fs[b]? with
          | some (some q') => some (nx, lo, .inr (.inr (.inl q')) :: st, M)
          | some none => some (nx, lo, .inl (M.1 a b) :: st, M)
          | none => none)
      | _ => none) else none
  | _ => none
/-- v = 1: the field is a boolean -/
def mj_put (nx a b : Nat) (v : Int32) (lo : mj_L) (st : List mj_V) (M : mj_M) : Option mj_C := match st with
  | .inl x :: .inr (.inr (.inl q)) :: st => if q = a then (match S.1[a]? with
      | some (.inl (_, fs)) => (match fs[b]? with
          | some none => if v = 0 ∨ x = 0 ∨ x = 1 then some (nx, lo, st, mj_st M a b x) else none
          | _ => none)
      | _ => none) else none
  | _ => none
def mj_iald (nx : Nat) (lo : mj_L) (st : List mj_V) (M : mj_M) : Option mj_C := match st with
  | .inl i :: .inr (.inr (.inl q)) :: st => (match S.1[q]? with
      | some (.inr (.inl n)) => if mj_in i n then some (nx, lo, .inl (M.1 q i.toNatClampNeg) :: st, M) else none
      | none => if q = S.1.length ∧ mj_in i X.1 then some (nx, lo, .inl (X.2 i.toNatClampNeg) :: st, M) else none
      | _ => none)
  | .inl i :: .inr (.inr (.inr (g, r))) :: st => (match S.1[g]? with
      | some (.inr (.inr (.inl (n, c, o)))) => if r < n ∧ mj_in i c then some (nx, lo, .inl (M.1 (mj_rw S o r) i.toNatClampNeg) :: st, M) else none
      | _ => none)
  | _ => none
def mj_iast (nx : Nat) (lo : mj_L) (st : List mj_V) (M : mj_M) : Option mj_C := match st with
  | .inl x :: .inl i :: .inr (.inr (.inl q)) :: st => (match S.1[q]? with
      | some (.inr (.inl n)) => if mj_in i n then some (nx, lo, st, mj_st M q i.toNatClampNeg x) else none
      | _ => none)
  | .inl x :: .inl i :: .inr (.inr (.inr (g, r))) :: st => (match S.1[g]? with
      | some (.inr (.inr (.inl (n, c, o)))) => if r < n ∧ mj_in i c then some (nx, lo, st, mj_st M (mj_rw S o r) i.toNatClampNeg x) else none
      | _ => none)
  | _ => none
def mj_zald (nx : Nat) (lo : mj_L) (st : List mj_V) (M : mj_M) : Option mj_C := match st with
  | .inl i :: .inr (.inr (.inl q)) :: st => (match S.1[q]? with
      | some (.inr (.inr (.inr (.inr n)))) => if mj_in i n then some (nx, lo, .inl (M.1 q i.toNatClampNeg) :: st, M) else none
      | _ => none)
  | _ => none
def mj_zast (nx : Nat) (lo : mj_L) (st : List mj_V) (M : mj_M) : Option mj_C := match st with
  | .inl x :: .inl i :: .inr (.inr (.inl q)) :: st => (match S.1[q]? with
      | some (.inr (.inr (.inr (.inr n)))) => if mj_in i n ∧ (x = 0 ∨ x = 1) then some (nx, lo, st, mj_st M q i.toNatClampNeg x) else none
      | _ => none)
  | _ => none
def mj_aald (nx : Nat) (lo : mj_L) (st : List mj_V) (M : mj_M) : Option mj_C := match st with
  | .inl i :: .inr (.inr (.inl q)) :: st => (match S.1[q]? with
      | some (.inr (.inr (.inl (n, _, _)))) => if mj_in i n then some (nx, lo, .inr (.inr (.inr (q, i.toNatClampNeg))) :: st, M) else none
      | _ => none)
  | _ => none
def mj_lald (nx : Nat) (lo : mj_L) (st : List mj_V) (M : mj_M) : Option mj_C := match st with
  | .inl i :: .inr (.inr (.inl q)) :: st => (match S.1[q]? with
      | some (.inr (.inr (.inr (.inl _)))) => if i = 0 then some (nx, lo, .inr (.inl M.2) :: st, M) else none
      | _ => none)
  | _ => none
def mj_last (nx : Nat) (lo : mj_L) (st : List mj_V) (M : mj_M) : Option mj_C := match st with
  | .inr (.inl y) :: .inl i :: .inr (.inr (.inl q)) :: st => (match S.1[q]? with
      | some (.inr (.inr (.inr (.inl _)))) => if i = 0 then some (nx, lo, st, (M.1, y)) else none
      | _ => none)
  | _ => none
def mj_alen (nx : Nat) (lo : mj_L) (st : List mj_V) (M : mj_M) : Option mj_C := match st with
  | .inr (.inr (.inl q)) :: st => (match S.1[q]? with
      | some (.inr (.inl n)) => some (nx, lo, .inl (Int32.ofNat n) :: st, M)
      | none => if q = S.1.length then some (nx, lo, .inl (Int32.ofNat X.1) :: st, M) else none
      | _ => none)
  | _ => none
/-- Math.abs (a = 1000), System.arraycopy of ints (a = 1001) -/
def mj_nat (nx a : Nat) (lo : mj_L) (st : List mj_V) (M : mj_M) : Option mj_C :=
  if a = 1000 then (match st with
    | .inl x :: st => if st.length ≤ 4 then some (nx, lo, .inl (if 0 ≤ x then x else 0 - x) :: st, M) else none
    | _ => none)
  else if a = 1001 then (match st with
    | .inl n :: .inl dp :: .inr (.inr (.inl q1)) :: .inl sp :: .inr (.inr (.inl q0)) :: st => (match S.1[q0]?, S.1[q1]? with
        | some (.inr (.inl n0)), some (.inr (.inl n1)) =>
          if (¬ sp < 0 ∧ ¬ dp < 0 ∧ ¬ n < 0 ∧ st.length ≤ 4) ∧ (sp.toNatClampNeg + n.toNatClampNeg ≤ n0 ∧ dp.toNatClampNeg + n.toNatClampNeg ≤ n1) then
            some (nx, lo, st, mj_sc M q1 (va_cpy (M.1 q0) (M.1 q1) sp.toNatClampNeg dp.toNatClampNeg n.toNatClampNeg)) else none
        | _, _ => none)
    | _ => none)
  else none
def mj_tsw (pc : Nat) (dflt lw hi : Int) (offs : Array Int) (lo : mj_L) (st : List mj_V) (M : mj_M) : Option mj_C := match st with
  | .inl x :: st => if x.toInt < lw ∨ hi < x.toInt then (if 0 ≤ (pc : Int) + dflt then some (((pc : Int) + dflt).toNat, lo, st, M) else none) else (match offs[(x.toInt - lw).toNat]? with
      | some off => if 0 ≤ (pc : Int) + off then some (((pc : Int) + off).toNat, lo, st, M) else none
      | none => none)
  | _ => none
/-- one instruction that is no call, no end, no throw -/
def mj_step (pc : Nat) (i : Instr) (nx a b : Nat) (v : Int32) (lo : mj_L) (st : List mj_V) (M : mj_M) : Option mj_C := match i with
  | .iconst _ => mj_const nx v lo st M
  | .bipush _ => mj_const nx v lo st M
  | .sipush _ => mj_const nx v lo st M
  | .ldc _ => mj_const nx v lo st M
  | .iload_n j => mj_iload nx j lo st M
  | .iload j => mj_iload nx j lo st M
  | .aload_n j => mj_aload nx j lo st M
  | .aload j => mj_aload nx j lo st M
  | .istore_n j => mj_istore nx j lo st M
  | .istore j => mj_istore nx j lo st M
  | .astore_n j => mj_astore nx j lo st M
  | .astore j => mj_astore nx j lo st M
  | .iinc j _ => mj_iinc nx j v lo st M
  | .iadd => mj_bin (fun x y => x + y) nx lo st M
  | .isub => mj_bin (fun x y => x - y) nx lo st M
  | .imul => mj_bin (fun x y => x * y) nx lo st M
  | .iand => mj_bin (fun x y => x &&& y) nx lo st M
  | .idiv => mj_div (fun x y => x / y) nx lo st M
  | .irem => mj_div (fun x y => x - x / y * y) nx lo st M
  | .ineg => mj_ineg nx lo st M
  | .dup => mj_dup nx lo st M
  | .pop => mj_pop1 nx lo st M
  | .dup2 => mj_dup2 nx lo st M
  | .dup_x1 => mj_dupx1 nx lo st M
  | .i2l => mj_i2l nx lo st M
  | .lcmp => mj_lcmp nx lo st M
  | .ifCond c _ => mj_if0 c a nx lo st M
  | .if_icmp c _ => mj_if2 c a nx lo st M
  | .goto _ => some (a, lo, st, M)
  | .getfield _ => mj_get S nx a b lo st M
  | .putfield _ => mj_put S nx a b v lo st M
  | .iaload => mj_iald S X nx lo st M
  | .iastore => mj_iast S nx lo st M
  | .aaload => mj_aald S nx lo st M
  | .baload => mj_zald S nx lo st M
  | .bastore => mj_zast S nx lo st M
  | .laload => mj_lald S nx lo st M
  | .lastore => mj_last S nx lo st M
  | .arraylength => mj_alen S X nx lo st M
  | .invokestatic _ => mj_nat S nx a lo st M
  | .tableswitch dflt lw hi offs => mj_tsw pc dflt lw hi offs lo st M
  | _ => none
end
abbrev mj_I : Type := Nat × Instr × Nat × Nat × Nat × Int32
/-- a method: name, bytes, locals, what it returns, the place of its object, its handlers (from, to, at, the pool's number, the exception, the place behind the store, the local), its instructions by sixteens of the pc -/
abbrev mj_T : Type := MethodName × ByteArray × Nat × Option FieldType × Nat × List (Nat × Nat × Nat × Nat × Nat × Nat × Nat) × List (List mj_I)
abbrev mj_tn (T : mj_T) : MethodName := T.1
abbrev mj_tb (T : mj_T) : ByteArray := T.2.1
abbrev mj_tl (T : mj_T) : Nat := T.2.2.1
abbrev mj_tr (T : mj_T) : Option FieldType := T.2.2.2.1
abbrev mj_tp (T : mj_T) : Nat := T.2.2.2.2.1
abbrev mj_th (T : mj_T) : List (Nat × Nat × Nat × Nat × Nat × Nat × Nat) := T.2.2.2.2.2.1
abbrev mj_tc (T : mj_T) : List (List mj_I) := T.2.2.2.2.2.2
def mj_at (T : mj_T) (pc : Nat) : Option mj_I := match (mj_tc T)[pc / 16]? with
  | some ch => ch.find? (fun e => e.1 == pc)
  | none => none
def mj_isc (i : Instr) : Bool := match i with
  | .invokevirtual _ => true
  | .invokestatic _ => true
  | _ => false
def mj_rcv (i : Instr) (T : mj_T) (as : List mj_V) : Bool := match i with
  | .invokevirtual _ => (match as with
      | .inr (.inr (.inl q)) :: _ => q == mj_tp T
      | _ => false)
  | _ => true
def mj_cat : List (Nat × Nat × Nat × Nat × Nat × Nat × Nat) → Nat → Nat → Option (Nat × Nat)
  | [], _, _ => none
  | (f, t, _, _, E', h, j) :: r, pc, E => if f ≤ pc ∧ pc < t ∧ E' = E then some (h, j) else mj_cat r pc E
