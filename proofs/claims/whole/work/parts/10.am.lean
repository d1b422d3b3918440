/-! A LITTLE MACHINE (am_): places for addresses, one memory of ints; its runs are those of the real one (part 12) -/
abbrev am_L : Type := List (Option Value)
/-- an array: element type, length, and, if of references, what it holds; an object: number of its class, its fields (none: an int kept in the memory; some r: a reference) -/
abbrev am_S : Type := (FieldType × Nat × Option (List (Option Nat))) ⊕ (Nat × List (Option (Option Nat)))
abbrev am_M : Type := Nat → Nat → Int32
/-- an instruction: pc, instruction, length, and what its number in the pool is: two numbers and a value -/
abbrev am_I : Type := Nat × Instr × Nat × Nat × Nat × Value
/-- a method: (name, bytes, locals, type of its answer), (parameters, 1 if it has a receiver), room, code -/
abbrev am_D : Type := (MethodName × ByteArray × Nat × Option FieldType) × (Nat × Nat) × Room × List am_I
abbrev am_C : Type := Nat × am_L × List Value × List am_S × am_M × Nat × Nat
/-- methods, classes, their fields' types, words of the tables, bytes of the String constants, where they stand: (class, number, which, text); links to private members of nest mates; classes of which there are arrays -/
abbrev am_X : Type := List am_D × List vw_C × List (Nat → FieldType) × List Jvm.Cond × List (List Int32) × List (String × Nat × Nat × String) × List (String × Nat × MethodName × String) × List String
def am_up (M : am_M) (p k : Nat) (v : Int32) : am_M := fun q => if q = p then upd (M q) k v else M q
def am_wr (M : am_M) (p : Nat) (f : Nat → Int32) : am_M := fun q => if q = p then f else M q
def am_ld (L : am_L) (i : Nat) : Option Value := match L[i]? with
  | some (some v) => some v
  | _ => none
def am_pw (L : am_L) : Nat → Bool
  | 0 => false
  | k + 1 => match am_ld L k with
    | some v => v.category == 2
    | none => false
def am_s1 (L : am_L) (i : Nat) (v : Value) : Option am_L := if i < L.length then (if am_pw L i then none else some (L.set i (some v))) else none
def am_s2 (L : am_L) (i : Nat) (v : Value) : Option am_L := if i + 1 < L.length then (if am_pw L i then none else some ((L.set i (some v)).set (i + 1) none)) else none
def am_okr (n p : Nat) : Bool := decide (p < n) || decide (1000 ≤ p)
def am_ok (n : Nat) (v : Value) : Bool := match v with
  | .ref p => am_okr n p
  | _ => true
def am_okL (n : Nat) (L : am_L) : Bool := L.all (fun o => match o with
  | some v => am_ok n v
  | none => true)
def am_okV (n : Nat) (st : List Value) : Bool := st.all (am_ok n)
def am_oko (n : Nat) (o : Option Nat) : Bool := match o with
  | some p => decide (p < n)
  | none => true
def am_okS (n : Nat) (sh : List am_S) : Bool := sh.all (fun c => match c with
  | .inl (_, _, some rs) => rs.all (am_oko n)
  | .inl (_, _, none) => true
  | .inr (_, fs) => fs.all (fun f => match f with
    | some o => am_oko n o
    | none => true))
def am_rv (o : Option Nat) : Value := match o with
  | some q => .ref q
  | none => .null
def am_dbin (i : Int32) (n : Nat) : Bool := !(decide (i < 0) || decide (n ≤ i.toNatClampNeg))
/-- the fields of a new object -/
def am_df (ty : Nat → FieldType) (N : Nat) : List (Option (Option Nat)) := (List.range N).map (fun k => match ty k with
  | .object _ => some none
  | .array _ => some none
  | _ => none)
def am_prim (ty : FieldType) : Bool := ty == .int || ty == .byte || ty == .boolean
abbrev am_N : Type := Option (Nat × am_L × List Value × List am_S × am_M × Nat × Nat)
/-- getfield -/
def am_gf (X : am_X) (sh : List am_S) (M : am_M) (p ci k : Nat) : Option Value :=
  if p < 1000 then (match sh[p]? with
    | some (.inr (ci', fs)) => if ci' = ci ∧ ci ≠ 100 then (match fs[k]? with
      | some none => some (.int (M p k))
      | some (some o) => some (am_rv o)
      | none => none) else none
    | _ => none)
  else if ci = 100 then (match X.2.2.2.2.1[p - 1001]? with
    | some _ => if 1001 ≤ p then (if k = 0 then some (.ref (100 + p)) else if k = 1 then some (.int 0) else none) else none
    | none => none)
  else none
/-- putfield; what: 0 an int, 1 a boolean, else a reference -/
def am_pf (sh : List am_S) (M : am_M) (p ci k : Nat) (w : Value) (v : Value) : Option (List am_S × am_M) :=
  if p < 1000 then (match sh[p]? with
    | some (.inr (ci', fs)) => if ci' = ci then (match fs[k]?, v, w with
      | some none, .int x, .int 0 => some (sh, am_up M p k x)
      | some none, .int x, .int 1 => if x = 0 ∨ x = 1 then some (sh, am_up M p k x) else none
      | some (some _), .ref q, .null => if q < sh.length ∧ q < 1000 then some (sh.set p (.inr (ci, fs.set k (some (some q)))), M) else none
      | _, _, _ => none) else none
    | _ => none)
  else none
/-- int array: its length -/
def am_ia (ty : FieldType) (sh : List am_S) (p : Nat) : Option Nat := if p < 1000 then (match sh[p]? with
  | some (.inl (ty', n, none)) => if ty' = ty then some n else none
  | _ => none) else none
/-- byte or boolean array: its type and length -/
def am_ba (sh : List am_S) (p : Nat) : Option (FieldType × Nat) := match am_ia .byte sh p with
  | some n => some (.byte, n)
  | none => match am_ia .boolean sh p with
    | some n => some (.boolean, n)
    | none => none
def am_ial (LN : Nat) (xs : Nat → Int32) (sh : List am_S) (M : am_M) (p : Nat) (i : Int32) : Option Int32 :=
  if p = 1000 then (if am_dbin i LN then some (xs i.toNatClampNeg) else none) else (match am_ia .int sh p with
    | some n => if am_dbin i n then some (M p i.toNatClampNeg) else none
    | none => none)
def am_bal (X : am_X) (sh : List am_S) (M : am_M) (p : Nat) (i : Int32) : Option Int32 := match am_ba sh p with
  | some (_, n) => if am_dbin i n then some (M p i.toNatClampNeg) else none
  | none => if 1101 ≤ p then (match X.2.2.2.2.1[p - 1101]? with
    | some b => if am_dbin i b.length then some (b.getD i.toNatClampNeg 0) else none
    | none => none) else none
def am_len (X : am_X) (LN : Nat) (sh : List am_S) (p : Nat) : Option Nat :=
  if p = 1000 then some LN
  else if p < 1000 then (match sh[p]? with
    | some (.inl (_, n, _)) => some n
    | _ => none)
  else if 1101 ≤ p then (match X.2.2.2.2.1[p - 1101]? with
    | some b => some b.length
    | none => none)
  else none
def am_aal (sh : List am_S) (p : Nat) (i : Int32) : Option Value := if p < 1000 then (match sh[p]? with
  | some (.inl (.object _, n, some rs)) => if am_dbin i n then some (am_rv (rs.getD i.toNatClampNeg none)) else none
  | _ => none) else none
def am_aas (X : am_X) (sh : List am_S) (p : Nat) (i : Int32) (q : Nat) : Option (List am_S) := if p < 1000 ∧ q < 1000 then (match sh[p]?, sh[q]? with
  | some (.inl (ty, n, some rs)), some (.inr (ci, _)) => (match X.2.1[ci]? with
    | some r => if ty = .object r.1 ∧ am_dbin i n = true ∧ i.toNatClampNeg < rs.length then some (sh.set p (.inl (ty, n, some (rs.set i.toNatClampNeg (some q))))) else none
    | none => none)
  | _, _ => none) else none
/-- may a cell be made here -/
def am_mk (L : am_L) (st : List Value) (sh : List am_S) : Bool := decide (sh.length < 999) && am_okL sh.length L && am_okV sh.length st && am_okS sh.length sh
def am_ac (sh : List am_S) (M : am_M) (p0 p1 : Nat) (sp dp n : Int32) : Option am_M := match am_ia .int sh p0, am_ia .int sh p1 with
  | some n0, some n1 => if ¬ sp < 0 ∧ ¬ dp < 0 ∧ ¬ n < 0 ∧ sp.toNatClampNeg + n.toNatClampNeg ≤ n0 ∧ dp.toNatClampNeg + n.toNatClampNeg ≤ n1 then some (am_wr M p1 (va_cpy (M p0) (M p1) sp.toNatClampNeg dp.toNatClampNeg n.toNatClampNeg)) else none
  | _, _ => none
def am_c1 (c : ClassFile.Cond) (x : Int32) : Bool := match c with
  | .eq => decide (x = 0)
  | .ne => !decide (x = 0)
  | .lt => decide (x < 0)
  | .ge => decide (0 ≤ x)
  | .gt => decide (0 < x)
  | .le => decide (x ≤ 0)
def am_c2 (c : ClassFile.Cond) (x y : Int32) : Bool := match c with
  | .eq => decide (x = y)
  | .ne => !decide (x = y)
  | .lt => decide (x < y)
  | .ge => decide (y ≤ x)
  | .gt => decide (y < x)
  | .le => decide (x ≤ y)
def am_b2 (f : Int32 → Int32 → Int32) (pc : Nat) (L : am_L) (st : List Value) (sh : List am_S) (M : am_M) : am_N := match st with
  | .int y :: .int x :: r => some (pc + 1, L, .int (f x y) :: r, sh, M, 0, 0)
  | _ => none
def am_b1 (f : Int32 → Int32) (pc : Nat) (L : am_L) (st : List Value) (sh : List am_S) (M : am_M) : am_N := match st with
  | .int x :: r => some (pc + 1, L, .int (f x) :: r, sh, M, 0, 0)
  | _ => none
def am_mm (f : Int32 → Int32 → Int32) (pc : Nat) (L : am_L) (st : List Value) (sh : List am_S) (M : am_M) : am_N := match st with
  | .int y :: .int x :: r => if (r.map fun v => v.category).sum ≤ 8 then some (pc + 3, L, .int (f x y) :: r, sh, M, 0, 0) else none
  | _ => none
def am_ldx (k : Nat) (i : Nat) (len pc : Nat) (L : am_L) (st : List Value) (sh : List am_S) (M : am_M) : am_N := match am_ld L i with
  | some (.int v) => if k = 0 then some (pc + len, L, .int v :: st, sh, M, 0, 0) else none
  | some (.long v) => if k = 1 then some (pc + len, L, .long v :: st, sh, M, 0, 0) else none
  | some (.ref v) => if k = 2 then some (pc + len, L, .ref v :: st, sh, M, 0, 0) else none
  | some .null => if k = 2 then some (pc + len, L, .null :: st, sh, M, 0, 0) else none
  | _ => none
def am_stx (k : Nat) (i : Nat) (len pc : Nat) (L : am_L) (st : List Value) (sh : List am_S) (M : am_M) : am_N := match st with
  | .int v :: r => if k = 0 then (am_s1 L i (.int v)).map (fun L' => (pc + len, L', r, sh, M, 0, 0)) else none
  | .long v :: r => if k = 1 then (am_s2 L i (.long v)).map (fun L' => (pc + len, L', r, sh, M, 0, 0)) else none
  | .ref v :: r => if k = 2 then (am_s1 L i (.ref v)).map (fun L' => (pc + len, L', r, sh, M, 0, 0)) else none
  | _ => none
/-- one instruction that neither calls a method of ours nor ends one -/
def am_nx (X : am_X) (LN : Nat) (xs : Nat → Int32) (x : Instr) (len r1 r2 : Nat) (rv : Value) (pc : Nat) (L : am_L) (st : List Value) (sh : List am_S) (M : am_M) : am_N := match x with
  | .iconst n => some (pc + 1, L, .int (Int32.ofInt n) :: st, sh, M, 0, 0)
  | .bipush n => some (pc + 2, L, .int (Int8.ofInt n).toInt32 :: st, sh, M, 0, 0)
  | .sipush n => some (pc + 3, L, .int (Int16.ofInt n).toInt32 :: st, sh, M, 0, 0)
  | .lconst n => some (pc + 1, L, .long (Int64.ofNat (n : Nat)) :: st, sh, M, 0, 0)
  | .ldc _ => some (pc + 2, L, rv :: st, sh, M, 0, 0)
  | .ldc_w _ => some (pc + 3, L, rv :: st, sh, M, 0, 0)
  | .ldc2_w _ => some (pc + 3, L, rv :: st, sh, M, 0, 0)
  | .getstatic _ => some (pc + 3, L, rv :: st, sh, M, 0, 0)
  | .iload_n k => am_ldx 0 (k : Nat) 1 pc L st sh M
  | .iload i => am_ldx 0 i 2 pc L st sh M
  | .lload_n k => am_ldx 1 (k : Nat) 1 pc L st sh M
  | .lload i => am_ldx 1 i 2 pc L st sh M
  | .aload_n k => am_ldx 2 (k : Nat) 1 pc L st sh M
  | .aload i => am_ldx 2 i 2 pc L st sh M
  | .istore_n k => am_stx 0 (k : Nat) 1 pc L st sh M
  | .istore i => am_stx 0 i 2 pc L st sh M
  | .lstore i => am_stx 1 i 2 pc L st sh M
  | .astore_n k => am_stx 2 (k : Nat) 1 pc L st sh M
  | .astore i => am_stx 2 i 2 pc L st sh M
  | .iinc i n => (match am_ld L i with
    | some (.int v) => (am_s1 L i (.int (v + Int32.ofInt n))).map (fun L' => (pc + 3, L', st, sh, M, 0, 0))
    | _ => none)
  | .iadd => am_b2 (fun x y => x + y) pc L st sh M
  | .isub => am_b2 (fun x y => x - y) pc L st sh M
  | .imul => am_b2 (fun x y => x * y) pc L st sh M
  | .iand => am_b2 (fun x y => x &&& y) pc L st sh M
  | .ior => am_b2 (fun x y => x ||| y) pc L st sh M
  | .ixor => am_b2 (fun x y => x ^^^ y) pc L st sh M
  | .ishl => am_b2 (fun x y => x <<< (y &&& 31)) pc L st sh M
  | .ishr => am_b2 (fun x y => x >>> (y &&& 31)) pc L st sh M
  | .iushr => am_b2 (fun x y => (x.toUInt32 >>> (y.toUInt32 &&& Int32.toUInt32 31)).toInt32) pc L st sh M
  | .idiv => (match st with
    | .int y :: .int x :: r => if y = 0 then none else some (pc + 1, L, .int (x / y) :: r, sh, M, 0, 0)
    | _ => none)
  | .irem => (match st with
    | .int y :: .int x :: r => if y = 0 then none else some (pc + 1, L, .int (x - x / y * y) :: r, sh, M, 0, 0)
    | _ => none)
  | .i2b => am_b1 (fun x => x.toInt8.toInt32) pc L st sh M
  | .i2s => am_b1 (fun x => x.toInt16.toInt32) pc L st sh M
  | .i2c => am_b1 (fun x => (x.toUInt32 % 65536).toInt32) pc L st sh M
  | .i2l => (match st with
    | .int x :: r => some (pc + 1, L, .long x.toInt64 :: r, sh, M, 0, 0)
    | _ => none)
  | .ladd => (match st with
    | .long y :: .long x :: r => some (pc + 1, L, .long (x + y) :: r, sh, M, 0, 0)
    | _ => none)
  | .lcmp => (match st with
    | .long y :: .long x :: r => some (pc + 1, L, .int (lg_cmp x y) :: r, sh, M, 0, 0)
    | _ => none)
  | .dup => (match st with
    | .int a :: r => some (pc + 1, L, .int a :: .int a :: r, sh, M, 0, 0)
    | .ref a :: r => some (pc + 1, L, .ref a :: .ref a :: r, sh, M, 0, 0)
    | _ => none)
  | .dup2 => (match st with
    | .int a :: .ref b :: r => some (pc + 1, L, .int a :: .ref b :: .int a :: .ref b :: r, sh, M, 0, 0)
    | _ => none)
  | .pop => (match st with
    | .int _ :: r => some (pc + 1, L, r, sh, M, 0, 0)
    | _ => none)
  | .goto _ => some (r1, L, st, sh, M, 0, 0)
  | .ifCond c _ => (match st with
    | .int x :: r => some (if am_c1 c x then r1 else pc + 3, L, r, sh, M, 0, 0)
    | _ => none)
  | .if_icmp c _ => (match st with
    | .int y :: .int x :: r => some (if am_c2 c x y then r1 else pc + 3, L, r, sh, M, 0, 0)
    | _ => none)
  | .tableswitch dflt lo hi offs => (match st with
    | .int x :: r => if x.toInt < lo ∨ hi < x.toInt then (if 0 ≤ (pc : Int) + dflt then some (((pc : Int) + dflt).toNat, L, r, sh, M, 0, 0) else none) else (match offs[(x.toInt - lo).toNat]? with
      | some off => if 0 ≤ (pc : Int) + off then some (((pc : Int) + off).toNat, L, r, sh, M, 0, 0) else none
      | none => none)
    | _ => none)
  | .lookupswitch dflt ps => (match st with
    | .int x :: r => if 0 ≤ (pc : Int) + Op.lookupswitch.offset ps.toList dflt x.toInt then some (((pc : Int) + Op.lookupswitch.offset ps.toList dflt x.toInt).toNat, L, r, sh, M, 0, 0) else none
    | _ => none)
  | .getfield _ => (match st with
    | .ref p :: r => (match am_gf X sh M p r1 r2 with
      | some v => some (pc + 3, L, v :: r, sh, M, 0, 0)
      | none => none)
    | _ => none)
  | .putfield _ => (match st with
    | v :: .ref p :: r => (match am_pf sh M p r1 r2 rv v with
      | some (sh', M') => some (pc + 3, L, r, sh', M', 0, 0)
      | none => none)
    | _ => none)
  | .iaload => (match st with
    | .int i :: .ref p :: r => (match am_ial LN xs sh M p i with
      | some v => some (pc + 1, L, .int v :: r, sh, M, 0, 0)
      | none => none)
    | _ => none)
  | .baload => (match st with
    | .int i :: .ref p :: r => (match am_bal X sh M p i with
      | some v => some (pc + 1, L, .int v :: r, sh, M, 0, 0)
      | none => none)
    | _ => none)
  | .aaload => (match st with
    | .int i :: .ref p :: r => (match am_aal sh p i with
      | some v => some (pc + 1, L, v :: r, sh, M, 0, 0)
      | none => none)
    | _ => none)
  | .iastore => (match st with
    | .int v :: .int i :: .ref p :: r => (match am_ia .int sh p with
      | some n => if am_dbin i n then some (pc + 1, L, r, sh, am_up M p i.toNatClampNeg v, 0, 0) else none
      | none => none)
    | _ => none)
  | .bastore => (match st with
    | .int v :: .int i :: .ref p :: r => (match am_ba sh p with
      | some (ty, n) => if am_dbin i n then some (pc + 1, L, r, sh, am_up M p i.toNatClampNeg (vp_nar ty v), 0, 0) else none
      | none => none)
    | _ => none)
  | .aastore => (match st with
    | .ref q :: .int i :: .ref p :: r => (match am_aas X sh p i q with
      | some sh' => some (pc + 1, L, r, sh', M, 0, 0)
      | none => none)
    | _ => none)
  | .arraylength => (match st with
    | .ref p :: r => (match am_len X LN sh p with
      | some n => some (pc + 1, L, .int (Int32.ofNat n) :: r, sh, M, 0, 0)
      | none => none)
    | _ => none)
  | .new _ => (match X.2.1[r1]?, X.2.2.1[r1]? with
    | some r, some ty => if am_mk L st sh then some (pc + 3, L, .ref sh.length :: st, sh ++ [.inr (r1, am_df ty r.2.2)], am_wr M sh.length (fun _ => 0), 1, r.2.2) else none
    | _, _ => none)
  | .newarray a => (match st with
    | .int n :: r => if am_mk L r sh ∧ am_prim (newarray.typeOf a) = true ∧ ¬ n < 0 ∧ n.toNatClampNeg ≤ 1000 then some (pc + 2, L, .ref sh.length :: r, sh ++ [.inl (newarray.typeOf a, n.toNatClampNeg, none)], am_wr M sh.length (fun _ => 0), 1, n.toNatClampNeg) else none
    | _ => none)
  | .anewarray _ => (match st, X.2.1[r1]? with
    | .int n :: r, some q => if am_mk L r sh ∧ ¬ n < 0 ∧ n.toNatClampNeg ≤ 1000 then some (pc + 3, L, .ref sh.length :: r, sh ++ [.inl (.object q.1, n.toNatClampNeg, some (List.replicate n.toNatClampNeg none))], am_wr M sh.length (fun _ => 0), 1, n.toNatClampNeg) else none
    | _, _ => none)
  | .invokestatic _ => if r1 = 902 then am_mm (fun x y => if x < y then y else x) pc L st sh M else if r1 = 903 then am_mm (fun x y => if y < x then y else x) pc L st sh M else (match st with
    | .int n :: .int dp :: .ref p1 :: .int sp :: .ref p0 :: r => if r1 = 900 ∧ (r.map fun v => v.category).sum ≤ 8 then (match am_ac sh M p0 p1 sp dp n with
      | some M' => some (pc + 3, L, r, sh, M', 0, 0)
      | none => none) else none
    | _ => none)
  | .invokespecial _ => (match st with
    | .ref p :: r => if r1 = 901 ∧ p < sh.length ∧ p < 1000 ∧ (r.map fun v => v.category).sum ≤ 8 then some (pc + 3, L, r, sh, M, 0, 0) else none
    | _ => none)
  | _ => none
/-- is it a call of a method of ours: 0 no, 1 virtual, 2 static, 3 special -/
def am_kd (x : Instr) (r1 : Nat) : Nat := if 900 ≤ r1 then 0 else match x with
  | .invokevirtual _ => 1
  | .invokestatic _ => 2
  | .invokespecial _ => 3
  | _ => 0
/-- the end of a method -/
def am_re (ret : Option FieldType) (x : Instr) (st : List Value) : Option (Option Value) := match x with
  | .return_ => (match st, ret with
    | [], none => some none
    | _, _ => none)
  | .ireturn => (match st, ret with
    | [.int v], some ty => if narrow ty (.int v) = .int v ∧ (ty = .int ∨ ty = .boolean ∨ ty = .byte ∨ ty = .char) then some (some (.int v)) else none
    | _, _ => none)
  | .areturn => (match st, ret with
    | [.ref q], some (.object _) => some (some (.ref q))
    | _, _ => none)
  | _ => none
/-- the locals at a method's entry -/
def am_en (n : Nat) (as : List Value) : am_L := as.flatMap (fun v => if v.category = 2 then [some v, none] else [some v]) ++ List.replicate (n - (lg_sl as).length) none
def am_cd (X : am_X) (j pc : Nat) : Option (Instr × Nat × Nat × Nat × Value) := match X.1[j]? with
  | some d => (d.2.2.2.find? (fun i => i.1 == pc)).map (fun i => i.2)
  | none => none
/-- the receiver -/
def am_rc (X : am_X) (sh : List am_S) (kd r2 : Nat) (as : List Value) : Bool := if kd = 2 then true else match as with
  | .ref p :: _ => if p < 1000 then (match sh[p]? with
    | some (.inr (ci, _)) => kd == 3 || (ci == r2 && !(r2 == 100))
    | _ => false) else (kd == 1 && r2 == 100 && decide (1001 ≤ p) && decide (p - 1001 < X.2.2.2.2.1.length))
  | _ => false
abbrev am_T : Type := am_C ⊕ ((Nat × List Value × List Value) ⊕ Option Value)
/-- what comes next: a state, a call (method, arguments, what stays on the stack), an end -/
def am_cl (X : am_X) (LN : Nat) (xs : Nat → Int32) (j : Nat) (c : am_C) : Option am_T := match X.1[j]?, am_cd X j c.1 with
  | some d, some (x, len, r1, r2, rv) => (match am_re d.1.2.2.2 x c.2.2.1 with
    | some v => some (.inr (.inr v))
    | none => if am_kd x r1 = 0 then (match am_nx X LN xs x len r1 r2 rv c.1 c.2.1 c.2.2.1 c.2.2.2.1 c.2.2.2.2.1 with
        | some (pc, L, st, sh, M, a, b) => if c.2.2.2.2.2.1 + a ≤ d.2.2.1.cells ∧ c.2.2.2.2.2.2 + b ≤ d.2.2.1.slots then some (.inl (pc, L, st, sh, M, c.2.2.2.2.2.1 + a, c.2.2.2.2.2.2 + b)) else none
        | none => none)
      else (match X.1[r1]? with
        | some f => if f.2.1.1 + f.2.1.2 ≤ c.2.2.1.length ∧ ((c.2.2.1.drop (f.2.1.1 + f.2.1.2)).map fun v => v.category).sum ≤ 8 ∧ am_okL c.2.2.2.1.length c.2.1 = true ∧ am_okV c.2.2.2.1.length c.2.2.1 = true ∧ (lg_sl ((c.2.2.1.take (f.2.1.1 + f.2.1.2)).reverse)).length ≤ f.1.2.2.1 ∧ c.2.2.2.2.2.1 + f.2.2.1.cells ≤ d.2.2.1.cells ∧ c.2.2.2.2.2.2 + f.2.2.1.slots ≤ d.2.2.1.slots ∧ am_rc X c.2.2.2.1 (am_kd x r1) r2 ((c.2.2.1.take (f.2.1.1 + f.2.1.2)).reverse) = true then some (.inr (.inl (r1, (c.2.2.1.take (f.2.1.1 + f.2.1.2)).reverse, c.2.2.1.drop (f.2.1.1 + f.2.1.2)))) else none
        | none => none))
  | _, _ => none
def am_mx (X : am_X) (j : Nat) : Nat := match X.1[j]? with
  | some d => d.1.2.2.1
  | none => 0
def am_rm (X : am_X) (j : Nat) : Nat × Nat := match X.1[j]? with
  | some d => (d.2.2.1.cells, d.2.2.1.slots)
  | none => (0, 0)
/-- behind a call -/
def am_bk (X : am_X) (j' : Nat) (rest : List Value) (c : am_C) (rv : Option Value) (sh : List am_S) (M : am_M) : am_C := (c.1 + 3, c.2.1, rv.toList ++ rest, sh, M, c.2.2.2.2.2.1 + (am_rm X j').1, c.2.2.2.2.2.2 + (am_rm X j').2)
def am_run (X : am_X) (LN : Nat) (xs : Nat → Int32) : Nat → Nat → am_C → Option (Option Value × List am_S × am_M)
  | 0, _, _ => none
  | n + 1, j, c => match am_cl X LN xs j c with
    | none => none
    | some (.inl c') => am_run X LN xs n j c'
    | some (.inr (.inr v)) => some (v, c.2.2.2.1, c.2.2.2.2.1)
    | some (.inr (.inl (j', as, rest))) => match am_run X LN xs n j' (0, am_en (am_mx X j') as, [], c.2.2.2.1, c.2.2.2.2.1, 0, 0) with
      | none => none
      | some (rv, sh, M) => am_run X LN xs n j (am_bk X j' rest c rv sh M)
theorem am_run_s (X : am_X) (LN : Nat) (xs : Nat → Int32) (n j : Nat) (c : am_C) : am_run X LN xs (n + 1) j c = match am_cl X LN xs j c with
    | none => none
    | some (.inl c') => am_run X LN xs n j c'
    | some (.inr (.inr v)) => some (v, c.2.2.2.1, c.2.2.2.2.1)
    | some (.inr (.inl (j', as, rest))) => match am_run X LN xs n j' (0, am_en (am_mx X j') as, [], c.2.2.2.1, c.2.2.2.2.1, 0, 0) with
      | none => none
      | some (rv, sh, M) => am_run X LN xs n j (am_bk X j' rest c rv sh M) := rfl
theorem am_mono (X : am_X) (LN : Nat) (xs : Nat → Int32) : ∀ (n j : Nat) (c : am_C) (r : Option Value × List am_S × am_M), am_run X LN xs n j c = some r → am_run X LN xs (n + 1) j c = some r := by
  intro n
  induction n with
  | zero => intro j c r h; cases h
  | succ n ih =>
    intro j c r h
    rw [am_run_s] at h ⊢
    cases hc : am_cl X LN xs j c with
    | none => rw [hc] at h; cases h
    | some t =>
      rw [hc] at h
      rcases t with c' | ⟨j', as, rest⟩ | v
      · exact ih _ _ _ h
      · dsimp only at h ⊢
        cases hr : am_run X LN xs n j' (0, am_en (am_mx X j') as, [], c.2.2.2.1, c.2.2.2.2.1, 0, 0) with
        | none => rw [hr] at h; cases h
        | some q =>
          rw [hr] at h
          rw [ih _ _ _ hr]
          exact ih _ _ _ h
      · exact h
theorem am_mono' (X : am_X) (LN : Nat) (xs : Nat → Int32) {n k j : Nat} {c : am_C} {r : Option Value × List am_S × am_M} (h : am_run X LN xs n j c = some r) (hk : n ≤ k) : am_run X LN xs k j c = some r := by
  obtain ⟨d, rfl⟩ := Nat.exists_eq_add_of_le hk
  induction d with
  | zero => exact h
  | succ d ih => exact am_mono X LN xs _ _ _ _ (ih (Nat.le_add_right _ _))
