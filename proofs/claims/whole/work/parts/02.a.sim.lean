/-! THE PURE MACHINE: a small interpreter over two memories (ints and longs, by cell and place) for a program given as rows; below it the theorem that the real machine does what it does. -/
abbrev si_M : Type := (Nat → Nat → Int32) × (Nat → Nat → Int64)
/-- a cell: an object (class number, codes of its fields: 0 int, 1 long, 2 boolean, t + 3 the cell t), or an array (longs or ints, its length) -/
abbrev si_kd : Type := (Nat × List Nat) ⊕ (Bool × Nat)
/-- pc, instruction, length, numbers, an int, a long, dead locals -/
abbrev si_row : Type := Nat × Instr × Nat × List Nat × Int32 × Int64 × List Nat
/-- name, bytes, locals, answer, room for frames, room for words, rows -/
abbrev si_mi : Type := MethodName × ByteArray × Nat × Option FieldType × Nat × Nat × List si_row
abbrev si_O : Type := Option Value × si_M
/-- what an instruction does: it answers; it goes on (one way or the other); it calls -/
abbrev si_D : Type := si_O ⊕ (Bool × Nat × Nat × List Value × List Value × si_M) ⊕ (Nat × List Value × Nat × Nat × List Value × List Value × si_M)
def si_sI (σ : si_M) (k j : Nat) (v : Int32) : si_M := (fun a b => if a = k then (if b = j then v else σ.1 a b) else σ.1 a b, σ.2)
def si_sJ (σ : si_M) (k j : Nat) (v : Int64) : si_M := (σ.1, fun a b => if a = k then (if b = j then v else σ.2 a b) else σ.2 a b)
/-- a whole row of longs is written -/
def si_sA (σ : si_M) (k : Nat) (f : Nat → Int64) : si_M := (σ.1, fun a b => if a = k then f b else σ.2 a b)
abbrev si_U : Value := .retAddr 0
def si_in (i : Int32) (n : Nat) : Bool := decide (0 ≤ i) && decide (i.toNatClampNeg < n)
def si_ishl (x y : Int32) : Int32 := x <<< (y &&& 31)
def si_ishr (x y : Int32) : Int32 := x >>> (y &&& 31)
def si_iushr (x y : Int32) : Int32 := (x.toUInt32 >>> (y.toUInt32 &&& Int32.toUInt32 31)).toInt32
def si_lshl (x : Int64) (y : Int32) : Int64 := x <<< (y.toInt64 &&& 63)
def si_lshr (x : Int64) (y : Int32) : Int64 := x >>> (y.toInt64 &&& 63)
def si_lushr (x : Int64) (y : Int32) : Int64 := (x.toUInt64 >>> (y.toInt64.toUInt64 &&& Int64.toUInt64 63)).toInt64
def si_irem (x y : Int32) : Int32 := x - x / y * y
def si_clr (L : List Value) : List Nat → List Value
  | [] => L
  | i :: is => si_clr (L.set i si_U) is
/-- a store at i takes a long at i - 1 away -/
def si_off (L : List Value) (i : Nat) : List Value := match i with
  | 0 => L
  | j + 1 => match L[j]? with
    | some (.long _) => L.set j si_U
    | some (.double _) => L.set j si_U
    | _ => L
def si_put1 (L : List Value) (i : Nat) (v : Value) : List Value := (si_off L i).set i v
def si_put2 (L : List Value) (i : Nat) (v : Value) : List Value := ((si_off L i).set i v).set (i + 1) si_U
def si_lay : List Value → List Value
  | [] => []
  | .long x :: vs => .long x :: si_U :: si_lay vs
  | .double x :: vs => .double x :: si_U :: si_lay vs
  | v :: vs => v :: si_lay vs
def si_ent (n : Nat) (as : List Value) : List Value := si_lay as ++ List.replicate (n - (si_lay as).length) si_U
def si_pv (σ : si_M) (k j : Nat) (c : Nat) : Value := match c with
  | 0 => .int (σ.1 k j)
  | 1 => .long (σ.2 k j)
  | 2 => .int (σ.1 k j)
  | t + 3 => .ref t
def si_j (p : Nat) (L st : List Value) (σ : si_M) : Option si_D := some (.inr (.inl (true, p, 0, L, st, σ)))
def si_br (c : Bool) (p q : Nat) (L st : List Value) (σ : si_M) : Option si_D := some (.inr (.inl (c, p, q, L, st, σ)))
/-- a test that must hold: else there is no way on -/
def si_if (c : Bool) (p : Nat) (L st : List Value) (σ : si_M) : Option si_D := some (.inr (.inl (c, p, 65535, L, st, σ)))
def si_ldI (nx i : Nat) (L st : List Value) (σ : si_M) : Option si_D := match L[i]? with
  | some (.int x) => si_j nx L (.int x :: st) σ
  | _ => none
def si_ldL (nx i : Nat) (L st : List Value) (σ : si_M) : Option si_D := match L[i]? with
  | some (.long x) => si_j nx L (.long x :: st) σ
  | _ => none
def si_ldA (nx i : Nat) (L st : List Value) (σ : si_M) : Option si_D := match L[i]? with
  | some (.ref x) => si_j nx L (.ref x :: st) σ
  | _ => none
def si_stI (nx i : Nat) (L st : List Value) (σ : si_M) : Option si_D := match st with
  | .int x :: r => if i < L.length then si_j nx (si_put1 L i (.int x)) r σ else none
  | _ => none
def si_stA (nx i : Nat) (L st : List Value) (σ : si_M) : Option si_D := match st with
  | .ref x :: r => if i < L.length then si_j nx (si_put1 L i (.ref x)) r σ else none
  | _ => none
def si_stL (nx i : Nat) (L st : List Value) (σ : si_M) : Option si_D := match st with
  | .long x :: r => if i + 1 < L.length then si_j nx (si_put2 L i (.long x)) r σ else none
  | _ => none
def si_i2 (f : Int32 → Int32 → Int32) (nx : Nat) (L st : List Value) (σ : si_M) : Option si_D := match st with
  | .int y :: .int x :: r => si_j nx L (.int (f x y) :: r) σ
  | _ => none
def si_l2 (f : Int64 → Int64 → Int64) (nx : Nat) (L st : List Value) (σ : si_M) : Option si_D := match st with
  | .long y :: .long x :: r => si_j nx L (.long (f x y) :: r) σ
  | _ => none
def si_ls (f : Int64 → Int32 → Int64) (nx : Nat) (L st : List Value) (σ : si_M) : Option si_D := match st with
  | .int y :: .long x :: r => si_j nx L (.long (f x y) :: r) σ
  | _ => none
def si_i1 (f : Int32 → Bool) (nx : Nat) (xs : List Nat) (L st : List Value) (σ : si_M) : Option si_D := match st, xs with
  | .int x :: r, [t] => si_br (f x) t nx L r σ
  | _, _ => none
def si_ic (f : Int32 → Int32 → Bool) (nx : Nat) (xs : List Nat) (L st : List Value) (σ : si_M) : Option si_D := match st, xs with
  | .int y :: .int x :: r, [t] => si_br (f x y) t nx L r σ
  | _, _ => none
def si_cat (st : List Value) : Nat := (st.map fun v => v.category).sum
/-- an instruction -/
def si_ins (ret : Option FieldType) (sh : List si_kd) (nx : Nat) (i : Instr) (xs : List Nat) (ci : Int32) (cl : Int64) (L st : List Value) (σ : si_M) : Option si_D := match i with
  | .iconst _ => si_j nx L (.int ci :: st) σ
  | .bipush _ => si_j nx L (.int ci :: st) σ
  | .sipush _ => si_j nx L (.int ci :: st) σ
  | .ldc _ => si_j nx L (.int ci :: st) σ
  | .ldc_w _ => si_j nx L (.int ci :: st) σ
  | .lconst _ => si_j nx L (.long cl :: st) σ
  | .ldc2_w _ => si_j nx L (.long cl :: st) σ
  | .iload_n k => si_ldI nx k L st σ
  | .iload k => si_ldI nx k L st σ
  | .lload_n k => si_ldL nx k L st σ
  | .lload k => si_ldL nx k L st σ
  | .aload_n k => si_ldA nx k L st σ
  | .aload k => si_ldA nx k L st σ
  | .istore_n k => si_stI nx k L st σ
  | .istore k => si_stI nx k L st σ
  | .lstore_n k => si_stL nx k L st σ
  | .lstore k => si_stL nx k L st σ
  | .astore_n k => si_stA nx k L st σ
  | .astore k => si_stA nx k L st σ
  | .iinc k _ => match L[k]? with
    | some (.int x) => si_j nx (si_put1 L k (.int (x + ci))) st σ
    | _ => none
  | .iadd => si_i2 (fun x y => x + y) nx L st σ
  | .isub => si_i2 (fun x y => x - y) nx L st σ
  | .imul => si_i2 (fun x y => x * y) nx L st σ
  | .iand => si_i2 (fun x y => x &&& y) nx L st σ
  | .ior => si_i2 (fun x y => x ||| y) nx L st σ
  | .ixor => si_i2 (fun x y => x ^^^ y) nx L st σ
  | .ishl => si_i2 si_ishl nx L st σ
  | .ishr => si_i2 si_ishr nx L st σ
  | .iushr => si_i2 si_iushr nx L st σ
  | .idiv => match st with
    | .int y :: .int x :: r => si_if (!decide (y = 0)) nx L (.int (x / y) :: r) σ
    | _ => none
  | .irem => match st with
    | .int y :: .int x :: r => si_if (!decide (y = 0)) nx L (.int (si_irem x y) :: r) σ
    | _ => none
  | .ladd => si_l2 (fun x y => x + y) nx L st σ
  | .lsub => si_l2 (fun x y => x - y) nx L st σ
  | .lmul => si_l2 (fun x y => x * y) nx L st σ
  | .land => si_l2 (fun x y => x &&& y) nx L st σ
  | .lor => si_l2 (fun x y => x ||| y) nx L st σ
  | .lxor => si_l2 (fun x y => x ^^^ y) nx L st σ
  | .lshl => si_ls si_lshl nx L st σ
  | .lshr => si_ls si_lshr nx L st σ
  | .lushr => si_ls si_lushr nx L st σ
  | .lcmp => match st with
    | .long y :: .long x :: r => si_j nx L (.int (lg_cmp x y) :: r) σ
    | _ => none
  | .i2l => match st with
    | .int x :: r => si_j nx L (.long x.toInt64 :: r) σ
    | _ => none
  | .l2i => match st with
    | .long x :: r => si_j nx L (.int x.toInt32 :: r) σ
    | _ => none
  | .dup => match st with
    | .int x :: r => si_j nx L (.int x :: .int x :: r) σ
    | .ref x :: r => si_j nx L (.ref x :: .ref x :: r) σ
    | _ => none
  | .dup2 => match st with
    | .long x :: r => si_j nx L (.long x :: .long x :: r) σ
    | .int x :: .ref y :: r => si_j nx L (.int x :: .ref y :: .int x :: .ref y :: r) σ
    | _ => none
  | .pop => match st with
    | .int _ :: r => si_j nx L r σ
    | _ => none
  | .goto _ => match xs with
    | [t] => si_j t L st σ
    | _ => none
  | .ifCond .eq _ => si_i1 (fun x => decide (x = 0)) nx xs L st σ
  | .ifCond .ne _ => si_i1 (fun x => !decide (x = 0)) nx xs L st σ
  | .ifCond .lt _ => si_i1 (fun x => decide (x < 0)) nx xs L st σ
  | .ifCond .ge _ => si_i1 (fun x => decide (0 ≤ x)) nx xs L st σ
  | .ifCond .gt _ => si_i1 (fun x => decide (0 < x)) nx xs L st σ
  | .ifCond .le _ => si_i1 (fun x => decide (x ≤ 0)) nx xs L st σ
  | .if_icmp .eq _ => si_ic (fun x y => decide (x = y)) nx xs L st σ
  | .if_icmp .ne _ => si_ic (fun x y => !decide (x = y)) nx xs L st σ
  | .if_icmp .lt _ => si_ic (fun x y => decide (x < y)) nx xs L st σ
  | .if_icmp .ge _ => si_ic (fun x y => decide (y ≤ x)) nx xs L st σ
  | .if_icmp .gt _ => si_ic (fun x y => decide (y < x)) nx xs L st σ
  | .if_icmp .le _ => si_ic (fun x y => decide (x ≤ y)) nx xs L st σ
  | .getfield _ => match st, xs with
    | .ref k :: r, [ct, j, _] => match sh[k]? with
      | some (.inl (ct', cs)) => match Nat.beq ct' ct, cs[j]? with
        | true, some c => si_j nx L (si_pv σ k j c :: r) σ
        | _, _ => none
      | _ => none
    | _, _ => none
  | .putfield _ => match st, xs with
    | .int v :: .ref k :: r, [ct, j, _] => match sh[k]? with
      | some (.inl (ct', cs)) => match Nat.beq ct' ct, cs[j]? with
        | true, some 0 => si_j nx L r (si_sI σ k j v)
        | true, some 2 => si_if (decide (v = 0) || decide (v = 1)) nx L r (si_sI σ k j v)
        | _, _ => none
      | _ => none
    | .long v :: .ref k :: r, [ct, j, _] => match sh[k]? with
      | some (.inl (ct', cs)) => match Nat.beq ct' ct, cs[j]? with
        | true, some 1 => si_j nx L r (si_sJ σ k j v)
        | _, _ => none
      | _ => none
    | _, _ => none
  | .iaload => match st with
    | .int i :: .ref k :: r => match sh[k]? with
      | some (.inr (false, n)) => si_if (si_in i n) nx L (.int (σ.1 k i.toNatClampNeg) :: r) σ
      | _ => none
    | _ => none
  | .laload => match st with
    | .int i :: .ref k :: r => match sh[k]? with
      | some (.inr (true, n)) => si_if (si_in i n) nx L (.long (σ.2 k i.toNatClampNeg) :: r) σ
      | _ => none
    | _ => none
  | .iastore => match st with
    | .int v :: .int i :: .ref k :: r => match sh[k]? with
      | some (.inr (false, n)) => si_if (si_in i n) nx L r (si_sI σ k i.toNatClampNeg v)
      | _ => none
    | _ => none
  | .lastore => match st with
    | .long v :: .int i :: .ref k :: r => match sh[k]? with
      | some (.inr (true, n)) => si_if (si_in i n) nx L r (si_sJ σ k i.toNatClampNeg v)
      | _ => none
    | _ => none
  | .arraylength => match st with
    | .ref k :: r => match sh[k]? with
      | some (.inr (_, n)) => si_j nx L (.int (nI n) :: r) σ
      | _ => none
    | _ => none
  | .ireturn => match st, ret with
    | [.int v], some .int => some (.inl (some (.int v), σ))
    | [.int v], some .boolean => some (.inl (some (.int (v &&& 1)), σ))
    | _, _ => none
  | .lreturn => match st, ret with
    | [.long v], some .long => some (.inl (some (.long v), σ))
    | _, _ => none
  | .return_ => match st, ret with
    | [], none => some (.inl (none, σ))
    | _, _ => none
  | .invokestatic _ => match xs with
    | [_, _, _, _] => match st with
      | .int n :: .int dp :: .ref k1 :: .int sp :: .ref k0 :: r => match sh[k0]?, sh[k1]? with
        | some (.inr (true, n0)), some (.inr (true, n1)) => si_if (decide (0 ≤ sp) && decide (0 ≤ dp) && decide (0 ≤ n) && decide (sp.toNatClampNeg + n.toNatClampNeg ≤ n0) && decide (dp.toNatClampNeg + n.toNatClampNeg ≤ n1) && Nat.ble (si_cat r) 8) nx L r (si_sA σ k1 (va_cpy (σ.2 k0) (σ.2 k1) sp.toNatClampNeg dp.toNatClampNeg n.toNatClampNeg))
        | _, _ => none
      | _ => none
    | [_, _, _, _, _] => match st with
      | .int y :: .int x :: r => si_if (Nat.ble (si_cat r) 8) nx L (.int (if y < x then y else x) :: r) σ
      | _ => none
    | c :: na :: rc :: _ => match Nat.ble na st.length && Nat.ble (si_cat (st.drop na)) 8 with
      | true => some (.inr (.inr (c, (st.take na).reverse, rc, nx, L, st.drop na, σ)))
      | false => none
    | _ => none
  | .invokevirtual _ => match xs with
    | c :: na :: rc :: ct :: _ => match st[na]? with
      | some (.ref k) => match sh[k]? with
        | some (.inl (ct', _)) => match Nat.beq ct' ct && Nat.ble (si_cat (st.drop (na + 1))) 8 with
          | true => some (.inr (.inr (c, .ref k :: (st.take na).reverse, rc, nx, L, st.drop (na + 1), σ)))
          | false => none
        | _ => none
      | _ => none
    | _ => none
  | _ => none
def si_cv (x : Option si_O) (k : si_M → Option si_O) : Option si_O := match x with
  | some (none, τ) => k τ
  | _ => none
def si_ci (x : Option si_O) (k : Int32 → si_M → Option si_O) : Option si_O := match x with
  | some (some (.int v), τ) => k v τ
  | _ => none
def si_cl (x : Option si_O) (k : Int64 → si_M → Option si_O) : Option si_O := match x with
  | some (some (.long v), τ) => k v τ
  | _ => none
def si_ret (rc : Nat) (x : Option si_O) (k : List Value → si_M → Option si_O) (r : List Value) : Option si_O := match rc with
  | 0 => si_cv x (fun τ => k r τ)
  | 1 => si_ci x (fun v τ => k (.int v :: r) τ)
  | 2 => si_cl x (fun v τ => k (.long v :: r) τ)
  | _ => none
def si_drv (call : Nat → List Value → si_M → Option si_O) (k : Nat → List Value → List Value → si_M → Option si_O) : Option si_D → Option si_O
  | none => none
  | some (.inl r) => some r
  | some (.inr (.inl (c, a, b, L, st, σ))) => cond c (k a L st σ) (k b L st σ)
  | some (.inr (.inr (m, as, rc, p, L, r, σ))) => si_ret rc (call m as σ) (fun st τ => k p L st τ) r
def si_get : List si_row → Nat → Option si_row
  | [], _ => none
  | r :: rs, pc => match Nat.beq r.1 pc with
    | true => some r
    | false => si_get rs pc
def si_pre (ret : Option FieldType) (sh : List si_kd) (rows : List si_row) (pc : Nat) (L st : List Value) (σ : si_M) : Option si_D := match si_get rows pc with
  | none => none
  | some (p, i, len, xs, ci, cl, dead) => si_ins ret sh (p + len) i xs ci cl (si_clr L dead) st σ
abbrev si_P : Type := List si_mi × List si_kd
def si_run (P : si_P) : Nat → Nat → Nat → List Value → List Value → si_M → Option si_O
  | 0, _, _, _, _, _ => none
  | n + 1, m, pc, L, st, σ => match P.1[m]? with
    | none => none
    | some (_, _, _, ret, _, _, rows) => si_drv (fun c as τ => match P.1[c]? with
        | none => none
        | some (_, _, mL, _) => match Nat.ble (si_lay as).length mL with
          | true => si_run P n c 0 (si_ent mL as) [] τ
          | false => none) (fun p L st τ => si_run P n m p L st τ) (si_pre ret P.2 rows pc L st σ)
