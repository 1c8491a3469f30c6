/-! ===== the interpreter: values (int, long, reference), a memory of numbered cells, one step, many steps, calls by depth ===== -/
abbrev ts_V : Type := Int32 ⊕ (Int64 ⊕ Option Nat)
abbrev ts_M : Type := (Nat → Nat → Int32) × (Nat → Nat → Int64) × (Nat → Nat → Option Nat) × Nat
abbrev ts_F : Type := Nat × List (Option ts_V) × List ts_V × ts_M
abbrev ts_R : Type := Option ts_V × ts_M
abbrev ts_C : Type := Nat → List ts_V → ts_M → Option ts_R
/-- what each cell is: 0 an object of a class, 1 int[], 2 byte[], 3 long[], 4 Movement[], 5 Ledger[] of a length -/
def ts_sLed : List (Nat × Nat) := [(0, 2), (1, 6), (1, 6), (4, 20), (0, 0), (1, 30), (1, 30), (1, 30)] ++ (List.range 20).flatMap fun _ => [(0, 4), (1, 8), (1, 8)]
def ts_sNet : List (Nat × Nat) := [(0, 5), (1, 12), (1, 6), (1, 144), (1, 144), (1, 12), (0, 10), (1, 200)]
def ts_sAll : List (Nat × Nat) := [(0, 11), (0, 6), (0, 10), (1, 200), (0, 8), (1, 12), (0, 7), (1, 8), (0, 3), (1, 8), (1, 8), (1, 8), (0, 9)] ++ ts_sLed ++ [(0, 1), (5, 8)] ++ (List.range 9).flatMap (fun _ => ts_sLed) ++ ts_sNet ++ ts_sNet
def ts_sh (k : Nat) : Nat × Nat := ts_sAll.getD k (9, 0)
def ts_NN : Nat := 711
def ts_sz1 (k : Nat) : Nat := if (ts_sh k).1 = 0 then ts_N (ts_sh k).2 else (ts_sh k).2
def ts_sz (n : Nat) : Nat := ((List.range n).map ts_sz1).sum
def ts_isr : FieldType → Bool
  | .object _ => true
  | .array _ => true
  | _ => false
def ts_gv (c k : Nat) (M : ts_M) (a : Nat) : ts_V := if ts_isr (ts_ty c k) then .inr (.inr (M.2.2.1 a k)) else .inl (M.1 a k)
def ts_up {α : Type} (f : Nat → Nat → α) (a j : Nat) (v : α) : Nat → Nat → α := fun b k => if b = a ∧ k = j then v else f b k
def ts_fr {α : Type} (f : Nat → Nat → α) (a : Nat) (v : α) : Nat → Nat → α := fun b k => if b = a then v else f b k
def ts_wrI (M : ts_M) (a j : Nat) (v : Int32) : ts_M := (ts_up M.1 a j v, M.2.1, M.2.2.1, M.2.2.2)
def ts_wrL (M : ts_M) (a j : Nat) (v : Int64) : ts_M := (M.1, ts_up M.2.1 a j v, M.2.2.1, M.2.2.2)
def ts_wrR (M : ts_M) (a j : Nat) (v : Option Nat) : ts_M := (M.1, M.2.1, ts_up M.2.2.1 a j v, M.2.2.2)
def ts_new (M : ts_M) : ts_M := (ts_fr M.1 M.2.2.2 0, ts_fr M.2.1 M.2.2.2 0, ts_fr M.2.2.1 M.2.2.2 none, M.2.2.2 + 1)
def ts_lget (ls : List (Option ts_V)) (i : Nat) : Option ts_V := (ls[i]?).join
def ts_isl : Option ts_V → Bool
  | some (.inr (.inl _)) => true
  | _ => false
/-- storing: a long's second half goes, a long that ends here goes -/
def ts_nol : Option ts_V → Option ts_V
  | some (.inr (.inl _)) => none
  | o => o
def ts_lset (ls : List (Option ts_V)) (i : Nat) (v : ts_V) : List (Option ts_V) :=
  if ts_isl (some v) then ((ls.set (i - 1) (ts_nol (ts_lget ls (i - 1)))).set (i + 1) none).set i (some v) else (ls.set (i - 1) (ts_nol (ts_lget ls (i - 1)))).set i (some v)
def ts_fld (o i : Nat) : Option (Nat × Nat) := (ts_fL.find? fun e => e.1 == o && e.2.1 == i).map fun e => e.2.2
def ts_cal (o i : Nat) : Option (Nat × Nat × Nat × Nat) := (ts_cL.find? fun e => e.1 == o && e.2.1 == i).map fun e => e.2.2
def ts_cI (o i : Nat) : Option Int32 := (ts_iL.find? fun e => e.1 == o && e.2.1 == i).map fun e => e.2.2
def ts_cJ (o i : Nat) : Option Int64 := (ts_jL.find? fun e => e.1 == o && e.2.1 == i).map fun e => e.2.2
def ts_cK (o i : Nat) : Option Nat := (ts_kL.find? fun e => e.1 == o && e.2.1 == i).map fun e => e.2.2
/-- 1 Object's constructor, 2 Math.min, 3 Math.max -/
def ts_bi (o i : Nat) : Nat := if ts_oL.any (fun e => e.1 == o && e.2 == i) then 1 else if ts_nL.any (fun e => e.1 == o && e.2 == i) then 2 else if ts_xL.any (fun e => e.1 == o && e.2 == i) then 3 else 0
def ts_cls (y : Nat) : Nat := match ts_mL[y]? with
  | some q => q.2.2.2.2
  | none => 99
def ts_len (i : Instr) (l : Nat) : Nat := match i with
  | .tableswitch _ _ _ _ => l
  | .aload _ | .iload _ | .lload _ | .astore _ | .istore _ | .lstore _ | .bipush _ | .ldc _ | .newarray _ => 2
  | .iinc _ _ | .sipush _ | .getfield _ | .putfield _ | .goto _ | .if_icmp _ _ | .ifCond _ _ | .ifnull _ | .ifnonnull _ | .invokespecial _ | .invokestatic _ | .invokevirtual _ | .new _ | .anewarray _ | .ldc_w _ | .ldc2_w _ => 3
  | _ => 1
def ts_jmp (pc : Nat) (off : Int) : Option Nat := match (pc : Int) + off with
  | .ofNat t => some t
  | .negSucc _ => none
def ts_to (pc : Nat) (off : Int) (ls : List (Option ts_V)) (st : List ts_V) (M : ts_M) : Option (ts_F ⊕ ts_R) := match ts_jmp pc off with
  | some t => some (.inl (t, ls, st, M))
  | none => none
def ts_br (c : Prop) [Decidable c] (pc : Nat) (off : Int) (ls : List (Option ts_V)) (st : List ts_V) (M : ts_M) : Option (ts_F ⊕ ts_R) := match ts_jmp pc off with
  | some t => if c then some (.inl (t, ls, st, M)) else some (.inl (pc + 3, ls, st, M))
  | none => none
/-- what a method answers: 0 nothing, 1 an int, 2 a long, 3 a reference -/
def ts_knd (y : Nat) : Nat := match ts_mL[y]? with
  | some q => match q.2.2.2.1 with
    | none => 0
    | some .long => 2
    | some (.object _) => 3
    | some _ => 1
  | none => 9
def ts_back (k : Nat) (r : Option ts_R) (pc : Nat) (ls : List (Option ts_V)) (st : List ts_V) : Option (ts_F ⊕ ts_R) := match r with
  | some (none, M) => if k = 0 then some (.inl (pc + 3, ls, st, M)) else none
  | some (some (.inl v), M) => if k = 1 then some (.inl (pc + 3, ls, .inl v :: st, M)) else none
  | some (some (.inr (.inl v)), M) => if k = 2 then some (.inl (pc + 3, ls, .inr (.inl v) :: st, M)) else none
  | some (some (.inr (.inr v)), M) => if k = 3 then some (.inl (pc + 3, ls, .inr (.inr v) :: st, M)) else none
  | none => none
def ts_cat1 : ts_V → Bool
  | .inr (.inl _) => false
  | _ => true
def ts_cats (r : List ts_V) : Nat := (r.map fun v => if ts_isl (some v) then 2 else 1).sum
/-- the fields that hold another object later: TransitSeals.net, draft, Search.net -/
def ts_mu (c k : Nat) : Bool := (c == 11 && (k == 7 || k == 8)) || (c == 9 && k == 0)
def ts_step (call : ts_C) (Y : ts_Y) (i : Instr) (len pc : Nat) (ls : List (Option ts_V)) (st : List ts_V) (M : ts_M) : Option (ts_F ⊕ ts_R) := match i with
  | .aaload => match st with
    | .inl j :: .inr (.inr (some a)) :: r => if ((ts_sh a).1 = 4 ∨ (ts_sh a).1 = 5) ∧ a < M.2.2.2 ∧ 0 ≤ j ∧ j.toNatClampNeg < (ts_sh a).2 then some (.inl (pc + 1, ls, .inr (.inr (M.2.2.1 a j.toNatClampNeg)) :: r, M)) else none
    | _ => none
  | .aastore => match st with
    | .inr (.inr (some v)) :: .inl j :: .inr (.inr (some a)) :: r => if ((ts_sh a).1 = 4 ∧ ts_sh v = (0, 4) ∨ (ts_sh a).1 = 5 ∧ ts_sh v = (0, 2)) ∧ v < M.2.2.2 ∧ a < M.2.2.2 ∧ 0 ≤ j ∧ j.toNatClampNeg < (ts_sh a).2 then some (.inl (pc + 1, ls, r, ts_wrR M a j.toNatClampNeg (some v))) else none
    | _ => none
  | .aconst_null => some (.inl (pc + 1, ls, .inr (.inr none) :: st, M))
  | .aload n => match ts_lget ls n with
    | some (.inr (.inr o)) => some (.inl (pc + 2, ls, .inr (.inr o) :: st, M))
    | _ => none
  | .aload_n n => match ts_lget ls n with
    | some (.inr (.inr o)) => some (.inl (pc + 1, ls, .inr (.inr o) :: st, M))
    | _ => none
  | .anewarray x => match st with
    | .inl n :: r => if ((ts_cK Y.2.2.2.2 x = some 4 ∧ ts_sh M.2.2.2 = (4, n.toNatClampNeg)) ∨ (ts_cK Y.2.2.2.2 x = some 2 ∧ ts_sh M.2.2.2 = (5, n.toNatClampNeg))) ∧ 0 ≤ n ∧ n.toNatClampNeg ≤ 10000 ∧ M.2.2.2 < ts_NN then some (.inl (pc + 3, ls, .inr (.inr (some M.2.2.2)) :: r, ts_new M)) else none
    | _ => none
  | .areturn => match st with
    | [.inr (.inr o)] => match Y.2.2.2.1 with
      | some (.object _) => some (.inr (some (.inr (.inr o)), M))
      | _ => none
    | _ => none
  | .arraylength => match st with
    | .inr (.inr (some a)) :: r => if 1 ≤ (ts_sh a).1 ∧ (ts_sh a).1 ≤ 5 ∧ a < M.2.2.2 then some (.inl (pc + 1, ls, .inl (Int32.ofNat (ts_sh a).2) :: r, M)) else none
    | _ => none
  | .astore n => match st with
    | .inr (.inr o) :: r => if n < Y.2.2.1 then some (.inl (pc + 2, ts_lset ls n (.inr (.inr o)), r, M)) else none
    | _ => none
  | .astore_n n => match st with
    | .inr (.inr o) :: r => if (n : Nat) < Y.2.2.1 then some (.inl (pc + 1, ts_lset ls n (.inr (.inr o)), r, M)) else none
    | _ => none
  | .baload => match st with
    | .inl j :: .inr (.inr (some a)) :: r => if (ts_sh a).1 = 2 ∧ a < M.2.2.2 ∧ 0 ≤ j ∧ j.toNatClampNeg < (ts_sh a).2 then some (.inl (pc + 1, ls, .inl (M.1 a j.toNatClampNeg) :: r, M)) else none
    | _ => none
  | .bastore => match st with
    | .inl v :: .inl j :: .inr (.inr (some a)) :: r => if (ts_sh a).1 = 2 ∧ a < M.2.2.2 ∧ 0 ≤ j ∧ j.toNatClampNeg < (ts_sh a).2 then some (.inl (pc + 1, ls, r, ts_wrI M a j.toNatClampNeg (vp_nar .byte v))) else none
    | _ => none
  | .bipush n => some (.inl (pc + 2, ls, .inl (Int8.ofInt n).toInt32 :: st, M))
  | .dup => match st with
    | v :: r => if ts_cat1 v then some (.inl (pc + 1, ls, v :: v :: r, M)) else none
    | _ => none
  | .dup_x1 => match st with
    | v :: u :: r => if ts_cat1 v ∧ ts_cat1 u then some (.inl (pc + 1, ls, v :: u :: v :: r, M)) else none
    | _ => none
  | .dup2 => match st with
    | v :: u :: r => if ts_cat1 v ∧ ts_cat1 u then some (.inl (pc + 1, ls, v :: u :: v :: u :: r, M)) else none
    | _ => none
  | .getfield x => match st with
    | .inr (.inr (some a)) :: r => match ts_fld Y.2.2.2.2 x with
      | some (c, k) => if ts_sh a = (0, c) ∧ a < M.2.2.2 then some (.inl (pc + 3, ls, ts_gv c k M a :: r, M)) else none
      | none => none
    | _ => none
  | .goto off => ts_to pc off ls st M
  | .i2b => match st with
    | .inl x :: r => some (.inl (pc + 1, ls, .inl x.toInt8.toInt32 :: r, M))
    | _ => none
  | .i2l => match st with
    | .inl x :: r => some (.inl (pc + 1, ls, .inr (.inl x.toInt64) :: r, M))
    | _ => none
  | .iadd => match st with
    | .inl y :: .inl x :: r => some (.inl (pc + 1, ls, .inl (x + y) :: r, M))
    | _ => none
  | .isub => match st with
    | .inl y :: .inl x :: r => some (.inl (pc + 1, ls, .inl (x - y) :: r, M))
    | _ => none
  | .imul => match st with
    | .inl y :: .inl x :: r => some (.inl (pc + 1, ls, .inl (x * y) :: r, M))
    | _ => none
  | .idiv => match st with
    | .inl y :: .inl x :: r => if ¬ y = 0 then some (.inl (pc + 1, ls, .inl (x / y) :: r, M)) else none
    | _ => none
  | .irem => match st with
    | .inl y :: .inl x :: r => if ¬ y = 0 then some (.inl (pc + 1, ls, .inl (x - x / y * y) :: r, M)) else none
    | _ => none
  | .iand => match st with
    | .inl y :: .inl x :: r => some (.inl (pc + 1, ls, .inl (x &&& y) :: r, M))
    | _ => none
  | .ior => match st with
    | .inl y :: .inl x :: r => some (.inl (pc + 1, ls, .inl (x ||| y) :: r, M))
    | _ => none
  | .ixor => match st with
    | .inl y :: .inl x :: r => some (.inl (pc + 1, ls, .inl (x ^^^ y) :: r, M))
    | _ => none
  | .ishl => match st with
    | .inl y :: .inl x :: r => some (.inl (pc + 1, ls, .inl (x <<< (y &&& 31)) :: r, M))
    | _ => none
  | .ishr => match st with
    | .inl y :: .inl x :: r => some (.inl (pc + 1, ls, .inl (x >>> (y &&& 31)) :: r, M))
    | _ => none
  | .iushr => match st with
    | .inl y :: .inl x :: r => some (.inl (pc + 1, ls, .inl (x.toUInt32 >>> (y.toUInt32 &&& Int32.toUInt32 31)).toInt32 :: r, M))
    | _ => none
  | .ladd => match st with
    | .inr (.inl y) :: .inr (.inl x) :: r => some (.inl (pc + 1, ls, .inr (.inl (x + y)) :: r, M))
    | _ => none
  | .lsub => match st with
    | .inr (.inl y) :: .inr (.inl x) :: r => some (.inl (pc + 1, ls, .inr (.inl (x - y)) :: r, M))
    | _ => none
  | .l2i => match st with
    | .inr (.inl x) :: r => some (.inl (pc + 1, ls, .inl x.toInt32 :: r, M))
    | _ => none
  | .pop => match st with
    | v :: r => if ts_cat1 v then some (.inl (pc + 1, ls, r, M)) else none
    | _ => none
  | .lmul => match st with
    | .inr (.inl y) :: .inr (.inl x) :: r => some (.inl (pc + 1, ls, .inr (.inl (x * y)) :: r, M))
    | _ => none
  | .ldiv => match st with
    | .inr (.inl y) :: .inr (.inl x) :: r => if ¬ y = 0 then some (.inl (pc + 1, ls, .inr (.inl (x / y)) :: r, M)) else none
    | _ => none
  | .lcmp => match st with
    | .inr (.inl y) :: .inr (.inl x) :: r => some (.inl (pc + 1, ls, .inl (lg_cmp x y) :: r, M))
    | _ => none
  | .iaload => match st with
    | .inl j :: .inr (.inr (some a)) :: r => if (ts_sh a).1 = 1 ∧ a < M.2.2.2 ∧ 0 ≤ j ∧ j.toNatClampNeg < (ts_sh a).2 then some (.inl (pc + 1, ls, .inl (M.1 a j.toNatClampNeg) :: r, M)) else none
    | _ => none
  | .iastore => match st with
    | .inl v :: .inl j :: .inr (.inr (some a)) :: r => if (ts_sh a).1 = 1 ∧ a < M.2.2.2 ∧ 0 ≤ j ∧ j.toNatClampNeg < (ts_sh a).2 then some (.inl (pc + 1, ls, r, ts_wrI M a j.toNatClampNeg v)) else none
    | _ => none
  | .laload => match st with
    | .inl j :: .inr (.inr (some a)) :: r => if (ts_sh a).1 = 3 ∧ a < M.2.2.2 ∧ 0 ≤ j ∧ j.toNatClampNeg < (ts_sh a).2 then some (.inl (pc + 1, ls, .inr (.inl (M.2.1 a j.toNatClampNeg)) :: r, M)) else none
    | _ => none
  | .lastore => match st with
    | .inr (.inl v) :: .inl j :: .inr (.inr (some a)) :: r => if (ts_sh a).1 = 3 ∧ a < M.2.2.2 ∧ 0 ≤ j ∧ j.toNatClampNeg < (ts_sh a).2 then some (.inl (pc + 1, ls, r, ts_wrL M a j.toNatClampNeg v)) else none
    | _ => none
  | .iconst n => some (.inl (pc + 1, ls, .inl (Int32.ofInt n) :: st, M))
  | .sipush n => some (.inl (pc + 3, ls, .inl (Int16.ofInt n).toInt32 :: st, M))
  | .lconst n => some (.inl (pc + 1, ls, .inr (.inl (Int64.ofNat (n : Nat))) :: st, M))
  | .ldc x => match ts_cI Y.2.2.2.2 x with
    | some v => some (.inl (pc + 2, ls, .inl v :: st, M))
    | none => none
  | .ldc_w x => match ts_cI Y.2.2.2.2 x with
    | some v => some (.inl (pc + 3, ls, .inl v :: st, M))
    | none => none
  | .ldc2_w x => match ts_cJ Y.2.2.2.2 x with
    | some v => some (.inl (pc + 3, ls, .inr (.inl v) :: st, M))
    | none => none
  | .if_icmp .eq off => match st with
    | .inl y :: .inl x :: r => ts_br (x = y) pc off ls r M
    | _ => none
  | .if_icmp .ne off => match st with
    | .inl y :: .inl x :: r => ts_br (¬ x = y) pc off ls r M
    | _ => none
  | .if_icmp .lt off => match st with
    | .inl y :: .inl x :: r => ts_br (x < y) pc off ls r M
    | _ => none
  | .if_icmp .ge off => match st with
    | .inl y :: .inl x :: r => ts_br (y ≤ x) pc off ls r M
    | _ => none
  | .if_icmp .gt off => match st with
    | .inl y :: .inl x :: r => ts_br (y < x) pc off ls r M
    | _ => none
  | .if_icmp .le off => match st with
    | .inl y :: .inl x :: r => ts_br (x ≤ y) pc off ls r M
    | _ => none
  | .ifCond .eq off => match st with
    | .inl x :: r => ts_br (x = 0) pc off ls r M
    | _ => none
  | .ifCond .ne off => match st with
    | .inl x :: r => ts_br (¬ x = 0) pc off ls r M
    | _ => none
  | .ifCond .lt off => match st with
    | .inl x :: r => ts_br (x < 0) pc off ls r M
    | _ => none
  | .ifCond .ge off => match st with
    | .inl x :: r => ts_br (0 ≤ x) pc off ls r M
    | _ => none
  | .ifCond .gt off => match st with
    | .inl x :: r => ts_br (0 < x) pc off ls r M
    | _ => none
  | .ifCond .le off => match st with
    | .inl x :: r => ts_br (x ≤ 0) pc off ls r M
    | _ => none
  | .ifnull off => match st with
    | .inr (.inr none) :: r => ts_to pc off ls r M
    | .inr (.inr (some _)) :: r => some (.inl (pc + 3, ls, r, M))
    | _ => none
  | .ifnonnull off => match st with
    | .inr (.inr none) :: r => some (.inl (pc + 3, ls, r, M))
    | .inr (.inr (some _)) :: r => ts_to pc off ls r M
    | _ => none
  | .iinc n d => match ts_lget ls n with
    | some (.inl x) => if n < Y.2.2.1 then some (.inl (pc + 3, ts_lset ls n (.inl (x + Int32.ofInt d)), st, M)) else none
    | _ => none
  | .iload n => match ts_lget ls n with
    | some (.inl x) => some (.inl (pc + 2, ls, .inl x :: st, M))
    | _ => none
  | .iload_n n => match ts_lget ls n with
    | some (.inl x) => some (.inl (pc + 1, ls, .inl x :: st, M))
    | _ => none
  | .lload n => match ts_lget ls n with
    | some (.inr (.inl x)) => some (.inl (pc + 2, ls, .inr (.inl x) :: st, M))
    | _ => none
  | .lload_n n => match ts_lget ls n with
    | some (.inr (.inl x)) => some (.inl (pc + 1, ls, .inr (.inl x) :: st, M))
    | _ => none
  | .istore n => match st with
    | .inl x :: r => if n < Y.2.2.1 then some (.inl (pc + 2, ts_lset ls n (.inl x), r, M)) else none
    | _ => none
  | .istore_n n => match st with
    | .inl x :: r => if (n : Nat) < Y.2.2.1 then some (.inl (pc + 1, ts_lset ls n (.inl x), r, M)) else none
    | _ => none
  | .lstore n => match st with
    | .inr (.inl x) :: r => if n + 1 < Y.2.2.1 then some (.inl (pc + 2, ts_lset ls n (.inr (.inl x)), r, M)) else none
    | _ => none
  | .lstore_n n => match st with
    | .inr (.inl x) :: r => if (n : Nat) + 1 < Y.2.2.1 then some (.inl (pc + 1, ts_lset ls n (.inr (.inl x)), r, M)) else none
    | _ => none
  | .invokevirtual x => match ts_cal Y.2.2.2.2 x with
    | some (y, n, 0, _) => match st.drop n with
      | .inr (.inr (some b)) :: r => if ts_sh b = (0, ts_cls y) ∧ b < M.2.2.2 ∧ n ≤ st.length ∧ ts_cats r ≤ 8 then ts_back (ts_knd y) (call y (.inr (.inr (some b)) :: (st.take n).reverse) M) pc ls r else none
      | _ => none
    | _ => none
  | .invokestatic x => match ts_bi Y.2.2.2.2 x with
    | 2 => match st with
      | .inl y :: .inl z :: r => if ts_cats r ≤ 8 then some (.inl (pc + 3, ls, .inl (if y < z then y else z) :: r, M)) else none
      | _ => none
    | 3 => match st with
      | .inl y :: .inl z :: r => if ts_cats r ≤ 8 then some (.inl (pc + 3, ls, .inl (if z < y then y else z) :: r, M)) else none
      | _ => none
    | _ => match ts_cal Y.2.2.2.2 x with
      | some (y, n, 1, _) => if n ≤ st.length ∧ ts_cats (st.drop n) ≤ 8 then ts_back (ts_knd y) (call y (st.take n).reverse M) pc ls (st.drop n) else none
      | _ => none
  | .invokespecial x => match ts_bi Y.2.2.2.2 x with
    | 1 => match st with
      | .inr (.inr (some _)) :: r => if ts_cats r ≤ 8 then some (.inl (pc + 3, ls, r, M)) else none
      | _ => none
    | _ => match ts_cal Y.2.2.2.2 x with
      | some (y, n, 2, _) => match st.drop n with
        | .inr (.inr (some b)) :: r => if n ≤ st.length ∧ ts_cats r ≤ 8 then ts_back (ts_knd y) (call y (.inr (.inr (some b)) :: (st.take n).reverse) M) pc ls r else none
        | _ => none
      | _ => none
  | .new x => match ts_cK Y.2.2.2.2 x with
    | some c => if ts_sh M.2.2.2 = (0, c) ∧ M.2.2.2 < ts_NN then some (.inl (pc + 3, ls, .inr (.inr (some M.2.2.2)) :: st, ts_new M)) else none
    | none => none
  | .newarray t => match st with
    | .inl n :: r => if ((t = .int ∧ ts_sh M.2.2.2 = (1, n.toNatClampNeg)) ∨ (t = .byte ∧ ts_sh M.2.2.2 = (2, n.toNatClampNeg)) ∨ (t = .long ∧ ts_sh M.2.2.2 = (3, n.toNatClampNeg))) ∧ 0 ≤ n ∧ n.toNatClampNeg ≤ 10000 ∧ M.2.2.2 < ts_NN then some (.inl (pc + 2, ls, .inr (.inr (some M.2.2.2)) :: r, ts_new M)) else none
    | _ => none
  | .putfield x => match ts_fld Y.2.2.2.2 x with
    | some (c, k) => if (ts_T c k).2.2.2 = true ∧ ¬ (Y.1.name = "<init>" ∧ c = Y.2.2.2.2) then none else match st with
      | .inl v :: .inr (.inr (some a)) :: r => if ts_sh a = (0, c) ∧ a < M.2.2.2 ∧ (ts_ty c k = .int ∨ ts_ty c k = .boolean ∧ (v = 0 ∨ v = 1)) then some (.inl (pc + 3, ls, r, ts_wrI M a k v)) else none
      | .inr (.inr (some o)) :: .inr (.inr (some a)) :: r => if ts_sh a = (0, c) ∧ a < M.2.2.2 ∧ ts_isr (ts_ty c k) = true ∧ (Y.1.name = "<init>" ∨ ts_mu c k = true) then some (.inl (pc + 3, ls, r, ts_wrR M a k (some o))) else none
      | _ => none
    | none => none
  | .tableswitch dflt lo hi offs => match st with
    | .inl x :: r => if x.toInt < lo ∨ hi < x.toInt then ts_to pc dflt ls r M else match offs[(x.toInt - lo).toNat]? with
      | some off => ts_to pc off ls r M
      | none => none
    | _ => none
  | .ireturn => match st with
    | [.inl v] => if Y.2.2.2.1 = some .int ∨ Y.2.2.2.1 = some .boolean ∧ (v = 0 ∨ v = 1) then some (.inr (some (.inl v), M)) else none
    | _ => none
  | .lreturn => match st with
    | [.inr (.inl v)] => if Y.2.2.2.1 = some .long then some (.inr (some (.inr (.inl v)), M)) else none
    | _ => none
  | .return_ => match st with
    | [] => if Y.2.2.2.1 = none then some (.inr (none, M)) else none
    | _ => none
  | _ => none
/-- what only constructors do -/
def ts_ci : Instr → Bool
  | .new _ => true
  | .newarray _ => true
  | .anewarray _ => true
  | .aastore => true
  | .invokespecial _ => true
  | _ => false
def ts_one (call : ts_C) (Y : ts_Y) (f : ts_F) : Option (ts_F ⊕ ts_R) := match decode Y.2.1 f.1 with
  | .ok (i, len) => if len = ts_len i len ∧ (ts_ci i = true → Y.1.name = "<init>") then ts_step call Y i len f.1 f.2.1 f.2.2.1 f.2.2.2 else none
  | .error _ => none
def ts_runN (call : ts_C) (Y : ts_Y) : Nat → ts_F → Option ts_R
  | 0, _ => none
  | n + 1, f => match ts_one call Y f with
    | some (.inl g) => ts_runN call Y n g
    | some (.inr r) => some r
    | none => none
theorem ts_runN_more {call : ts_C} {Y : ts_Y} : ∀ (n : Nat) (f : ts_F) (r : ts_R), ts_runN call Y n f = some r → ts_runN call Y (n + 1) f = some r := by
  intro n
  induction n with
  | zero => intro f r h; simp [ts_runN] at h
  | succ n ih =>
    intro f r h
    rw [ts_runN] at h ⊢
    cases h1 : ts_one call Y f with
    | none => rw [h1] at h; exact h
    | some z => cases z with
      | inl g => rw [h1] at h; exact ih g r h
      | inr q => rw [h1] at h; exact h
theorem ts_runN_le {call : ts_C} {Y : ts_Y} {n m : Nat} (hnm : n ≤ m) {f : ts_F} {r : ts_R} (h : ts_runN call Y n f = some r) : ts_runN call Y m f = some r := by
  obtain ⟨k, rfl⟩ := Nat.le.dest hnm
  induction k with
  | zero => exact h
  | succ k ih => exact ts_runN_more _ _ _ (ih (Nat.le_add_right _ _))
noncomputable def ts_run (call : ts_C) (Y : ts_Y) (f : ts_F) : Option ts_R := @dite (Option ts_R) (∃ (r : ts_R) (n : Nat), ts_runN call Y n f = some r) (Classical.propDecidable _) (fun h => some h.choose) (fun _ => none)
theorem ts_run_of {call : ts_C} {Y : ts_Y} {f : ts_F} {r : ts_R} {n : Nat} (h : ts_runN call Y n f = some r) : ts_run call Y f = some r := by
  have hx : ∃ (r : ts_R) (n : Nat), ts_runN call Y n f = some r := ⟨r, n, h⟩
  unfold ts_run
  rw [dif_pos hx]
  obtain ⟨m, hm⟩ := hx.choose_spec
  have h1 := ts_runN_le (Nat.le_max_left n m) h
  have h2 := ts_runN_le (Nat.le_max_right n m) hm
  rw [h1] at h2
  rw [← Option.some.inj h2]
theorem ts_run_ex {call : ts_C} {Y : ts_Y} {f : ts_F} {r : ts_R} (h : ts_run call Y f = some r) : ∃ n : Nat, ts_runN call Y n f = some r := by
  unfold ts_run at h
  by_cases hx : ∃ (r : ts_R) (n : Nat), ts_runN call Y n f = some r
  · rw [dif_pos hx] at h
    rw [← Option.some.inj h]
    exact hx.choose_spec
  · rw [dif_neg hx] at h
    cases h
theorem ts_run_step (call : ts_C) (Y : ts_Y) (f : ts_F) : ts_run call Y f = match ts_one call Y f with
    | some (.inl g) => ts_run call Y g
    | some (.inr r) => some r
    | none => none := by
  apply Option.ext
  intro r
  constructor
  · intro h
    obtain ⟨n, hn⟩ := ts_run_ex h
    cases n with
    | zero => simp [ts_runN] at hn
    | succ n =>
      rw [ts_runN] at hn
      cases h1 : ts_one call Y f with
      | none => rw [h1] at hn; cases hn
      | some z => cases z with
        | inl g => rw [h1] at hn; exact ts_run_of hn
        | inr q => rw [h1] at hn; exact hn
  · intro h
    cases h1 : ts_one call Y f with
    | none => rw [h1] at h; cases h
    | some z => cases z with
      | inl g =>
        rw [h1] at h
        obtain ⟨n, hn⟩ := ts_run_ex h
        exact ts_run_of (n := n + 1) (by rw [ts_runN, h1]; exact hn)
      | inr q =>
        rw [h1] at h
        exact ts_run_of (n := 1) (by rw [ts_runN, h1]; exact h)
def ts_ar : List ts_V → List (Option ts_V)
  | [] => []
  | v :: t => if ts_isl (some v) then some v :: none :: ts_ar t else some v :: ts_ar t
def ts_l0 (As : List ts_V) (n : Nat) : List (Option ts_V) := ts_ar As ++ List.replicate (n - (ts_ar As).length) none
noncomputable def ts_ev : Nat → ts_C
  | 0 => fun _ _ _ => none
  | d + 1 => fun y As M => match ts_mL[y]? with
    | some Y => if (ts_ar As).length ≤ Y.2.2.1 then ts_run (ts_ev d) Y (0, ts_l0 As Y.2.2.1, [], M) else none
    | none => none
