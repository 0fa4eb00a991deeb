/-! A second machine, small and total, over the same code: a memory of numbers by places (the kinds of the cells, ints, longs, references; 0: null), calls by fuel. What it answers the first machine answers (part 08); everything about the program is then said of it. -/
abbrev hp : Type := Nat × Nat × (Nat → Nat × Nat) × (Nat → Nat → Int32) × (Nat → Nat → Int64) × (Nat → Nat → Nat)
def hN (M : hp) : Nat := M.1
def hS (M : hp) : Nat := M.2.1
def hK (M : hp) : Nat → Nat × Nat := M.2.2.1
def hI (M : hp) : Nat → Nat → Int32 := M.2.2.2.1
def hL (M : hp) : Nat → Nat → Int64 := M.2.2.2.2.1
def hR (M : hp) : Nat → Nat → Nat := M.2.2.2.2.2
def up {α : Type} (f : Nat → Nat → α) (a k : Nat) (v : α) : Nat → Nat → α := fun a' k' => if a' = a ∧ k' = k then v else f a' k'
def sI (M : hp) (a k : Nat) (v : Int32) : hp := (M.1, M.2.1, M.2.2.1, up M.2.2.2.1 a k v, M.2.2.2.2.1, M.2.2.2.2.2)
def sL (M : hp) (a k : Nat) (v : Int64) : hp := (M.1, M.2.1, M.2.2.1, M.2.2.2.1, up M.2.2.2.2.1 a k v, M.2.2.2.2.2)
def sR (M : hp) (a k : Nat) (v : Nat) : hp := (M.1, M.2.1, M.2.2.1, M.2.2.2.1, M.2.2.2.2.1, up M.2.2.2.2.2 a k v)
/-- a new cell of a kind and a length, of so many slots, all zero -/
def sNew (M : hp) (kind len slots : Nat) : hp := (M.1 + 1, M.2.1 + slots, (fun a => if a = 64 + M.1 then (kind, len) else M.2.2.1 a), (fun a k => if a = 64 + M.1 then 0 else M.2.2.2.1 a k), (fun a k => if a = 64 + M.1 then 0 else M.2.2.2.2.1 a k), (fun a k => if a = 64 + M.1 then 0 else M.2.2.2.2.2 a k))
def krv (q : Nat) : Value := if q = 0 then .null else .ref q
def kfv (M : hp) (a ci k : Nat) : Value := match kty ci k with
  | 0 => .int (hI M a k)
  | 1 => .long (hL M a k)
  | _ => krv (hR M a k)
def mbit (m : Nat) : Nat → Bool
  | 0 => Nat.beq (m % 2) 1
  | k + 1 => mbit (m / 2) k
def kkeep (k : Option Nat) (lv : List (Nat × Value)) : List (Nat × Value) := match k with
  | none => lv
  | some m => lv.filter (fun q => mbit m q.1)
def knx (mi pc : Nat) (lv : List (Nat × Value)) : List (Nat × Value) := match kat mi pc with
  | some (_, _, k) => kkeep k lv
  | none => lv
def lget (lv : List (Nat × Value)) (i : Nat) : Option Value := lv.lookup i
def lins (i : Nat) (v : Value) : List (Nat × Value) → List (Nat × Value)
  | [] => [(i, v)]
  | q :: t => if i < q.1 then (i, v) :: q :: t else q :: lins i v t
def lst1 (i : Nat) (v : Value) (lv : List (Nat × Value)) : List (Nat × Value) := lins i v (lv.filter (fun q => !(q.1 == i) && !(q.1 + 1 == i && q.2.category == 2)))
def lst2 (i : Nat) (v : Value) (lv : List (Nat × Value)) : List (Nat × Value) := lins i v (lv.filter (fun q => !(q.1 == i) && (!(q.1 == i + 1) && !(q.1 + 1 == i && q.2.category == 2))))
def cnd (c : Jvm.ClassFile.Cond) (x y : Int32) : Bool := match c with
  | .eq => decide (x = y)
  | .ne => decide (¬ x = y)
  | .lt => decide (x < y)
  | .ge => decide (y ≤ x)
  | .gt => decide (y < x)
  | .le => decide (x ≤ y)
def jmp (pc : Nat) (off : Int) : Option Nat := match (pc : Int) + off with
  | .ofNat t => some t
  | .negSucc _ => none
/-- what a step comes to: the place in the code, the locals, the stack, the memory -/
abbrev kst : Type := Nat × List (Nat × Value) × List Value × hp
def vin (i : Int32) (n : Nat) : Bool := decide (¬ (i < 0 ∨ n ≤ i.toNatClampNeg))
def kAt : ArrayType → Option Nat
  | .int => some 20
  | .long => some 21
  | .boolean => some 22
  | _ => none
/-- steps that read and write neither locals nor memory -/
def stA (ins : Instr) (st : List Value) : Option (List Value) :=
  match ins with
  | .iconst i => some (.int (Int32.ofInt i) :: st)
  | .bipush i => some (.int (Int8.ofInt i).toInt32 :: st)
  | .sipush i => some (.int (Int16.ofInt i).toInt32 :: st)
  | .lconst k => some (.long (Int64.ofNat (k : Nat)) :: st)
  | .ldc2_w j => some (.long (kJs.getD j 0) :: st)
  | .ldc j => some (.ref j :: st)
  | .aconst_null => some (.null :: st)
  | .iadd => match st with | .int y :: .int x :: r => some (.int (x + y) :: r) | _ => none
  | .isub => match st with | .int y :: .int x :: r => some (.int (x - y) :: r) | _ => none
  | .imul => match st with | .int y :: .int x :: r => some (.int (x * y) :: r) | _ => none
  | .iand => match st with | .int y :: .int x :: r => some (.int (x &&& y) :: r) | _ => none
  | .ior => match st with | .int y :: .int x :: r => some (.int (x ||| y) :: r) | _ => none
  | .ixor => match st with | .int y :: .int x :: r => some (.int (x ^^^ y) :: r) | _ => none
  | .ishl => match st with | .int y :: .int x :: r => some (.int (x <<< (y &&& 31)) :: r) | _ => none
  | .ishr => match st with | .int y :: .int x :: r => some (.int (x >>> (y &&& 31)) :: r) | _ => none
  | .iushr => match st with | .int y :: .int x :: r => some (.int (x.toUInt32 >>> (y.toUInt32 &&& Int32.toUInt32 31)).toInt32 :: r) | _ => none
  | .idiv => match st with | .int y :: .int x :: r => if y = 0 then none else some (.int (x / y) :: r) | _ => none
  | .irem => match st with | .int y :: .int x :: r => if y = 0 then none else some (.int (x - x / y * y) :: r) | _ => none
  | .ineg => match st with | .int x :: r => some (.int (-x) :: r) | _ => none
  | .ladd => match st with | .long y :: .long x :: r => some (.long (x + y) :: r) | _ => none
  | .lsub => match st with | .long y :: .long x :: r => some (.long (x - y) :: r) | _ => none
  | .lmul => match st with | .long y :: .long x :: r => some (.long (x * y) :: r) | _ => none
  | .ldiv => match st with | .long y :: .long x :: r => if y = 0 then none else some (.long (x / y) :: r) | _ => none
  | .lrem => match st with | .long y :: .long x :: r => if y = 0 then none else some (.long (x - x / y * y) :: r) | _ => none
  | .lcmp => match st with | .long y :: .long x :: r => some (.int (lg_cmp x y) :: r) | _ => none
  | .i2l => match st with | .int x :: r => some (.long x.toInt64 :: r) | _ => none
  | .l2i => match st with | .long x :: r => some (.int x.toInt32 :: r) | _ => none
  | .dup => match st with | v :: r => if v.category = 1 then some (v :: v :: r) else none | _ => none
  | .pop => match st with | v :: r => if v.category = 1 then some r else none | _ => none
  | .dup2 => match st with | v :: w :: r => if v.category = 1 ∧ w.category = 1 then some (v :: w :: v :: w :: r) else none | _ => none
  | .invokespecial k => match st with | .ref _ :: r => if k = 6000 ∧ (r.map (fun v => v.category)).sum ≤ 8 then some r else none | _ => none
  | .invokestatic k => match st with
    | .int y :: .int x :: r => if (r.map (fun v => v.category)).sum ≤ 8 then (if k = 9001 then some (.int (if x < y then y else x) :: r) else if k = 9002 then some (.int (if y < x then y else x) :: r) else none) else none
    | .long y :: .long x :: r => if (r.map (fun v => v.category)).sum ≤ 8 then (if k = 9003 then some (.long (if y < x then x else y) :: r) else if k = 9004 then some (.long (if y < x then y else x) :: r) else none) else none
    | _ => none
  | .invokevirtual k => match st with
    | .ref q :: r => if k = 7000 ∧ 2 ≤ q ∧ q < 13 ∧ (r.map (fun v => v.category)).sum ≤ 8 then some (.int (Int32.ofNat (kSs.getD q []).length) :: r) else none
    | .int i :: .ref q :: r => if k = 8000 ∧ 2 ≤ q ∧ q < 13 ∧ (r.map (fun v => v.category)).sum ≤ 8 ∧ vin i (kSs.getD q []).length = true then some (.int (Int32.ofNat ((kSs.getD q []).getD i.toNatClampNeg 0)) :: r) else none
    | _ => none
  | _ => none
/-- steps over the locals -/
def stB (nL : Nat) (ins : Instr) (lv : List (Nat × Value)) (st : List Value) : Option (List (Nat × Value) × List Value) :=
  match ins with
  | .iload_n k => match lget lv k.val with | some (.int x) => some (lv, .int x :: st) | _ => none
  | .iload k => match lget lv k with | some (.int x) => some (lv, .int x :: st) | _ => none
  | .lload_n k => match lget lv k.val with | some (.long x) => some (lv, .long x :: st) | _ => none
  | .lload k => match lget lv k with | some (.long x) => some (lv, .long x :: st) | _ => none
  | .aload_n k => match lget lv k.val with | some (.ref x) => some (lv, .ref x :: st) | some .null => some (lv, .null :: st) | _ => none
  | .aload k => match lget lv k with | some (.ref x) => some (lv, .ref x :: st) | some .null => some (lv, .null :: st) | _ => none
  | .istore_n k => match st with | .int x :: r => if k.val < nL then some (lst1 k.val (.int x) lv, r) else none | _ => none
  | .istore k => match st with | .int x :: r => if k < nL then some (lst1 k (.int x) lv, r) else none | _ => none
  | .lstore_n k => match st with | .long x :: r => if k.val + 1 < nL then some (lst2 k.val (.long x) lv, r) else none | _ => none
  | .lstore k => match st with | .long x :: r => if k + 1 < nL then some (lst2 k (.long x) lv, r) else none | _ => none
  | .astore_n k => match st with | .ref x :: r => if k.val < nL then some (lst1 k.val (.ref x) lv, r) else none | .null :: r => if k.val < nL then some (lst1 k.val .null lv, r) else none | _ => none
  | .astore k => match st with | .ref x :: r => if k < nL then some (lst1 k (.ref x) lv, r) else none | .null :: r => if k < nL then some (lst1 k .null lv, r) else none | _ => none
  | .iinc k i => match lget lv k with | some (.int x) => some (lst1 k (.int (x + Int32.ofInt i)) lv, st) | _ => none
  | _ => none
/-- steps that go elsewhere -/
def stC (ins : Instr) (pc len : Nat) (st : List Value) : Option (Nat × List Value) :=
  match ins with
  | .goto off => (jmp pc off).map (fun t => (t, st))
  | .ifCond c off => match jmp pc off, st with | some t, .int x :: r => some (if cnd c x 0 = true then t else pc + len, r) | _, _ => none
  | .if_icmp c off => match jmp pc off, st with | some t, .int y :: .int x :: r => some (if cnd c x y = true then t else pc + len, r) | _, _ => none
  | .ifnull off => match jmp pc off, st with | some _, .ref _ :: r => some (pc + len, r) | some t, .null :: r => some (t, r) | _, _ => none
  | .ifnonnull off => match jmp pc off, st with | some t, .ref _ :: r => some (t, r) | some _, .null :: r => some (pc + len, r) | _, _ => none
  | .tableswitch dflt lo hi offs => match st with
    | .int x :: r => if x.toInt < lo ∨ hi < x.toInt then (jmp pc dflt).map (fun t => (t, r)) else (match offs[(x.toInt - lo).toNat]? with | some o => (jmp pc o).map (fun t => (t, r)) | none => none)
    | _ => none
  | .lookupswitch dflt ps => match st with
    | .int x :: r => if (ps.toList.zip (ps.toList.drop 1)).all (fun (a, next) => a.1 < next.1) = true then (jmp pc (Op.lookupswitch.offset ps.toList dflt x.toInt)).map (fun t => (t, r)) else none
    | _ => none
  | _ => none
/-- steps that read and write the memory -/
def stD (sc : Option (Nat × (Nat → Int32))) (ini : Bool) (o : Nat) (ins : Instr) (st : List Value) (M : hp) : Option (List Value × hp) :=
  match ins with
  | .getfield n => match st with | .ref a :: r => if (hK M a).1 = n / 100 ∧ n % 100 < kNF (n / 100) then some (kfv M a (n / 100) (n % 100) :: r, M) else none | _ => none
  | .putfield n =>
    if (kfin (n / 100) (n % 100) = false ∨ (ini = true ∧ o = n / 100)) ∧ n % 100 < kNF (n / 100) then
      match st with
      | .int x :: .ref a :: r => if (hK M a).1 = n / 100 ∧ kty (n / 100) (n % 100) = 0 ∧ narrow (kft (n / 100) (n % 100)) (.int x) = .int x ∧ fits (kft (n / 100) (n % 100)) (.int x) = true then some (r, sI M a (n % 100) x) else none
      | .long x :: .ref a :: r => if (hK M a).1 = n / 100 ∧ kty (n / 100) (n % 100) = 1 then some (r, sL M a (n % 100) x) else none
      | .ref q :: .ref a :: r => if (hK M a).1 = n / 100 ∧ kty (n / 100) (n % 100) = 2 ∧ 64 ≤ q then some (r, sR M a (n % 100) q) else none
      | _ => none
    else none
  | .arraylength => match st with
    | .ref a :: r => if a = 1 then (match sc with | some (n, _) => some (.int (Int32.ofNat n) :: r, M) | none => none) else if 20 ≤ (hK M a).1 ∧ (hK M a).1 < 25 then some (.int (Int32.ofNat (hK M a).2) :: r, M) else none
    | _ => none
  | .iaload => match st with
    | .int i :: .ref a :: r => if a = 1 then (match sc with | some (n, f) => if vin i n = true then some (.int (f i.toNatClampNeg) :: r, M) else none | none => none) else if (hK M a).1 = 20 ∧ vin i (hK M a).2 = true then some (.int (hI M a i.toNatClampNeg) :: r, M) else none
    | _ => none
  | .baload => match st with | .int i :: .ref a :: r => if (hK M a).1 = 22 ∧ vin i (hK M a).2 = true then some (.int (hI M a i.toNatClampNeg) :: r, M) else none | _ => none
  | .laload => match st with | .int i :: .ref a :: r => if (hK M a).1 = 21 ∧ vin i (hK M a).2 = true then some (.long (hL M a i.toNatClampNeg) :: r, M) else none | _ => none
  | .aaload => match st with | .int i :: .ref a :: r => if ((hK M a).1 = 23 ∨ (hK M a).1 = 24) ∧ vin i (hK M a).2 = true then some (krv (hR M a i.toNatClampNeg) :: r, M) else none | _ => none
  | .iastore => match st with | .int x :: .int i :: .ref a :: r => if (hK M a).1 = 20 ∧ vin i (hK M a).2 = true then some (r, sI M a i.toNatClampNeg x) else none | _ => none
  | .bastore => match st with | .int x :: .int i :: .ref a :: r => if (hK M a).1 = 22 ∧ vin i (hK M a).2 = true then some (r, sI M a i.toNatClampNeg (vp_nar .boolean x)) else none | _ => none
  | .lastore => match st with | .long x :: .int i :: .ref a :: r => if (hK M a).1 = 21 ∧ vin i (hK M a).2 = true then some (r, sL M a i.toNatClampNeg x) else none | _ => none
  | .aastore => match st with | .ref q :: .int i :: .ref a :: r => if (((hK M a).1 = 23 ∧ (hK M q).1 = 7) ∨ ((hK M a).1 = 24 ∧ (hK M q).1 = 0)) ∧ vin i (hK M a).2 = true then some (r, sR M a i.toNatClampNeg q) else none | .null :: .int i :: .ref a :: r => if ((hK M a).1 = 23 ∨ (hK M a).1 = 24) ∧ vin i (hK M a).2 = true then some (r, sR M a i.toNatClampNeg 0) else none | _ => none
  | .newarray t => match st with | .int n :: r => (match kAt t with | some kd => if ¬ n < 0 ∧ n.toNatClampNeg ≤ 60000 then some (.ref (64 + hN M) :: r, sNew M kd n.toNatClampNeg n.toNatClampNeg) else none | none => none) | _ => none
  | .anewarray kd => match st with | .int n :: r => if (kd = 23 ∨ kd = 24) ∧ ¬ n < 0 ∧ n.toNatClampNeg ≤ 60000 then some (.ref (64 + hN M) :: r, sNew M kd n.toNatClampNeg n.toNatClampNeg) else none | _ => none
  | .new ci => if ci < 10 then some (.ref (64 + hN M) :: st, sNew M ci 0 (kNF ci)) else none
  | _ => none
def stp (sc : Option (Nat × (Nat → Int32))) (ini : Bool) (o nL : Nat) (ins : Instr) (pc len : Nat) (lv : List (Nat × Value)) (st : List Value) (M : hp) : Option kst :=
  match stA ins st with
  | some st' => some (pc + len, lv, st', M)
  | none => match stB nL ins lv st with
    | some (lv', st') => some (pc + len, lv', st', M)
    | none => match stC ins pc len st with
      | some (pc', st') => some (pc', lv, st', M)
      | none => match stD sc ini o ins st M with
        | some (st', M') => some (pc + len, lv, st', M')
        | none => none
def kcall : Instr → Option Nat
  | .invokevirtual k => if k < 6000 then some k else none
  | .invokestatic k => if k < 6000 then some k else none
  | .invokespecial k => if k < 6000 then some k else none
  | _ => none
def kisret : Instr → Bool
  | .ireturn => true
  | .lreturn => true
  | .areturn => true
  | .return_ => true
  | _ => false
def kretv (rt : Option FieldType) (ins : Instr) (st : List Value) : Option (Option Value) :=
  match ins with
  | .ireturn => match st, rt with | [.int v], some ty => if narrow ty (.int v) = .int v then some (some (.int v)) else none | _, _ => none
  | .lreturn => match st with | [.long v] => if rt = some .long then some (some (.long v)) else none | _ => none
  | .areturn => match st, rt with | [.ref v], some (.object _) => some (some (.ref v)) | [.null], some (.object _) => some (some .null) | _, _ => none
  | .return_ => match st with | [] => if rt = none then some none else none | _ => none
  | _ => none
/-- a call that is no recursion goes to a lower level; one that is takes of d -/
def dcall (d mi mj : Nat) : Option Nat := if kLvl mj < kLvl mi then some d else match d with
  | 0 => none
  | d' + 1 => some d'
/-- the receiver is of the method's class (kinds 0, 1: virtual; 4, 5: constructors) -/
def krecv (kind mj : Nat) (args : List Value) (M : hp) : Bool := match kind with
  | 0 => (match args with | .ref a :: _ => decide ((hK M a).1 = kOwn mj) | _ => false)
  | 1 => (match args with | .ref a :: _ => decide ((hK M a).1 = kOwn mj) | _ => false)
  | 4 => (match args with | .ref _ :: _ => true | _ => false)
  | 5 => (match args with | .ref _ :: _ => true | _ => false)
  | _ => true
def ev (sc : Option (Nat × (Nat → Int32))) : Nat → Nat → Nat → Nat → List (Nat × Value) → List Value → hp → Option (Option Value × hp)
  | 0, _, _, _, _, _, _ => none
  | n + 1, d, mi, pc, lv, st, M =>
    match kat mi pc with
    | none => none
    | some (ins, len, _) => match kcall ins with
      | some k =>
        if krecv (k / 1000) (k % 1000) (st.take (kNA (k % 1000))).reverse M = true ∧ kNA (k % 1000) ≤ st.length ∧ ((st.drop (kNA (k % 1000))).map (fun v => v.category)).sum ≤ 8 ∧ ((st.take (kNA (k % 1000))).map (fun v => v.category)).sum ≤ (kM (k % 1000)).2.2.1 then
          match dcall d mi (k % 1000) with
          | some d' => match ev none n d' (k % 1000) 0 (lv_args 0 (st.take (kNA (k % 1000))).reverse) [] M with
            | some (r, M1) => ev sc n d mi (pc + 3) (knx mi (pc + 3) lv) (r.toList ++ st.drop (kNA (k % 1000))) M1
            | none => none
          | none => none
        else none
      | none => if kisret ins = true then (match kretv (kRet mi) ins st with | some r => some (r, M) | none => none)
        else match stp sc (kIni mi) (kOwn mi) (kM mi).2.2.1 ins pc len lv st M with
          | some (pc', lv', st', M') => ev sc n d mi pc' (knx mi pc' lv') st' M'
          | none => none
