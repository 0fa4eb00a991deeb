/-! stretches of code without a call: what they come to, and what must hold for it (Ps), by computation -/
def kfit (ci k : Nat) (x : Int32) : List Prop := match kft ci k with
  | .int => []
  | _ => [x = 0 ∨ x = 1]
/-- a nullable reference as a value -/
def isRv (v : Value) : Prop := match v with
  | .ref _ => True
  | .null => True
  | _ => False
theorem isRv_krv (q : Nat) : isRv (krv q) := by
  unfold krv
  by_cases h : q = 0
  · rw [if_pos h]; trivial
  · rw [if_neg h]; trivial
theorem isRv_ref (q : Nat) : isRv (.ref q) := trivial
theorem isRv_null : isRv .null := trivial
def stU (sc : Option (Nat × (Nat → Int32))) (ini : Bool) (o nL : Nat) (ins : Instr) (lv : List (Nat × Value)) (st : List Value) (M : hp) : Option (List Prop × List (Nat × Value) × List Value × hp) :=
  match ins with
  | .aload_n k => match lget lv k.val with | some v => some ([isRv v], lv, v :: st, M) | none => none
  | .aload k => match lget lv k with | some v => some ([isRv v], lv, v :: st, M) | none => none
  | .astore_n k => match st with | v :: r => if k.val < nL ∧ v.category = 1 then some ([isRv v], lst1 k.val v lv, r, M) else none | _ => none
  | .astore k => match st with | v :: r => if k < nL ∧ v.category = 1 then some ([isRv v], lst1 k v lv, r, M) else none | _ => none
  | .idiv => match st with | .int y :: .int x :: r => some ([¬ y = 0], lv, .int (x / y) :: r, M) | _ => none
  | .irem => match st with | .int y :: .int x :: r => some ([¬ y = 0], lv, .int (x - x / y * y) :: r, M) | _ => none
  | .ldiv => match st with | .long y :: .long x :: r => some ([¬ y = 0], lv, .long (x / y) :: r, M) | _ => none
  | .lrem => match st with | .long y :: .long x :: r => some ([¬ y = 0], lv, .long (x - x / y * y) :: r, M) | _ => none
  | .getfield n => if n % 100 < kNF (n / 100) then (match st with
    | .ref a :: r => (match kty (n / 100) (n % 100) with
      | 0 => some ([(hK M a).1 = n / 100], lv, .int (hI M a (n % 100)) :: r, M)
      | 1 => some ([(hK M a).1 = n / 100], lv, .long (hL M a (n % 100)) :: r, M)
      | _ => some ([(hK M a).1 = n / 100, ¬ hR M a (n % 100) = 0], lv, .ref (hR M a (n % 100)) :: r, M))
    | _ => none) else none
  | .putfield n => if (kfin (n / 100) (n % 100) = false ∨ (ini = true ∧ o = n / 100)) ∧ n % 100 < kNF (n / 100) then (match st with
    | .int x :: .ref a :: r => if kty (n / 100) (n % 100) = 0 then some (((hK M a).1 = n / 100) :: kfit (n / 100) (n % 100) x, lv, r, sI M a (n % 100) x) else none
    | .long x :: .ref a :: r => if kty (n / 100) (n % 100) = 1 then some ([(hK M a).1 = n / 100], lv, r, sL M a (n % 100) x) else none
    | .ref q :: .ref a :: r => if kty (n / 100) (n % 100) = 2 then some ([(hK M a).1 = n / 100, 64 ≤ q], lv, r, sR M a (n % 100) q) else none
    | _ => none) else none
  | .arraylength => match st with
    | .ref a :: r => (match sc with
      | none => some ([¬ a = 1, 20 ≤ (hK M a).1 ∧ (hK M a).1 < 25], lv, .int (Int32.ofNat (hK M a).2) :: r, M)
      | some (n, _) => some ([a = 1], lv, .int (Int32.ofNat n) :: r, M))
    | _ => none
  | .iaload => match st with
    | .int i :: .ref a :: r => (match sc with
      | none => some ([¬ a = 1, (hK M a).1 = 20, vin i (hK M a).2 = true], lv, .int (hI M a i.toNatClampNeg) :: r, M)
      | some (n, f) => some ([a = 1, vin i n = true], lv, .int (f i.toNatClampNeg) :: r, M))
    | _ => none
  | .baload => match st with | .int i :: .ref a :: r => some ([(hK M a).1 = 22, vin i (hK M a).2 = true], lv, .int (hI M a i.toNatClampNeg) :: r, M) | _ => none
  | .laload => match st with | .int i :: .ref a :: r => some ([(hK M a).1 = 21, vin i (hK M a).2 = true], lv, .long (hL M a i.toNatClampNeg) :: r, M) | _ => none
  | .aaload => match st with | .int i :: .ref a :: r => some ([(hK M a).1 = 23 ∨ (hK M a).1 = 24, vin i (hK M a).2 = true], lv, krv (hR M a i.toNatClampNeg) :: r, M) | _ => none
  | .iastore => match st with | .int x :: .int i :: .ref a :: r => some ([(hK M a).1 = 20, vin i (hK M a).2 = true], lv, r, sI M a i.toNatClampNeg x) | _ => none
  | .bastore => match st with | .int x :: .int i :: .ref a :: r => some ([(hK M a).1 = 22, vin i (hK M a).2 = true], lv, r, sI M a i.toNatClampNeg (vp_nar .boolean x)) | _ => none
  | .lastore => match st with | .long x :: .int i :: .ref a :: r => some ([(hK M a).1 = 21, vin i (hK M a).2 = true], lv, r, sL M a i.toNatClampNeg x) | _ => none
  | .aastore => match st with | .ref q :: .int i :: .ref a :: r => some ([((hK M a).1 = 23 ∧ (hK M q).1 = 7) ∨ ((hK M a).1 = 24 ∧ (hK M q).1 = 0), vin i (hK M a).2 = true], lv, r, sR M a i.toNatClampNeg q) | .null :: .int i :: .ref a :: r => some ([(hK M a).1 = 23 ∨ (hK M a).1 = 24, vin i (hK M a).2 = true], lv, r, sR M a i.toNatClampNeg 0) | _ => none
  | .newarray t => match st with | .int n :: r => (match kAt t with | some kd => some ([¬ n < 0 ∧ n.toNatClampNeg ≤ 60000], lv, .ref (64 + hN M) :: r, sNew M kd n.toNatClampNeg n.toNatClampNeg) | none => none) | _ => none
  | .anewarray kd => match st with | .int n :: r => if kd = 23 ∨ kd = 24 then some ([¬ n < 0 ∧ n.toNatClampNeg ≤ 60000], lv, .ref (64 + hN M) :: r, sNew M kd n.toNatClampNeg n.toNatClampNeg) else none | _ => none
  | .new ci => if ci < 10 then some ([], lv, .ref (64 + hN M) :: st, sNew M ci 0 (kNF ci)) else none
  | .invokestatic k => match st with
    | .int y :: .int x :: r => if k = 9001 then some ([(r.map (fun v => v.category)).sum ≤ 8], lv, .int (if x < y then y else x) :: r, M) else if k = 9002 then some ([(r.map (fun v => v.category)).sum ≤ 8], lv, .int (if y < x then y else x) :: r, M) else none
    | .long y :: .long x :: r => if k = 9003 then some ([(r.map (fun v => v.category)).sum ≤ 8], lv, .long (if y < x then x else y) :: r, M) else if k = 9004 then some ([(r.map (fun v => v.category)).sum ≤ 8], lv, .long (if y < x then y else x) :: r, M) else none
    | _ => none
  | .invokespecial k => match st with | .ref _ :: r => if k = 6000 then some ([(r.map (fun v => v.category)).sum ≤ 8], lv, r, M) else none | _ => none
  | .invokevirtual k => match st with
    | .ref q :: r => if k = 7000 then some ([2 ≤ q, q < 13, (r.map (fun v => v.category)).sum ≤ 8], lv, .int (Int32.ofNat (kSs.getD q []).length) :: r, M) else none
    | .int i :: .ref q :: r => if k = 8000 then some ([2 ≤ q, q < 13, (r.map (fun v => v.category)).sum ≤ 8, vin i (kSs.getD q []).length = true], lv, .int (Int32.ofNat ((kSs.getD q []).getD i.toNatClampNeg 0)) :: r, M) else none
    | _ => none
  | _ => match stA ins st with
    | some st' => some ([], lv, st', M)
    | none => match stB nL ins lv st with
      | some (lv', st') => some ([], lv', st', M)
      | none => none
def allP : List Prop → Prop
  | [] => True
  | p :: t => p ∧ allP t
theorem allP_app {a b : List Prop} (h : allP (a ++ b)) : allP a ∧ allP b := by
  induction a with
  | nil => exact ⟨trivial, h⟩
  | cons p t ih => exact ⟨⟨h.1, (ih h.2).1⟩, (ih h.2).2⟩
def blkU (sc : Option (Nat × (Nat → Int32))) (ini : Bool) (o nL : Nat) : List (Instr × Nat) → List (Nat × Value) → List Value → hp → Option (List Prop × List (Nat × Value) × List Value × hp)
  | [], lv, st, M => some ([], lv, st, M)
  | (i, _) :: t, lv, st, M => match stU sc ini o nL i lv st M with
    | some (P, lv1, st1, M1) => (match blkU sc ini o nL t lv1 st1 M1 with
      | some (P2, lv2, st2, M2) => some (P ++ P2, lv2, st2, M2)
      | none => none)
    | none => none
