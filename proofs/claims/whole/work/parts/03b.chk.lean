/-! what is decided of the tables -/
/-- a row of a table tells what a pool number of a class is -/
def khas (T : List (Nat × Nat × Nat × Nat)) (o i n : Nat) : Bool := T.any (fun e => e.1 == o && e.2.1 == i && e.2.2.2 == n)
def khasI (T : List (Nat × Nat × Nat × Int)) (o i : Nat) (n : Int) : Bool := T.any (fun e => e.1 == o && e.2.1 == i && e.2.2.2 == n)
def kres (o : Nat) (raw res : Instr) : Bool := match raw with
  | .getfield i => (match res with | .getfield n => khas kKF o i n | _ => false)
  | .putfield i => (match res with | .putfield n => khas kKF o i n | _ => false)
  | .invokevirtual i => (match res with | .invokevirtual n => khas kKM o i n && (n / 1000 == 0 || n / 1000 == 1 || n == 7000 || n == 8000) | _ => false)
  | .invokestatic i => (match res with | .invokestatic n => khas kKM o i n && (n / 1000 == 2 || n / 1000 == 3 || n / 1000 == 9) | _ => false)
  | .invokespecial i => (match res with | .invokespecial n => khas kKM o i n && (n / 1000 == 4 || n / 1000 == 5 || n == 6000) | _ => false)
  | .new i => (match res with | .new n => khas kKC o i n | _ => false)
  | .anewarray i => (match res with | .anewarray n => khas kKC o i n | _ => false)
  | .ldc i => (match res with | .ldc n => khas kKS o i n | .iconst v => khasI kKI o i v | _ => false)
  | .ldc_w i => (match res with | .iconst v => khasI kKI o i v | _ => false)
  | .ldc2_w i => (match res with | .ldc2_w n => khas kKJ o i n | _ => false)
  | a => decide (a = res)
/-- how long an instruction is -/
def klen (ri : Instr) (len : Nat) : Bool := match ri with
  | .bipush _ => len == 2
  | .ldc _ => len == 2
  | .iload _ => len == 2
  | .lload _ => len == 2
  | .aload _ => len == 2
  | .istore _ => len == 2
  | .lstore _ => len == 2
  | .astore _ => len == 2
  | .newarray _ => len == 2
  | .sipush _ => len == 3
  | .ldc_w _ => len == 3
  | .ldc2_w _ => len == 3
  | .getfield _ => len == 3
  | .putfield _ => len == 3
  | .invokevirtual _ => len == 3
  | .invokestatic _ => len == 3
  | .invokespecial _ => len == 3
  | .new _ => len == 3
  | .anewarray _ => len == 3
  | .goto _ => len == 3
  | .ifCond _ _ => len == 3
  | .if_icmp _ _ => len == 3
  | .ifnull _ => len == 3
  | .ifnonnull _ => len == 3
  | .iinc _ _ => len == 3
  | .tableswitch _ _ _ _ => true
  | .lookupswitch _ _ => true
  | _ => len == 1
/-- the code told is the code's bytes -/
def kchk (b : ByteArray) (o : Nat) : Nat → List (Option Instr) → List (Option (Instr × Nat × Option Nat)) → Bool
  | _, [], [] => true
  | pc, none :: r, none :: c => kchk b o (pc + 1) r c
  | pc, some ri :: r, some (ci, len, _) :: c => decide (decode b pc = .ok (ri, len)) && (kres o ri ci && klen ri len) && kchk b o (pc + 1) r c
  | _, _, _ => false
theorem kchk_get {b : ByteArray} {o : Nat} : ∀ (R : List (Option Instr)) (C : List (Option (Instr × Nat × Option Nat))) (p0 : Nat), kchk b o p0 R C = true → ∀ (j : Nat) (ci : Instr) (len : Nat) (k : Option Nat), C[j]? = some (some (ci, len, k)) → ∃ ri, decode b (p0 + j) = .ok (ri, len) ∧ kres o ri ci = true ∧ klen ri len = true := by
  intro R
  induction R with
  | nil =>
    intro C p0 h j ci len k hj
    cases C with
    | nil => simp at hj
    | cons c C => simp [kchk] at h
  | cons r R ih =>
    intro C p0 h j ci len k hj
    cases C with
    | nil => simp at hj
    | cons c C =>
      cases r with
      | none =>
        cases c with
        | none =>
          simp only [kchk] at h
          cases j with
          | zero => simp at hj
          | succ j =>
            obtain ⟨ri, h1, h2⟩ := ih C (p0 + 1) h j ci len k (by simpa using hj)
            exact ⟨ri, by rw [show p0 + (j + 1) = p0 + 1 + j by omega]; exact h1, h2⟩
        | some c => simp [kchk] at h
      | some ri0 =>
        cases c with
        | none => simp [kchk] at h
        | some c =>
          obtain ⟨ci0, len0, k0⟩ := c
          simp only [kchk, Bool.and_eq_true, decide_eq_true_eq] at h
          cases j with
          | zero =>
            simp only [List.getElem?_cons_zero, Option.some.injEq, Prod.mk.injEq] at hj
            obtain ⟨rfl, rfl, rfl⟩ := hj
            exact ⟨ri0, h.1.1, h.1.2.1, h.1.2.2⟩
          | succ j =>
            obtain ⟨ri, h1, h2⟩ := ih C (p0 + 1) h.2 j ci len k (by simpa using hj)
            exact ⟨ri, by rw [show p0 + (j + 1) = p0 + 1 + j by omega]; exact h1, h2⟩
theorem kchk_app {b : ByteArray} {o : Nat} {R2 : List (Option Instr)} {C2 : List (Option (Instr × Nat × Option Nat))} : ∀ {R1 : List (Option Instr)} {C1 : List (Option (Instr × Nat × Option Nat))} {p0 n : Nat}, R1.length = n → C1.length = n → kchk b o p0 R1 C1 = true → kchk b o (p0 + n) R2 C2 = true → kchk b o p0 (R1 ++ R2) (C1 ++ C2) = true := by
  intro R1
  induction R1 with
  | nil =>
    intro C1 p0 n h1 h2 h3 h4
    cases C1 with
    | nil => subst h1; exact h4
    | cons c C => simp at h1 h2; omega
  | cons r R ih =>
    intro C1 p0 n h1 h2 h3 h4
    cases C1 with
    | nil => simp at h1 h2; omega
    | cons c C =>
      cases n with
      | zero => simp at h1
      | succ n =>
        have h1' : R.length = n := by simpa using h1
        have h2' : C.length = n := by simpa using h2
        have h4' : kchk b o (p0 + 1 + n) R2 C2 = true := by rw [show p0 + 1 + n = p0 + (n + 1) by omega]; exact h4
        cases r with
        | none =>
          cases c with
          | none =>
            simp only [kchk, List.cons_append] at h3 ⊢
            exact ih h1' h2' h3 h4'
          | some c => simp [kchk] at h3
        | some ri =>
          cases c with
          | none => simp [kchk] at h3
          | some c =>
            obtain ⟨ci, len, k⟩ := c
            simp only [kchk, List.cons_append, Bool.and_eq_true] at h3 ⊢
            exact ⟨h3.1, ih h1' h2' h3.2 h4'⟩
