/-! what the constructors do, as a list of what is done to the memory; a third machine, for their code alone, over such lists -/
abbrev mop : Type := Nat × Nat × Nat × Nat × Int32 × Int64
def M00 : hp := (0, 0, fun _ => (99, 0), fun _ _ => 0, fun _ _ => 0, fun _ _ => 0)
def opM (o : mop) (M : hp) : hp := match o.1 with
  | 0 => sNew M o.2.1 o.2.2.1 o.2.2.2.1
  | 1 => sI M o.2.1 o.2.2.1 o.2.2.2.2.1
  | 2 => sL M o.2.1 o.2.2.1 o.2.2.2.2.2
  | _ => sR M o.2.1 o.2.2.1 o.2.2.2.1
def denM : List mop → hp
  | [] => M00
  | o :: t => opM o (denM t)
def evD (ini : Bool) (o : Nat) (ins : Instr) (st : List Value) (os : List mop) : Option (List Value × List mop) :=
  match ins with
  | .getfield n => match st with | .ref a :: r => if (hK (denM os) a).1 = n / 100 ∧ n % 100 < kNF (n / 100) then some (kfv (denM os) a (n / 100) (n % 100) :: r, os) else none | _ => none
  | .putfield n =>
    if (kfin (n / 100) (n % 100) = false ∨ (ini = true ∧ o = n / 100)) ∧ n % 100 < kNF (n / 100) then
      match st with
      | .int x :: .ref a :: r => if (hK (denM os) a).1 = n / 100 ∧ kty (n / 100) (n % 100) = 0 ∧ narrow (kft (n / 100) (n % 100)) (.int x) = .int x ∧ fits (kft (n / 100) (n % 100)) (.int x) = true then some (r, (1, a, n % 100, 0, x, 0) :: os) else none
      | .ref q :: .ref a :: r => if (hK (denM os) a).1 = n / 100 ∧ kty (n / 100) (n % 100) = 2 ∧ 64 ≤ q then some (r, (3, a, n % 100, q, 0, 0) :: os) else none
      | _ => none
    else none
  | .iastore => match st with | .int x :: .int i :: .ref a :: r => if (hK (denM os) a).1 = 20 ∧ vin i (hK (denM os) a).2 = true then some (r, (1, a, i.toNatClampNeg, 0, x, 0) :: os) else none | _ => none
  | .lastore => match st with | .long x :: .int i :: .ref a :: r => if (hK (denM os) a).1 = 21 ∧ vin i (hK (denM os) a).2 = true then some (r, (2, a, i.toNatClampNeg, 0, 0, x) :: os) else none | _ => none
  | .aastore => match st with | .ref q :: .int i :: .ref a :: r => if (((hK (denM os) a).1 = 23 ∧ (hK (denM os) q).1 = 7) ∨ ((hK (denM os) a).1 = 24 ∧ (hK (denM os) q).1 = 0)) ∧ vin i (hK (denM os) a).2 = true then some (r, (3, a, i.toNatClampNeg, q, 0, 0) :: os) else none | _ => none
  | .newarray t => match st with | .int n :: r => (match kAt t with | some kd => if ¬ n < 0 ∧ n.toNatClampNeg ≤ 60000 then some (.ref (64 + hN (denM os)) :: r, (0, kd, n.toNatClampNeg, n.toNatClampNeg, 0, 0) :: os) else none | none => none) | _ => none
  | .anewarray kd => match st with | .int n :: r => if (kd = 23 ∨ kd = 24) ∧ ¬ n < 0 ∧ n.toNatClampNeg ≤ 60000 then some (.ref (64 + hN (denM os)) :: r, (0, kd, n.toNatClampNeg, n.toNatClampNeg, 0, 0) :: os) else none | _ => none
  | .new ci => if ci < 10 then some (.ref (64 + hN (denM os)) :: st, (0, ci, 0, kNF ci, 0, 0) :: os) else none
  | _ => none
theorem evD_ok {ini : Bool} {o : Nat} {ins : Instr} {st st' : List Value} {os os' : List mop} (h : evD ini o ins st os = some (st', os')) : stD none ini o ins st (denM os) = some (st', denM os') := by
  unfold evD at h
  unfold stD
  split at h
  all_goals (try dsimp only)
  all_goals (repeat' (split at h))
  all_goals first
    | (cases h; done)
    | (simp only [Option.some.injEq, Prod.mk.injEq] at h; obtain ⟨rfl, rfl⟩ := h; simp_all [denM, opM]; done)
/-- a step without a call -/
def evS (ini : Bool) (o nL : Nat) (ins : Instr) (pc len : Nat) (lv : List (Nat × Value)) (st : List Value) (os : List mop) : Option (Nat × List (Nat × Value) × List Value × List mop) :=
  match stA ins st with
  | some st' => some (pc + len, lv, st', os)
  | none => match stB nL ins lv st with
    | some (lv', st') => some (pc + len, lv', st', os)
    | none => match stC ins pc len st with
      | some (pc', st') => some (pc', lv, st', os)
      | none => match evD ini o ins st os with
        | some (st', os') => some (pc + len, lv, st', os')
        | none => none
theorem evS_ok {ini : Bool} {o nL : Nat} {ins : Instr} {pc len pc' : Nat} {lv lv' : List (Nat × Value)} {st st' : List Value} {os os' : List mop} (h : evS ini o nL ins pc len lv st os = some (pc', lv', st', os')) : stp none ini o nL ins pc len lv st (denM os) = some (pc', lv', st', denM os') := by
  unfold evS at h
  unfold stp
  split at h
  · rename_i s1 h1
    simp only [Option.some.injEq, Prod.mk.injEq] at h
    obtain ⟨rfl, rfl, rfl, rfl⟩ := h
    rw [h1]
  · rename_i h1
    rw [h1]
    split at h
    · rename_i s1 s2 h2
      simp only [Option.some.injEq, Prod.mk.injEq] at h
      obtain ⟨rfl, rfl, rfl, rfl⟩ := h
      simp only [h2]
    · rename_i h2
      simp only [h2]
      split at h
      · rename_i s1 s2 h3
        simp only [Option.some.injEq, Prod.mk.injEq] at h
        obtain ⟨rfl, rfl, rfl, rfl⟩ := h
        simp only [h3]
      · rename_i h3
        simp only [h3]
        split at h
        · rename_i s1 s2 h4
          simp only [Option.some.injEq, Prod.mk.injEq] at h
          obtain ⟨rfl, rfl, rfl, rfl⟩ := h
          simp only [evD_ok h4]
        · cases h
def evO : Nat → Nat → Nat → Nat → List (Nat × Value) → List Value → List mop → Option (Option Value × List mop)
  | 0, _, _, _, _, _, _ => none
  | n + 1, d, mi, pc, lv, st, os =>
    match kat mi pc with
    | none => none
    | some (ins, len, _) => match kcall ins with
      | some k =>
        if krecv (k / 1000) (k % 1000) (st.take (kNA (k % 1000))).reverse (denM os) = true ∧ kNA (k % 1000) ≤ st.length ∧ ((st.drop (kNA (k % 1000))).map (fun v => v.category)).sum ≤ 8 ∧ ((st.take (kNA (k % 1000))).map (fun v => v.category)).sum ≤ (kM (k % 1000)).2.2.1 then
          match dcall d mi (k % 1000) with
          | some d' => match evO n d' (k % 1000) 0 (lv_args 0 (st.take (kNA (k % 1000))).reverse) [] os with
            | some (r, os1) => evO n d mi (pc + 3) (knx mi (pc + 3) lv) (r.toList ++ st.drop (kNA (k % 1000))) os1
            | none => none
          | none => none
        else none
      | none => if kisret ins = true then (match kretv (kRet mi) ins st with | some r => some (r, os) | none => none)
        else match evS (kIni mi) (kOwn mi) (kM mi).2.2.1 ins pc len lv st os with
          | some (pc', lv', st', os') => evO n d mi pc' (knx mi pc' lv') st' os'
          | none => none
theorem evO_ok : ∀ (n d mi pc : Nat) (lv : List (Nat × Value)) (st : List Value) (os os' : List mop) (r : Option Value), evO n d mi pc lv st os = some (r, os') → ev none n d mi pc lv st (denM os) = some (r, denM os') := by
  intro n
  induction n with
  | zero => intro d mi pc lv st os os' r h; simp [evO] at h
  | succ n ih =>
    intro d mi pc lv st os os' r h
    rw [evO] at h
    rw [ev]
    split at h
    · cases h
    · rename_i ins len k hkat
      simp only [hkat]
      split at h
      · rename_i kc hkc
        simp only [hkc]
        split at h
        · rename_i hg
          rw [if_pos hg]
          split at h
          · rename_i d' hdc
            simp only [hdc]
            split at h
            · rename_i r1 os1 h1
              simp only [ih _ _ _ _ _ _ _ _ h1]
              exact ih _ _ _ _ _ _ _ _ h
            · cases h
          · cases h
        · cases h
      · rename_i hkc
        simp only [hkc]
        split at h
        · rename_i hir
          rw [if_pos hir]
          split at h
          · rename_i r1 h1
            simp only [Option.some.injEq, Prod.mk.injEq] at h
            obtain ⟨rfl, rfl⟩ := h
            rw [h1]
          · cases h
        · rename_i hir
          rw [if_neg hir]
          split at h
          · rename_i pc1 lv1 st1 os1 h1
            simp only [evS_ok h1]
            exact ih _ _ _ _ _ _ _ _ h
          · cases h
def evB (n d mi : Nat) (lv : List (Nat × Value)) (os os' : List mop) : Bool := match evO n d mi 0 lv [] os with
  | some (none, x) => decide (x = os')
  | _ => false
theorem evB_Wp {n d mi : Nat} {lv : List (Nat × Value)} {os os' : List mop} {Q : Option Value → hp → Prop} (h : evB n d mi lv os os' = true) (hQ : Q none (denM os')) : Wp none d mi 0 lv [] (denM os) Q := by
  unfold evB at h
  split at h
  · rename_i x hx
    have e := of_decide_eq_true h
    subst e
    exact ⟨n, none, _, evO_ok _ _ _ _ _ _ _ _ _ hx, hQ⟩
  · cases h
