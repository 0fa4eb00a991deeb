variable {d : Nat} {M : hp} {Q : Option Value → hp → Prop}
/-! the law's calls -/
def k9b (mi : Nat) : Bool := match kat mi 0, kat mi 1, kat mi 2 with
  | some (.aload_n 0, 1, _), some (.iconst 0, 1, none), some (.putfield 900, 3, none) => true
  | _, _, _ => false
theorem k9b_s {mi : Nat} (h : k9b mi = true) : ∃ k, kat mi 0 = some (.aload_n 0, 1, k) ∧ kat mi 1 = some (.iconst 0, 1, none) ∧ kat mi 2 = some (.putfield 900, 3, none) := by
  unfold k9b at h
  split at h
  · rename_i h0 h1 h2
    exact ⟨_, h0, h1, h2⟩
  · cases h
theorem ev_k9 {mi n d' : Nat} {L : List (Nat × Value)} {M1 : hp} {x : Option Value × hp} (h9 : k9b mi = true) (h : ev none n d' mi 0 ((0, .ref 126) :: L) [] M1 = some x) : (hK M1 126).1 = 9 := by
  obtain ⟨k, e0, e1, e2⟩ := k9b_s h9
  have kn : ∀ pc lv ins len, kat mi pc = some (ins, len, none) → knx mi pc lv = lv := by
    intro pc lv ins len e
    unfold knx
    rw [e]
    rfl
  cases n with
  | zero => simp [ev] at h
  | succ n =>
    rw [ev, e0] at h
    simp only [kcall, kisret, stp, stA, stB, lget, List.lookup] at h
    simp at h
    rw [kn 1 _ _ _ e1] at h
    cases n with
    | zero => simp [ev] at h
    | succ n =>
      rw [ev, e1] at h
      simp only [kcall, kisret, stp, stA] at h
      simp at h
      rw [kn 2 _ _ _ e2] at h
      cases n with
      | zero => simp [ev] at h
      | succ n =>
        rw [ev, e2] at h
        simp only [kcall, kisret, stp, stA, stB, stC, stD] at h
        by_cases c : (hK M1 126).1 = 9
        · exact c
        · exfalso
          revert h
          simp [c]
theorem ev_rt {mi : Nat} {T : Value → Prop} (hT : ∀ (pc : Nat) (ins : Instr) (len : Nat) (k : Option Nat) (st : List Value) (r : Option Value), kat mi pc = some (ins, len, k) → kisret ins = true → kretv (kRet mi) ins st = some r → ∃ v, r = some v ∧ T v) : ∀ (n d' pc : Nat) (sc : Option (Nat × (Nat → Int32))) (lv : List (Nat × Value)) (st : List Value) (M1 : hp) (r : Option Value) (M' : hp), ev sc n d' mi pc lv st M1 = some (r, M') → ∃ v, r = some v ∧ T v := by
  intro n
  induction n with
  | zero => intro d' pc sc lv st M1 r M' h; simp [ev] at h
  | succ n ih =>
    intro d' pc sc lv st M1 r M' h
    simp only [ev] at h
    split at h
    · cases h
    · rename_i hk
      split at h
      · split at h
        · split at h
          · split at h
            · exact ih _ _ _ _ _ _ _ _ h
            · cases h
          · cases h
        · cases h
      · split at h
        · rename_i hr
          split at h
          · rename_i hv
            simp only [Option.some.injEq, Prod.mk.injEq] at h
            obtain ⟨rfl, -⟩ := h
            exact hT _ _ _ _ _ _ hk hr hv
          · cases h
        · split at h
          · exact ih _ _ _ _ _ _ _ _ h
          · cases h
theorem rt_int {mi : Nat} (hr : kRet mi = some .int) (pc : Nat) (ins : Instr) (len : Nat) (k : Option Nat) (st : List Value) (r : Option Value) (_ : kat mi pc = some (ins, len, k)) (_ : kisret ins = true) (h : kretv (kRet mi) ins st = some r) : ∃ v, r = some v ∧ ∃ z, v = .int z := by
  rw [hr] at h
  unfold kretv at h
  split at h
  · split at h
    · split at h
      · cases h; exact ⟨_, rfl, _, rfl⟩
      · cases h
    · cases h
  · split at h
    · split at h
      · rename_i q; cases q
      · cases h
    · cases h
  · split at h
    · rename_i q; cases q
    · rename_i q; cases q
    · cases h
  · split at h
    · split at h
      · rename_i q; cases q
      · cases h
    · cases h
  · cases h
def noIr (mi : Nat) : Bool := (kCs.getD mi []).all (fun x => match x with
  | some (.ireturn, _, _) => false
  | _ => true)
theorem noIr_s {mi pc len : Nat} {k : Option Nat} (h : noIr mi = true) : ¬ kat mi pc = some (.ireturn, len, k) := by
  intro e
  unfold kat at e
  unfold noIr at h
  cases hl : kCs[mi]? with
  | none => rw [hl] at e; cases e
  | some l =>
    rw [hl] at e
    rw [List.getD_eq_getElem?_getD, hl] at h
    simp only [Option.getD_some] at h
    cases hp : l[pc]? with
    | none => simp only [hp] at e; cases e
    | some x =>
      simp only [hp] at e
      have := List.all_eq_true.mp h x (List.mem_of_getElem? hp)
      rw [e] at this
      cases this
theorem rt_long {mi : Nat} (hn : noIr mi = true) (hr : kRet mi = some .long) (pc : Nat) (ins : Instr) (len : Nat) (k : Option Nat) (st : List Value) (r : Option Value) (hk : kat mi pc = some (ins, len, k)) (_ : kisret ins = true) (h : kretv (kRet mi) ins st = some r) : ∃ v, r = some v ∧ ∃ z, v = .long z := by
  rw [hr] at h
  unfold kretv at h
  split at h
  · exact absurd hk (noIr_s hn)
  · split at h
    · split at h
      · cases h; exact ⟨_, rfl, _, rfl⟩
      · cases h
    · cases h
  · split at h
    · rename_i q; cases q
    · rename_i q; cases q
    · cases h
  · split at h
    · split at h
      · rename_i q; cases q
      · cases h
    · cases h
  · cases h
theorem Alk_int {mi : Nat} {L : List (Nat × Value)} (h9 : k9b mi = true) (hr : kRet mi = some .int) (K : ∀ z M1, (hK M1 126).1 = 9 → (∀ (Q2 : Option Value → hp → Prop), (∀ M2, Sim M2 → hN M2 ≤ hN M + 3 → hS M2 ≤ hS M + 500 → Q2 (some (.int z)) M2) → Wp none d mi 0 ((0, .ref 126) :: L) [] M1 Q2) → Q (some (.int z)) M1) : Alk d mi ((0, .ref 126) :: L) M Q := by
  intro v M1 R
  obtain ⟨n, r, M', h1, h2⟩ := R (fun r _ => r = some v) (fun _ _ _ _ => rfl)
  obtain ⟨v', e1, z, e2⟩ := ev_rt (T := fun v => ∃ z, v = .int z) (rt_int hr) _ _ _ _ _ _ _ _ _ h1
  rw [h2] at e1
  cases e1
  subst e2
  exact K z M1 (ev_k9 h9 h1) R
theorem Alk_long {mi : Nat} {L : List (Nat × Value)} (h9 : k9b mi = true) (hn : noIr mi = true) (hr : kRet mi = some .long) (K : ∀ z M1, (hK M1 126).1 = 9 → (∀ (Q2 : Option Value → hp → Prop), (∀ M2, Sim M2 → hN M2 ≤ hN M + 3 → hS M2 ≤ hS M + 500 → Q2 (some (.long z)) M2) → Wp none d mi 0 ((0, .ref 126) :: L) [] M1 Q2) → Q (some (.long z)) M1) : Alk d mi ((0, .ref 126) :: L) M Q := by
  intro v M1 R
  obtain ⟨n, r, M', h1, h2⟩ := R (fun r _ => r = some v) (fun _ _ _ _ => rfl)
  obtain ⟨v', e1, z, e2⟩ := ev_rt (T := fun v => ∃ z, v = .long z) (rt_long hn hr) _ _ _ _ _ _ _ _ _ h1
  rw [h2] at e1
  cases e1
  subst e2
  exact K z M1 (ev_k9 h9 h1) R
theorem vlaw {i j N : Nat} (h : i + j < N) (hN : N ≤ 3072) : vin (nI i + nI j) N = true := by
  rw [nI_add, vin_n (by omega)]
  exact decide_eq_true h
def LK (N : Nat) (F : Nat → Int32) (i : Nat) (M : hp) (Q : Option Value → hp → Prop) : Prop := ∀ M2, Sim M2 → hN M2 ≤ hN M + 3 → hS M2 ≤ hS M + 500 → Wp (some (N, F)) 8 272 1232 [(0, .ref 1), (1, .ref 64), (2, .ref 126), (3, .int (nI i))] [] M2 Q
