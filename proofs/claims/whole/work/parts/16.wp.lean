/-! what a method does, said of the second machine: Wp d mi pc lv st M Q: from there it returns, and Q holds of what it answers and of the memory then -/
def Wp (sc : Option (Nat × (Nat → Int32))) (d mi pc : Nat) (lv : List (Nat × Value)) (st : List Value) (M : hp) (Q : Option Value → hp → Prop) : Prop :=
  ∃ (n : Nat) (r : Option Value) (M' : hp), ev sc n d mi pc lv st M = some (r, M') ∧ Q r M'
/-- more fuel does no harm -/
theorem ev_more {sc : Option (Nat × (Nat → Int32))} : ∀ (n d mi pc : Nat) (lv : List (Nat × Value)) (st : List Value) (M : hp) (x : Option Value × hp), ev sc n d mi pc lv st M = some x → ev sc (n + 1) d mi pc lv st M = some x := by
  have key : ∀ (n : Nat) (sc : Option (Nat × (Nat → Int32))) (d mi pc : Nat) (lv : List (Nat × Value)) (st : List Value) (M : hp) (x : Option Value × hp), ev sc n d mi pc lv st M = some x → ev sc (n + 1) d mi pc lv st M = some x := by
    intro n
    induction n with
    | zero => intro sc d mi pc lv st M x h; simp [ev] at h
    | succ n ih =>
      intro sc d mi pc lv st M x h
      rw [ev] at h ⊢
      split at h
      · cases h
      · rename_i ins len k hkat
        split at h
        · rename_i kc hkc
          split at h
          · rename_i hg
            split at h
            · rename_i d' hdc
              split at h
              · rename_i r1 M1 h1
                have e1 := ih _ _ _ _ _ _ _ _ h1
                have e2 := ih _ _ _ _ _ _ _ _ h
                simp only [hkc, hg, hdc, e1, and_self, if_true]
                exact e2
              · cases h
            · cases h
          · cases h
        · rename_i hkc
          split at h
          · rename_i hir
            simp only [hkc, hir, if_true]
            exact h
          · rename_i hir
            split at h
            · rename_i pc1 lv1 st1 M1 h1
              have e2 := ih _ _ _ _ _ _ _ _ h
              simp only [hkc, hir, h1, if_false]
              exact e2
            · cases h
  exact fun n d mi pc lv st M x h => key n sc d mi pc lv st M x h
theorem ev_le {sc : Option (Nat × (Nat → Int32))} {n n' d mi pc : Nat} {lv : List (Nat × Value)} {st : List Value} {M : hp} {x : Option Value × hp} (hn : n ≤ n') (h : ev sc n d mi pc lv st M = some x) : ev sc n' d mi pc lv st M = some x := by
  induction hn with
  | refl => exact h
  | step _ ih => exact ev_more _ _ _ _ _ _ _ _ ih
theorem ev_det {sc : Option (Nat × (Nat → Int32))} {n n' d mi pc : Nat} {lv : List (Nat × Value)} {st : List Value} {M : hp} {x y : Option Value × hp} (h : ev sc n d mi pc lv st M = some x) (h' : ev sc n' d mi pc lv st M = some y) : x = y := by
  rcases Nat.le_total n n' with q | q
  · have := ev_le q h
    rw [this] at h'
    exact Option.some.inj h'
  · have := ev_le q h'
    rw [h] at this
    exact Option.some.inj this
theorem Wp.mono {sc : Option (Nat × (Nat → Int32))} {d mi pc : Nat} {lv : List (Nat × Value)} {st : List Value} {M : hp} {Q Q' : Option Value → hp → Prop} (h : Wp sc d mi pc lv st M Q) (hQ : ∀ r M', Q r M' → Q' r M') : Wp sc d mi pc lv st M Q' := by
  obtain ⟨n, r, M', h1, h2⟩ := h
  exact ⟨n, r, M', h1, hQ r M' h2⟩
/-- a step -/
theorem Wp_step {sc : Option (Nat × (Nat → Int32))} {d mi pc : Nat} {lv : List (Nat × Value)} {st : List Value} {M : hp} {Q : Option Value → hp → Prop} {ins : Instr} {len : Nat} {k : Option Nat} {pc' : Nat} {lv' : List (Nat × Value)} {st' : List Value} {M' : hp} (hk : kat mi pc = some (ins, len, k)) (hc : kcall ins = none) (hr : kisret ins = false) (hs : stp sc (kIni mi) (kOwn mi) (kM mi).2.2.1 ins pc len lv st M = some (pc', lv', st', M')) :
    Wp sc d mi pc lv st M Q = Wp sc d mi pc' (knx mi pc' lv') st' M' Q := by
  have e : ∀ n, ev sc (n + 1) d mi pc lv st M = ev sc n d mi pc' (knx mi pc' lv') st' M' := by
    intro n
    rw [ev]
    simp only [hk, hc, hr, hs]
    rfl
  apply propext
  constructor
  · intro ⟨n, r, M2, h1, h2⟩
    cases n with
    | zero => simp [ev] at h1
    | succ n => exact ⟨n, r, M2, by rw [← e]; exact h1, h2⟩
  · intro ⟨n, r, M2, h1, h2⟩
    exact ⟨n + 1, r, M2, by rw [e]; exact h1, h2⟩
theorem Wp_ret {sc : Option (Nat × (Nat → Int32))} {d mi pc : Nat} {lv : List (Nat × Value)} {st : List Value} {M : hp} {Q : Option Value → hp → Prop} {ins : Instr} {len : Nat} {k : Option Nat} {r : Option Value} (hk : kat mi pc = some (ins, len, k)) (hc : kcall ins = none) (hr : kisret ins = true) (hs : kretv (kRet mi) ins st = some r) :
    Wp sc d mi pc lv st M Q = Q r M := by
  have e : ∀ n, ev sc (n + 1) d mi pc lv st M = some (r, M) := by
    intro n
    rw [ev]
    simp only [hk, hc, hr, hs, if_true]
  apply propext
  constructor
  · intro ⟨n, r2, M2, h1, h2⟩
    cases n with
    | zero => simp [ev] at h1
    | succ n =>
      rw [e] at h1
      cases h1
      exact h2
  · intro h
    exact ⟨1, r, M, e 0, h⟩
theorem Wp_call {sc : Option (Nat × (Nat → Int32))} {d d' mi pc kc : Nat} {lv : List (Nat × Value)} {st : List Value} {M : hp} {Q : Option Value → hp → Prop} {ins : Instr} {len : Nat} {k : Option Nat} (hk : kat mi pc = some (ins, len, k)) (hc : kcall ins = some kc) (hd : dcall d mi (kc % 1000) = some d') {as rest : List Value} (h1 : (st.take (kNA (kc % 1000))).reverse = as) (h2 : st.drop (kNA (kc % 1000)) = rest)
    (hg : krecv (kc / 1000) (kc % 1000) as M = true ∧ kNA (kc % 1000) ≤ st.length ∧ (rest.map (fun v => v.category)).sum ≤ 8 ∧ ((st.take (kNA (kc % 1000))).map (fun v => v.category)).sum ≤ (kM (kc % 1000)).2.2.1) :
    Wp sc d mi pc lv st M Q = Wp none d' (kc % 1000) 0 (lv_args 0 as) [] M (fun r M1 => Wp sc d mi (pc + 3) (knx mi (pc + 3) lv) (r.toList ++ rest) M1 Q) := by
  subst h1; subst h2
  have e : ∀ n, ev sc (n + 1) d mi pc lv st M = (match ev none n d' (kc % 1000) 0 (lv_args 0 (st.take (kNA (kc % 1000))).reverse) [] M with
            | some (r, M1) => ev sc n d mi (pc + 3) (knx mi (pc + 3) lv) (r.toList ++ st.drop (kNA (kc % 1000))) M1
            | none => none) := by
    intro n
    rw [ev]
    simp only [hk, hc]
    rw [if_pos hg]
    simp only [hd]
    rfl
  apply propext
  constructor
  · intro ⟨n, r, M2, h1, h2⟩
    cases n with
    | zero => simp [ev] at h1
    | succ n =>
      rw [e] at h1
      split at h1
      · rename_i r1 M1 h3
        exact ⟨n, r1, M1, h3, n, r, M2, h1, h2⟩
      · cases h1
  · intro ⟨n, r1, M1, h3, n2, r, M2, h1, h2⟩
    refine ⟨(n + n2) + 1, r, M2, ?_, h2⟩
    rw [e, ev_le (Nat.le_add_right n n2) h3]
    exact ev_le (Nat.le_add_left n2 n) h1
