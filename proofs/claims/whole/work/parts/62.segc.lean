theorem ngo {f g : Nat} {go : Int32} (h : ¬ nI f < go) (hfg : f ≤ g) (hg : g < 2147483648) : ¬ nI g < go := by
  intro q
  apply h
  rw [fa_lt] at *
  rw [nI_toInt (show f < 2 ^ 31 by omega)]
  rw [nI_toInt (show g < 2 ^ 31 by omega)] at q
  omega
theorem SegC_num {N : Nat} {C : Nat → Int32} {c v : Nat} (h0 : C c &&& 15 = 0) (h1 : C c >>> (4 &&& 31) = nI v) (hc : c < 1000) : SegC N C c (c + 1) 1 (numD v) := by
  refine ⟨by omega, fun E x q1 q2 => ?_⟩
  refine ⟨x.1, upd64 x.2.2.2 x.2.1 x.2.2.1, ?_, ngo q1 (by omega) (by omega), ?_, ?_⟩
  · rw [show c + 1 - c = 1 by omega]
    unfold cst c1
    rw [if_neg q1, if_pos h0, h1, show min (x.2.1 + 1) 50 = x.2.1 + 1 by omega]
    rfl
  · intro j hj; unfold upd64; rw [if_neg (by omega)]
  · unfold upd64; rw [if_pos rfl]
theorem SegC_wrd {N : Nat} {C : Nat → Int32} {c w : Nat} (h0 : C c &&& 15 = 1) (h1 : C c >>> (4 &&& 31) = nI w) (hw : w < N) (hc : c < 1000) : SegC N C c (c + 1) 1 (wrdD w) := by
  refine ⟨by omega, fun E x q1 q2 => ?_⟩
  refine ⟨x.1, upd64 x.2.2.2 x.2.1 x.2.2.1, ?_, ngo q1 (by omega) (by omega), ?_, ?_⟩
  · rw [show c + 1 - c = 1 by omega]
    unfold cst c1
    rw [if_neg q1, if_neg (by rw [h0]; decide), if_pos h0, h1, show min (x.2.1 + 1) 50 = x.2.1 + 1 by omega]
    unfold msk
    rw [if_pos hw]
    rfl
  · intro j hj; unfold upd64; rw [if_neg (by omega)]
  · unfold upd64; rw [if_pos rfl]
theorem cst_two {C : Nat → Int32} {E : Int32 → Int32} {f m g : Nat} {x : cse} (h1 : f ≤ m) (h2 : m ≤ g) : cst C E (g - f) f x = match cst C E (m - f) f x with
    | none => none
    | some y => cst C E (g - m) m y := by
  rw [show g - f = (m - f) + (g - m) by omega, cst_app]
  rw [show f + (m - f) = m by omega]
  cases cst C E (m - f) f x <;> rfl
theorem cst_1 {C : Nat → Int32} {E : Int32 → Int32} {g : Nat} {y : cse} : cst C E (g + 1 - g) g y = c1 C E g y := by
  rw [show g + 1 - g = 1 by omega]
  unfold cst
  cases c1 C E g y <;> rfl
theorem SegC_bin {N : Nat} {C : Nat → Int32} {f m g w1 w2 : Nat} {op : Int32} {A B : Den} (hA : SegC N C f m w1 A) (hB : SegC N C m g w2 B) (ho : C g &&& 15 = op) (h0 : ¬ op = 0) (h1 : ¬ op = 1) (h10 : ¬ op = 10) (h11 : ¬ op = 11) (h12 : ¬ op = 12) (hw : 1 ≤ w1) (hg : g < 1000) : SegC N C f (g + 1) (w1 + w2) (binD op A B) := by
  have f1 := hA.1
  have f2 := hB.1
  refine ⟨by omega, fun E x q1 q2 => ?_⟩
  have a := hA.2 E x q1 (by omega)
  unfold binD
  rw [cst_two (m := m) (by omega) (by omega)]
  cases eA : A (msk N E) with
  | none => rw [eA] at a; rw [show cst C E (m - f) f x = none from a]
  | some va =>
    rw [eA] at a
    obtain ⟨go, s, a1, a2, a3, a4⟩ := a
    rw [a1]
    have b := hB.2 E (go, x.2.1 + 1, va, s) a2 (by show x.2.1 + 1 + w2 ≤ 50; omega)
    show match (match B (msk N E) with | none => none | some c => if joinB op va c = true then none else some (joinV op va c) : Option Int64) with
      | none => cst C E (g + 1 - m) m (go, x.2.1 + 1, va, s) = none
      | some v => ∃ go' s', cst C E (g + 1 - m) m (go, x.2.1 + 1, va, s) = some (go', x.2.1 + 1, v, s') ∧ ¬ nI (g + 1) < go' ∧ (∀ j, j < x.2.1 → s' j = x.2.2.2 j) ∧ s' x.2.1 = x.2.2.1
    rw [cst_two (f := m) (m := g) (by omega) (by omega)]
    cases eB : B (msk N E) with
    | none => rw [eB] at b; rw [show cst C E (g - m) m (go, x.2.1 + 1, va, s) = none from b]
    | some vb =>
      rw [eB] at b
      obtain ⟨go2, s2, b1, b2, b3, b4⟩ := b
      rw [b1]
      have t : s2 (x.2.1 + 1) = va := b4
      show match (if joinB op va vb = true then none else some (joinV op va vb) : Option Int64) with
        | none => cst C E (g + 1 - g) g (go2, x.2.1 + 1 + 1, vb, s2) = none
        | some v => ∃ go' s', cst C E (g + 1 - g) g (go2, x.2.1 + 1 + 1, vb, s2) = some (go', x.2.1 + 1, v, s') ∧ ¬ nI (g + 1) < go' ∧ (∀ j, j < x.2.1 → s' j = x.2.2.2 j) ∧ s' x.2.1 = x.2.2.1
      have st : c1 C E g (go2, x.2.1 + 1 + 1, vb, s2) = if joinB op va vb = true then none else some (go2, x.2.1 + 1, joinV op va vb, s2) := by
        unfold c1
        rw [ho]
        show (if nI g < go2 then _ else _) = _
        rw [if_neg b2, if_neg h0, if_neg h1, if_neg h10, if_neg h11, if_neg h12]
        show (if joinB op (s2 (x.2.1 + 1)) vb = true then none else some (go2, x.2.1 + 1, joinV op (s2 (x.2.1 + 1)) vb, s2)) = _
        rw [t]
      rw [cst_1, st]
      by_cases c : joinB op va vb = true
      · rw [if_pos c, if_pos c]
      · rw [if_neg c, if_neg c]
        refine ⟨go2, s2, rfl, ngo b2 (by omega) (by omega), ?_, ?_⟩
        · intro j hj
          rw [b3 j (by show j < x.2.1 + 1; omega)]
          exact a3 j hj
        · rw [b3 x.2.1 (by show x.2.1 < x.2.1 + 1; omega)]
          exact a4
theorem SegC_not {N : Nat} {C : Nat → Int32} {f g w : Nat} {A : Den} (hA : SegC N C f g w A) (ho : C g &&& 15 = 10) (hg : g < 1000) : SegC N C f (g + 1) w (notD A) := by
  have f1 := hA.1
  refine ⟨by omega, fun E x q1 q2 => ?_⟩
  have a := hA.2 E x q1 (by omega)
  unfold notD
  rw [cst_two (m := g) (by omega) (by omega)]
  cases eA : A (msk N E) with
  | none => rw [eA] at a; rw [show cst C E (g - f) f x = none from a]
  | some va =>
    rw [eA] at a
    obtain ⟨go, s, a1, a2, a3, a4⟩ := a
    rw [a1]
    refine ⟨go, s, ?_, ngo a2 (by omega) (by omega), a3, a4⟩
    show cst C E (g + 1 - g) g (go, x.2.1 + 1, va, s) = _
    rw [cst_1]
    unfold c1
    rw [ho]
    show (if nI g < go then _ else _) = _
    rw [if_neg a2, if_neg (by decide), if_neg (by decide), if_pos rfl]
theorem SegC_and {N : Nat} {C : Nat → Int32} {f m g w1 w2 : Nat} {A B : Den} (hA : SegC N C f m w1 A) (hB : SegC N C (m + 1) g w2 B) (ho : C m &&& 15 = 11) (hj : C m >>> (4 &&& 31) = nI g) (hg : g < 1000) : SegC N C f g (w1 + w2) (andD A B) := by
  have f1 := hA.1
  have f2 := hB.1
  refine ⟨by omega, fun E x q1 q2 => ?_⟩
  have a := hA.2 E x q1 (by omega)
  unfold andD
  rw [cst_two (m := m) (by omega) (by omega)]
  cases eA : A (msk N E) with
  | none => rw [eA] at a; rw [show cst C E (m - f) f x = none from a]
  | some va =>
    rw [eA] at a
    obtain ⟨go, s, a1, a2, a3, a4⟩ := a
    rw [a1]
    show match (if va = 0 then some va else B (msk N E) : Option Int64) with
      | none => cst C E (g - m) m (go, x.2.1 + 1, va, s) = none
      | some v => ∃ go' s', cst C E (g - m) m (go, x.2.1 + 1, va, s) = some (go', x.2.1 + 1, v, s') ∧ ¬ nI g < go' ∧ (∀ j, j < x.2.1 → s' j = x.2.2.2 j) ∧ s' x.2.1 = x.2.2.1
    rw [cst_two (f := m) (m := m + 1) (by omega) (by omega), cst_1]
    have st : c1 C E m (go, x.2.1 + 1, va, s) = if va = 0 then some (nI g, x.2.1 + 1, va, s) else some (go, x.2.1, s x.2.1, s) := by
      unfold c1
      rw [ho, hj]
      show (if nI m < go then _ else _) = _
      rw [if_neg a2, if_neg (by decide), if_neg (by decide), if_neg (by decide), if_pos rfl]
      rfl
    rw [st]
    by_cases c : va = 0
    · rw [if_pos c, if_pos c]
      refine ⟨nI g, s, ?_, by rw [fa_lt]; omega, a3, a4⟩
      show cst C E (g - (m + 1)) (m + 1) (nI g, x.2.1 + 1, va, s) = _
      exact cst_skip _ _ (fun j r1 r2 => by
        show nI j < nI g
        rw [n_lt (by omega) (by omega)]
        omega)
    · rw [if_neg c, if_neg c]
      have b := hB.2 E (go, x.2.1, s x.2.1, s) (ngo a2 (by omega) (by omega)) (by show x.2.1 + w2 ≤ 50; omega)
      cases eB : B (msk N E) with
      | none => rw [eB] at b; exact b
      | some vb =>
        rw [eB] at b
        obtain ⟨go2, s2, b1, b2, b3, b4⟩ := b
        refine ⟨go2, s2, b1, b2, ?_, ?_⟩
        · intro j hj
          rw [b3 j hj]
          exact a3 j hj
        · rw [b4]
          exact a4
theorem SegC_or {N : Nat} {C : Nat → Int32} {f m g w1 w2 : Nat} {A B : Den} (hA : SegC N C f m w1 A) (hB : SegC N C (m + 1) g w2 B) (ho : C m &&& 15 = 12) (hj : C m >>> (4 &&& 31) = nI g) (hg : g < 1000) : SegC N C f g (w1 + w2) (orD A B) := by
  have f1 := hA.1
  have f2 := hB.1
  refine ⟨by omega, fun E x q1 q2 => ?_⟩
  have a := hA.2 E x q1 (by omega)
  unfold orD
  rw [cst_two (m := m) (by omega) (by omega)]
  cases eA : A (msk N E) with
  | none => rw [eA] at a; rw [show cst C E (m - f) f x = none from a]
  | some va =>
    rw [eA] at a
    obtain ⟨go, s, a1, a2, a3, a4⟩ := a
    rw [a1]
    show match (if va = 0 then B (msk N E) else some va : Option Int64) with
      | none => cst C E (g - m) m (go, x.2.1 + 1, va, s) = none
      | some v => ∃ go' s', cst C E (g - m) m (go, x.2.1 + 1, va, s) = some (go', x.2.1 + 1, v, s') ∧ ¬ nI g < go' ∧ (∀ j, j < x.2.1 → s' j = x.2.2.2 j) ∧ s' x.2.1 = x.2.2.1
    rw [cst_two (f := m) (m := m + 1) (by omega) (by omega), cst_1]
    have st : c1 C E m (go, x.2.1 + 1, va, s) = if va = 0 then some (go, x.2.1, s x.2.1, s) else some (nI g, x.2.1 + 1, va, s) := by
      unfold c1
      rw [ho, hj]
      show (if nI m < go then _ else _) = _
      rw [if_neg a2, if_neg (by decide), if_neg (by decide), if_neg (by decide), if_neg (by decide), if_pos rfl]
      rfl
    rw [st]
    by_cases c : va = 0
    · rw [if_pos c, if_pos c]
      have b := hB.2 E (go, x.2.1, s x.2.1, s) (ngo a2 (by omega) (by omega)) (by show x.2.1 + w2 ≤ 50; omega)
      cases eB : B (msk N E) with
      | none => rw [eB] at b; exact b
      | some vb =>
        rw [eB] at b
        obtain ⟨go2, s2, b1, b2, b3, b4⟩ := b
        refine ⟨go2, s2, b1, b2, ?_, ?_⟩
        · intro j hj
          rw [b3 j hj]
          exact a3 j hj
        · rw [b4]
          exact a4
    · rw [if_neg c, if_neg c]
      refine ⟨nI g, s, ?_, by rw [fa_lt]; omega, a3, a4⟩
      show cst C E (g - (m + 1)) (m + 1) (nI g, x.2.1 + 1, va, s) = _
      exact cst_skip _ _ (fun j r1 r2 => by
        show nI j < nI g
        rw [n_lt (by omega) (by omega)]
        omega)
