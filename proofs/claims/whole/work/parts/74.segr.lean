/-! stretches of the reference's code -/
abbrev rse : Type := Nat × Nat × (Nat → Int64)
/-- what a part is worth: numbers, words (of a law: 1 + the word; of orders: a hat's peg 5, what it knows 6) -/
def lvR (o : Bool) (e : Nat → Int32) (op arg : Int32) : Int64 := if op = 0 then arg.toInt64 else if o = true ∧ op = 5 then (e (4 + arg.toNatClampNeg)).toInt64 else if o = true ∧ op = 6 then (e (11 + arg.toNatClampNeg)).toInt64 else (e (op.toNatClampNeg - 1)).toInt64
def r1v (o : Bool) (Op Arg : Nat → Int32) (e : Nat → Int32) (i : Nat) (x : rse) : Option rse :=
  if i < x.1 then some x
  else if Op i < 20 then some (x.1, x.2.1 + 1, upd64 x.2.2 x.2.1 (lvR o e (Op i) (Arg i)))
  else if Op i < 28 then (if joinB (Op i - 18) (x.2.2 (x.2.1 - 2)) (x.2.2 (x.2.1 - 1)) = true then none else some (x.1, x.2.1 - 1, upd64 x.2.2 (x.2.1 - 2) (joinV (Op i - 18) (x.2.2 (x.2.1 - 2)) (x.2.2 (x.2.1 - 1)))))
  else if Op i = 28 then some (x.1, x.2.1, upd64 x.2.2 (x.2.1 - 1) (1 - x.2.2 (x.2.1 - 1)))
  else if x.2.2 (x.2.1 - 1) = (if Op i = 29 then 0 else 1) then some ((Arg i).toNatClampNeg, x.2.1, x.2.2)
  else some (x.1, x.2.1 - 1, x.2.2)
/-- a word that there is -/
def lfB (o : Bool) (op arg : Int32) : Bool := decide (0 ≤ op) && decide (op ≤ (if o = true then 6 else 9)) && (!o || decide (op < 5) || (decide (0 ≤ arg) && decide (arg ≤ 6)))
theorem lfB_arg {o : Bool} {op : Int32} {h : Nat} (hl : lfB o op 0 = true) (hh : h ≤ 6) : lfB o op (nI h) = true := by
  unfold lfB at hl ⊢
  rw [Bool.and_eq_true] at hl ⊢
  refine ⟨hl.1, ?_⟩
  rw [decide_eq_true (show (0 : Int32) ≤ nI h by show nI 0 ≤ nI h; rw [n_le (by omega) (by omega)]; omega), decide_eq_true (show nI h ≤ (6 : Int32) by show nI h ≤ nI 6; rw [n_le (by omega) (by omega)]; omega)]
  exact Bool.or_true _
/-- a step that no code that was read makes: a word that there isn't, too little on the stack, a jump back -/
def ubR (o : Bool) (Op Arg : Nat → Int32) (i n : Nat) : Bool :=
  if Op i < 20 then !(lfB o (Op i) (Arg i)) else if Op i < 28 then decide (n < 2) else if Op i = 28 then decide (n < 1) else decide (n < 1 ∨ (Arg i).toNatClampNeg ≤ i)
def r1 (o : Bool) (Op Arg : Nat → Int32) (e : Nat → Int32) (i : Nat) (x : rse) : Option rse :=
  if i < x.1 then some x
  else if ubR o Op Arg i x.2.1 = true then some (1000000000, 0, x.2.2)
  else r1v o Op Arg e i x
theorem r1_ok {o : Bool} {Op Arg : Nat → Int32} {e : Nat → Int32} {i : Nat} {x : rse} (h : ¬ ubR o Op Arg i x.2.1 = true) : r1 o Op Arg e i x = r1v o Op Arg e i x := by
  unfold r1
  by_cases c : i < x.1
  · rw [if_pos c]
    unfold r1v
    rw [if_pos c]
  · rw [if_neg c, if_neg h]
theorem ub_leaf {o : Bool} {Op Arg : Nat → Int32} {i n : Nat} (h : Op i < 20) (hl : lfB o (Op i) (Arg i) = true) : ¬ ubR o Op Arg i n = true := by
  unfold ubR
  rw [if_pos h, hl]
  decide
theorem ub_bin {o : Bool} {Op Arg : Nat → Int32} {i n : Nat} (h : ¬ Op i < 20) (h2 : Op i < 28) (hn : 2 ≤ n) : ¬ ubR o Op Arg i n = true := by
  unfold ubR
  rw [if_neg h, if_pos h2, decide_eq_true_iff]
  omega
theorem ub_not {o : Bool} {Op Arg : Nat → Int32} {i n : Nat} (h : Op i = 28) (hn : 1 ≤ n) : ¬ ubR o Op Arg i n = true := by
  unfold ubR
  rw [h, if_neg (by decide), if_neg (by decide), if_pos rfl, decide_eq_true_iff]
  omega
theorem ub_jmp {o : Bool} {Op Arg : Nat → Int32} {i n g : Nat} (h : Op i = 29 ∨ Op i = 30) (hn : 1 ≤ n) (ha : Arg i = nI g) (hg : g < 1000) (hi : i < g) : ¬ ubR o Op Arg i n = true := by
  unfold ubR
  rw [ha, n_cl (by omega)]
  rcases h with h | h
  · rw [h, if_neg (by decide), if_neg (by decide), if_neg (by decide), decide_eq_true_iff]
    omega
  · rw [h, if_neg (by decide), if_neg (by decide), if_neg (by decide), decide_eq_true_iff]
    omega
def rst (o : Bool) (Op Arg : Nat → Int32) (e : Nat → Int32) : Nat → Nat → rse → Option rse
  | 0, _, x => some x
  | k + 1, i, x => match r1 o Op Arg e i x with
    | none => none
    | some y => rst o Op Arg e k (i + 1) y
theorem rst_s (o : Bool) (Op Arg : Nat → Int32) (e : Nat → Int32) (k i : Nat) (x : rse) : rst o Op Arg e (k + 1) i x = match r1 o Op Arg e i x with
    | none => none
    | some y => rst o Op Arg e k (i + 1) y := rfl
theorem rst_app (o : Bool) (Op Arg : Nat → Int32) (e : Nat → Int32) : ∀ (k j i : Nat) (x : rse), rst o Op Arg e (k + j) i x = match rst o Op Arg e k i x with
    | none => none
    | some y => rst o Op Arg e j (i + k) y := by
  intro k
  induction k with
  | zero => intro j i x; simp [rst]
  | succ k ih =>
    intro j i x
    rw [show k + 1 + j = (k + j) + 1 by omega, rst_s, rst_s]
    cases r1 o Op Arg e i x with
    | none => rfl
    | some y =>
      show rst o Op Arg e (k + j) (i + 1) y = match rst o Op Arg e k (i + 1) y with
        | none => none
        | some z => rst o Op Arg e j (i + (k + 1)) z
      rw [ih j (i + 1) y, show i + 1 + k = i + (k + 1) by omega]
theorem rst_two {o : Bool} {Op Arg : Nat → Int32} {e : Nat → Int32} {f m g : Nat} {x : rse} (h1 : f ≤ m) (h2 : m ≤ g) : rst o Op Arg e (g - f) f x = match rst o Op Arg e (m - f) f x with
    | none => none
    | some y => rst o Op Arg e (g - m) m y := by
  rw [show g - f = (m - f) + (g - m) by omega, rst_app]
  rw [show f + (m - f) = m by omega]
theorem rst_1 {o : Bool} {Op Arg : Nat → Int32} {e : Nat → Int32} {g : Nat} {y : rse} : rst o Op Arg e (g + 1 - g) g y = r1 o Op Arg e g y := by
  rw [show g + 1 - g = 1 by omega]
  unfold rst
  cases r1 o Op Arg e g y <;> rfl
theorem rst_cong {o : Bool} {Op Arg Op' Arg' : Nat → Int32} {e : Nat → Int32} : ∀ (k i : Nat) (x : rse), (∀ j, i ≤ j → j < i + k → Op j = Op' j ∧ Arg j = Arg' j) → rst o Op Arg e k i x = rst o Op' Arg' e k i x := by
  intro k
  induction k with
  | zero => intro i x _; rfl
  | succ k ih =>
    intro i x h
    rw [rst_s, rst_s]
    have q := h i (Nat.le_refl i) (by omega)
    have e : r1 o Op Arg e i x = r1 o Op' Arg' e i x := by unfold r1 r1v ubR; rw [q.1, q.2]
    rw [e]
    cases r1 o Op' Arg' _ i x with
    | none => rfl
    | some y => exact ih (i + 1) y (fun j q1 q2 => h j (by omega) (by omega))
theorem rst_skip {o : Bool} {Op Arg : Nat → Int32} {e : Nat → Int32} {x : rse} : ∀ (k i : Nat), (∀ j, i ≤ j → j < i + k → j < x.1) → rst o Op Arg e k i x = some x := by
  intro k
  induction k with
  | zero => intro i _; rfl
  | succ k ih =>
    intro i h
    rw [rst_s]
    have e : r1 o Op Arg e i x = some x := by unfold r1; rw [if_pos (h i (Nat.le_refl i) (by omega))]
    rw [e]
    exact ih (i + 1) (fun j q1 q2 => h j (by omega) (by omega))
def SegR (o : Bool) (Op Arg : Nat → Int32) (f g : Nat) (D : Den) : Prop := f < g ∧ ∀ (e : Nat → Int32) (x : rse), x.1 ≤ f → match D e with
  | none => rst o Op Arg e (g - f) f x = none
  | some v => ∃ go s, rst o Op Arg e (g - f) f x = some (go, x.2.1 + 1, s) ∧ go ≤ g ∧ (∀ j, j < x.2.1 → s j = x.2.2 j) ∧ s x.2.1 = v
theorem SegR_cong {o : Bool} {Op Arg Op' Arg' : Nat → Int32} {f g : Nat} {D : Den} (h : SegR o Op Arg f g D) (hc : ∀ j, f ≤ j → j < g → Op j = Op' j ∧ Arg j = Arg' j) : SegR o Op' Arg' f g D := by
  refine ⟨h.1, fun e x q1 => ?_⟩
  have := h.2 e x q1
  rw [rst_cong (Op := Op) (Arg := Arg) (Op' := Op') (Arg' := Arg') (e := e) (g - f) f x (fun j r1 r2 => hc j r1 (by omega))] at this
  exact this
/-- true or false, if it is told at all -/
def isBD (D : Den) : Prop := ∀ e v, D e = some v → v = 0 ∨ v = 1
theorem isBD_cmp {op : Int32} {A B : Den} (h : op = 7 ∨ op = 8 ∨ op = 9) : isBD (binD op A B) := by
  intro e v hv
  unfold binD at hv
  split at hv
  · cases hv
  · split at hv
    · cases hv
    · split at hv
      · cases hv
      · rename_i a _ _ c _ _
        simp only [Option.some.injEq] at hv
        rw [← hv]
        unfold joinV
        rcases h with h | h | h
        · subst h
          rw [if_pos rfl]
          split
          · exact Or.inr rfl
          · exact Or.inl rfl
        · subst h
          rw [if_neg (by decide), if_pos rfl]
          split
          · exact Or.inr rfl
          · exact Or.inl rfl
        · subst h
          rw [if_neg (by decide), if_neg (by decide), if_pos rfl]
          split
          · exact Or.inr rfl
          · exact Or.inl rfl
theorem isBD_not (A : Den) : isBD (notD A) := by
  intro e v hv
  unfold notD at hv
  split at hv
  · cases hv
  · simp only [Option.some.injEq] at hv
    rw [← hv]
    split
    · exact Or.inr rfl
    · exact Or.inl rfl
theorem isBD_and {A B : Den} (hA : isBD A) (hB : isBD B) : isBD (andD A B) := by
  intro e v hv
  unfold andD at hv
  split at hv
  · cases hv
  · rename_i a ha
    split at hv
    · simp only [Option.some.injEq] at hv
      rw [← hv]
      exact hA e a ha
    · exact hB e v hv
theorem isBD_or {A B : Den} (hA : isBD A) (hB : isBD B) : isBD (orD A B) := by
  intro e v hv
  unfold orD at hv
  split at hv
  · cases hv
  · rename_i a ha
    split at hv
    · exact hB e v hv
    · simp only [Option.some.injEq] at hv
      rw [← hv]
      exact hA e a ha
theorem SegR_leaf {o : Bool} {Op Arg : Nat → Int32} {c : Nat} {D : Den} (h : Op c < 20) (hl : lfB o (Op c) (Arg c) = true) (hD : ∀ e, D e = some (lvR o e (Op c) (Arg c))) : SegR o Op Arg c (c + 1) D := by
  refine ⟨by omega, fun e x q1 => ?_⟩
  rw [hD e]
  refine ⟨x.1, upd64 x.2.2 x.2.1 (lvR o e (Op c) (Arg c)), ?_, by omega, ?_, ?_⟩
  · rw [rst_1, r1_ok (ub_leaf h hl)]
    unfold r1v
    rw [if_neg (by omega), if_pos h]
  · intro j hj; unfold upd64; rw [if_neg (by omega)]
  · unfold upd64; rw [if_pos rfl]
theorem SegR_bin {o : Bool} {Op Arg : Nat → Int32} {f m g v : Nat} {A B : Den} (hA : SegR o Op Arg f m A) (hB : SegR o Op Arg m g B) (ho : Op g = nI v) (hv : 20 ≤ v ∧ v < 28) : SegR o Op Arg f (g + 1) (binD (nI (v - 18)) A B) := by
  have f1 := hA.1
  have f2 := hB.1
  have e20 : ¬ Op g < 20 := by rw [ho]; show ¬ nI v < nI 20; rw [n_lt (by omega) (by omega)]; omega
  have e28 : Op g < 28 := by rw [ho]; show nI v < nI 28; rw [n_lt (by omega) (by omega)]; omega
  have e18 : Op g - 18 = nI (v - 18) := by rw [ho]; show nI v - nI 18 = _; rw [n_sub (by omega)]
  refine ⟨by omega, fun e x q1 => ?_⟩
  have a := hA.2 e x q1
  unfold binD
  rw [rst_two (m := m) (by omega) (by omega)]
  cases eA : A e with
  | none => rw [eA] at a; rw [show rst o Op Arg e (m - f) f x = none from a]
  | some va =>
    rw [eA] at a
    obtain ⟨go, s, a1, a2, a3, a4⟩ := a
    rw [a1]
    have b := hB.2 e (go, x.2.1 + 1, s) a2
    show match (match B e with | none => none | some c => if joinB (nI (v - 18)) va c = true then none else some (joinV (nI (v - 18)) va c) : Option Int64) with
      | none => rst o Op Arg e (g + 1 - m) m (go, x.2.1 + 1, s) = none
      | some w => ∃ go' s', rst o Op Arg e (g + 1 - m) m (go, x.2.1 + 1, s) = some (go', x.2.1 + 1, s') ∧ go' ≤ g + 1 ∧ (∀ j, j < x.2.1 → s' j = x.2.2 j) ∧ s' x.2.1 = w
    rw [rst_two (f := m) (m := g) (by omega) (by omega)]
    cases eB : B e with
    | none => rw [eB] at b; rw [show rst o Op Arg e (g - m) m (go, x.2.1 + 1, s) = none from b]
    | some vb =>
      rw [eB] at b
      obtain ⟨go2, s2, b1, b2, b3, b4⟩ := b
      rw [b1]
      have t : s2 (x.2.1 + 1) = vb := b4
      have t2 : s2 x.2.1 = va := (b3 x.2.1 (by show x.2.1 < x.2.1 + 1; omega)).trans a4
      show match (if joinB (nI (v - 18)) va vb = true then none else some (joinV (nI (v - 18)) va vb) : Option Int64) with
        | none => rst o Op Arg e (g + 1 - g) g (go2, x.2.1 + 1 + 1, s2) = none
        | some w => ∃ go' s', rst o Op Arg e (g + 1 - g) g (go2, x.2.1 + 1 + 1, s2) = some (go', x.2.1 + 1, s') ∧ go' ≤ g + 1 ∧ (∀ j, j < x.2.1 → s' j = x.2.2 j) ∧ s' x.2.1 = w
      have st : r1 o Op Arg e g (go2, x.2.1 + 1 + 1, s2) = if joinB (nI (v - 18)) va vb = true then none else some (go2, x.2.1 + 1, upd64 s2 x.2.1 (joinV (nI (v - 18)) va vb)) := by
        rw [r1_ok (ub_bin e20 e28 (by show 2 ≤ x.2.1 + 1 + 1; omega))]
        unfold r1v
        show (if g < go2 then _ else _) = _
        rw [if_neg (by have : go2 ≤ g := b2; omega), if_neg e20, if_pos e28, e18]
        show (if joinB (nI (v - 18)) (s2 x.2.1) (s2 (x.2.1 + 1)) = true then none else some (go2, x.2.1 + 1, upd64 s2 x.2.1 (joinV (nI (v - 18)) (s2 x.2.1) (s2 (x.2.1 + 1))))) = _
        rw [t, t2]
      rw [rst_1, st]
      by_cases c : joinB (nI (v - 18)) va vb = true
      · rw [if_pos c, if_pos c]
      · rw [if_neg c, if_neg c]
        refine ⟨go2, _, rfl, by have : go2 ≤ g := b2; omega, ?_, ?_⟩
        · intro j hj
          unfold upd64
          rw [if_neg (by omega), b3 j (by show j < x.2.1 + 1; omega)]
          exact a3 j hj
        · unfold upd64; rw [if_pos rfl]
theorem SegR_not {o : Bool} {Op Arg : Nat → Int32} {f g : Nat} {A : Den} (hA : SegR o Op Arg f g A) (hb : isBD A) (ho : Op g = 28) : SegR o Op Arg f (g + 1) (notD A) := by
  have f1 := hA.1
  refine ⟨by omega, fun e x q1 => ?_⟩
  have a := hA.2 e x q1
  unfold notD
  rw [rst_two (m := g) (by omega) (by omega)]
  cases eA : A e with
  | none => rw [eA] at a; rw [show rst o Op Arg e (g - f) f x = none from a]
  | some va =>
    rw [eA] at a
    obtain ⟨go, s, a1, a2, a3, a4⟩ := a
    rw [a1]
    refine ⟨go, upd64 s x.2.1 (1 - s x.2.1), ?_, by omega, ?_, ?_⟩
    · show rst o Op Arg e (g + 1 - g) g (go, x.2.1 + 1, s) = _
      rw [rst_1, r1_ok (ub_not ho (by show 1 ≤ x.2.1 + 1; omega))]
      unfold r1v
      rw [ho]
      show (if g < go then _ else _) = _
      rw [if_neg (by omega), if_neg (by decide), if_neg (by decide), if_pos rfl]
      rfl
    · intro j hj
      unfold upd64
      rw [if_neg (by omega)]
      exact a3 j hj
    · unfold upd64
      rw [if_pos rfl, a4]
      rcases hb e va eA with h | h
      · subst h; rfl
      · subst h; rfl
theorem SegR_and {o : Bool} {Op Arg : Nat → Int32} {f m g : Nat} {A B : Den} (hA : SegR o Op Arg f m A) (hB : SegR o Op Arg (m + 1) g B) (ho : Op m = 29) (hj : Arg m = nI g) (hg : g < 1000) : SegR o Op Arg f g (andD A B) := by
  have f1 := hA.1
  have f2 := hB.1
  refine ⟨by omega, fun e x q1 => ?_⟩
  have a := hA.2 e x q1
  unfold andD
  rw [rst_two (m := m) (by omega) (by omega)]
  cases eA : A e with
  | none => rw [eA] at a; rw [show rst o Op Arg e (m - f) f x = none from a]
  | some va =>
    rw [eA] at a
    obtain ⟨go, s, a1, a2, a3, a4⟩ := a
    rw [a1]
    show match (if va = 0 then some va else B e : Option Int64) with
      | none => rst o Op Arg e (g - m) m (go, x.2.1 + 1, s) = none
      | some v => ∃ go' s', rst o Op Arg e (g - m) m (go, x.2.1 + 1, s) = some (go', x.2.1 + 1, s') ∧ go' ≤ g ∧ (∀ j, j < x.2.1 → s' j = x.2.2 j) ∧ s' x.2.1 = v
    rw [rst_two (f := m) (m := m + 1) (by omega) (by omega), rst_1]
    have st : r1 o Op Arg e m (go, x.2.1 + 1, s) = if va = 0 then some (g, x.2.1 + 1, s) else some (go, x.2.1, s) := by
      rw [r1_ok (ub_jmp (Or.inl ho) (by show 1 ≤ x.2.1 + 1; omega) hj hg (by omega))]
      unfold r1v
      rw [ho, hj, n_cl (by omega)]
      show (if m < go then _ else _) = _
      rw [if_neg (by omega), if_neg (by decide), if_neg (by decide), if_neg (by decide), if_pos rfl]
      show (if s x.2.1 = 0 then _ else _) = _
      rw [a4]
      rfl
    rw [st]
    by_cases c : va = 0
    · rw [if_pos c, if_pos c]
      refine ⟨g, s, ?_, by omega, a3, a4⟩
      show rst o Op Arg e (g - (m + 1)) (m + 1) (g, x.2.1 + 1, s) = _
      exact rst_skip _ _ (fun j r1 r2 => by show j < g; omega)
    · rw [if_neg c, if_neg c]
      have b := hB.2 e (go, x.2.1, s) (by show go ≤ m + 1; omega)
      cases eB : B e with
      | none => rw [eB] at b; exact b
      | some vb =>
        rw [eB] at b
        obtain ⟨go2, s2, b1, b2, b3, b4⟩ := b
        refine ⟨go2, s2, b1, b2, ?_, b4⟩
        intro j hj
        rw [b3 j hj]
        exact a3 j hj
theorem SegR_or {o : Bool} {Op Arg : Nat → Int32} {f m g : Nat} {A B : Den} (hA : SegR o Op Arg f m A) (hb : isBD A) (hB : SegR o Op Arg (m + 1) g B) (ho : Op m = 30) (hj : Arg m = nI g) (hg : g < 1000) : SegR o Op Arg f g (orD A B) := by
  have f1 := hA.1
  have f2 := hB.1
  refine ⟨by omega, fun e x q1 => ?_⟩
  have a := hA.2 e x q1
  unfold orD
  rw [rst_two (m := m) (by omega) (by omega)]
  cases eA : A e with
  | none => rw [eA] at a; rw [show rst o Op Arg e (m - f) f x = none from a]
  | some va =>
    rw [eA] at a
    obtain ⟨go, s, a1, a2, a3, a4⟩ := a
    rw [a1]
    show match (if va = 0 then B e else some va : Option Int64) with
      | none => rst o Op Arg e (g - m) m (go, x.2.1 + 1, s) = none
      | some v => ∃ go' s', rst o Op Arg e (g - m) m (go, x.2.1 + 1, s) = some (go', x.2.1 + 1, s') ∧ go' ≤ g ∧ (∀ j, j < x.2.1 → s' j = x.2.2 j) ∧ s' x.2.1 = v
    rw [rst_two (f := m) (m := m + 1) (by omega) (by omega), rst_1]
    have st : r1 o Op Arg e m (go, x.2.1 + 1, s) = if va = 0 then some (go, x.2.1, s) else some (g, x.2.1 + 1, s) := by
      rw [r1_ok (ub_jmp (Or.inr ho) (by show 1 ≤ x.2.1 + 1; omega) hj hg (by omega))]
      unfold r1v
      rw [ho, hj, n_cl (by omega)]
      show (if m < go then _ else _) = _
      rw [if_neg (by omega), if_neg (by decide), if_neg (by decide), if_neg (by decide), if_neg (show ¬ (30 : Int32) = 29 by decide)]
      show (if s x.2.1 = 1 then _ else _) = _
      rw [a4]
      rcases hb e va eA with h | h
      · subst h; rfl
      · subst h; rfl
    rw [st]
    by_cases c : va = 0
    · rw [if_pos c, if_pos c]
      have b := hB.2 e (go, x.2.1, s) (by show go ≤ m + 1; omega)
      cases eB : B e with
      | none => rw [eB] at b; exact b
      | some vb =>
        rw [eB] at b
        obtain ⟨go2, s2, b1, b2, b3, b4⟩ := b
        refine ⟨go2, s2, b1, b2, ?_, b4⟩
        intro j hj
        rw [b3 j hj]
        exact a3 j hj
    · rw [if_neg c, if_neg c]
      refine ⟨g, s, ?_, by omega, a3, a4⟩
      show rst o Op Arg e (g - (m + 1)) (m + 1) (g, x.2.1 + 1, s) = _
      exact rst_skip _ _ (fun j r1 r2 => by show j < g; omega)
