/-! what a text says: a reading that both sides are held to. A result: the place of a fault, or the next token, how many parts there were, and what is told -/
abbrev Den : Type := (Nat → Int32) → Option Int64
abbrev PR : Type := Sum Nat (Nat × Nat × Den)
def numD (v : Nat) : Den := fun _ => some (nI v).toInt64
def wrdD (w : Nat) : Den := fun e => some (e w).toInt64
def oneD : Den := fun _ => some 1
def binD (op : Int32) (A B : Den) : Den := fun e => match A e with
  | none => none
  | some a => match B e with
    | none => none
    | some c => if joinB op a c = true then none else some (joinV op a c)
def notD (A : Den) : Den := fun e => match A e with
  | none => none
  | some a => some (if a = 0 then 1 else 0)
def andD (A B : Den) : Den := fun e => match A e with
  | none => none
  | some a => if a = 0 then some a else B e
def orD (A B : Den) : Den := fun e => match A e with
  | none => none
  | some a => if a = 0 then B e else some a
def kwNot : List Nat := [110, 111, 116]
def kwAnd : List Nat := [97, 110, 100]
def kwOr : List Nat := [111, 114]
def kwIf : List Nat := [105, 102]
def kwOn : List Nat := [111, 110]
def kwIn : List Nat := [105, 110]
def kwTimes : List Nat := [116, 105, 109, 101, 115]
def kwL : List (List Nat) := [[116, 101, 108, 108, 115], [119, 101, 105, 103, 104, 115], [98, 97, 114, 115]]
def kwO : List (List Nat) := [[104, 97, 110, 103], [116, 97, 107, 101], [116, 104, 105, 110, 107], [112, 97, 115, 115]]
def kwLW : List (List Nat) := [[104, 97, 116], [107, 105, 110, 100], [116, 97, 108, 108], [107, 110, 111, 119, 115], [111, 116, 104, 101, 114], [108, 105, 107, 101], [116, 104, 111, 117, 103, 104, 116], [104, 111, 117, 114], [114, 97, 105, 110]]
def kwOW : List (List Nat) := [[104, 111, 117, 114], [100, 111, 110, 101], [108, 97, 116, 101, 115, 116], [104, 117, 110, 103], [112, 101, 103], [107, 110, 111, 119, 115]]
def mulO (b : Nat → Nat) (L s : Nat) : Option Int32 := if sg b L s 42 then some 4 else if sg b L s 47 then some 5 else if sg b L s 37 then some 6 else none
def addO (b : Nat → Nat) (L s : Nat) : Option Int32 := if sg b L s 43 then some 2 else if sg b L s 45 then some 3 else none
def cmpO (b : Nat → Nat) (L s : Nat) : Option Int32 := if sg b L s 60 then some 7 else if sg b L s 62 then some 8 else if sg b L s 61 then some 9 else none
def leafP (b : Nat → Nat) (L : Nat) (o : Bool) (s n : Nat) : PR := match nmI b L s 0 1000 with
  | some v => if 50 ≤ n then .inl s else .inr (nx b L s, n + 1, numD v)
  | none => match wix (if o = true then kwOW else kwLW) (wrd b L s) with
    | none => .inl s
    | some w => if 50 ≤ n then .inl s else if o = true ∧ 4 ≤ w then (match nmI b L (nx b L s) 0 6 with
      | none => .inl (nx b L s)
      | some h => .inr (nx b L (nx b L s), n + 1, wrdD (h + if w = 5 then 11 else 4))) else .inr (nx b L s, n + 1, wrdD w)
/-- one, then as many as follow behind what joins them -/
def loopP (b : Nat → Nat) (L : Nat) (opO : Nat → Option (Den → Den → Den)) (part : Nat → Nat → PR) : Nat → Nat → Nat → Den → PR
  | 0, s, n, D => .inr (s, n, D)
  | i + 1, s, n, D => match opO s with
    | none => .inr (s, n, D)
    | some f => match part (nx b L s) n with
      | .inl q => .inl q
      | .inr (s1, n1, D1) => loopP b L opO part i s1 n1 (f D D1)
def chainP (b : Nat → Nat) (L : Nat) (opO : Nat → Option (Den → Den → Den)) (part : Nat → Nat → PR) (s n : Nat) : PR := match part s n with
  | .inl q => .inl q
  | .inr (s1, n1, D) => loopP b L opO part 400 s1 n1 D
def mulF (b : Nat → Nat) (L s : Nat) : Option (Den → Den → Den) := (mulO b L s).map binD
def addF (b : Nat → Nat) (L s : Nat) : Option (Den → Den → Den) := (addO b L s).map binD
def andF (b : Nat → Nat) (L s : Nat) : Option (Den → Den → Den) := if wrd b L s = kwAnd then some andD else none
def orF (b : Nat → Nat) (L s : Nat) : Option (Den → Den → Den) := if wrd b L s = kwOr then some orD else none
def pTerm (b : Nat → Nat) (L : Nat) (part : Nat → Nat → PR) : Nat → Nat → PR := chainP b L (mulF b L) part
def pSum (b : Nat → Nat) (L : Nat) (part : Nat → Nat → PR) : Nat → Nat → PR := chainP b L (addF b L) (pTerm b L part)
def pBoth (b : Nat → Nat) (L : Nat) (plain : Nat → Nat → PR) : Nat → Nat → PR := chainP b L (andF b L) plain
def pTest (b : Nat → Nat) (L : Nat) (plain : Nat → Nat → PR) : Nat → Nat → PR := chainP b L (orF b L) (pBoth b L plain)
/-- closed by a sign -/
def clos (b : Nat → Nat) (L c : Nat) (r : PR) : PR := match r with
  | .inl q => .inl q
  | .inr (s, n, D) => if sg b L s c then .inr (nx b L s, n, D) else .inl s
def pPart (b : Nat → Nat) (L : Nat) (o : Bool) : Nat → Nat → Nat → PR
  | 0, s, n => if sg b L s 91 then .inl s else leafP b L o s n
  | k + 1, s, n => if sg b L s 91 then clos b L 93 (pSum b L (pPart b L o k) (nx b L s) n) else leafP b L o s n
def nots (b : Nat → Nat) (L : Nat) : Nat → Nat → Bool → Nat × Bool
  | 0, s, t => (s, t)
  | i + 1, s, t => if wrd b L s = kwNot then nots b L i (nx b L s) (!t) else (s, t)
def turn (t : Bool) (r : PR) : PR := match r with
  | .inl q => .inl q
  | .inr (s, n, D) => .inr (s, n, if t = true then notD D else D)
def cmpP (b : Nat → Nat) (L : Nat) (sum : Nat → Nat → PR) (s n : Nat) : PR := match sum s n with
  | .inl q => .inl q
  | .inr (s1, n1, D1) => match cmpO b L s1 with
    | none => .inl s1
    | some op => match sum (nx b L s1) n1 with
      | .inl q => .inl q
      | .inr (s2, n2, D2) => .inr (s2, n2, binD op D1 D2)
def pPlain (b : Nat → Nat) (L : Nat) (o : Bool) : Nat → Nat → Nat → PR
  | 0, s, n => turn (nots b L 400 s false).2 (if sg b L (nots b L 400 s false).1 40 then .inl (nots b L 400 s false).1 else cmpP b L (pSum b L (pPart b L o 0)) (nots b L 400 s false).1 n)
  | k + 1, s, n => turn (nots b L 400 s false).2 (if sg b L (nots b L 400 s false).1 40 then clos b L 41 (pTest b L (pPlain b L o k) (nx b L (nots b L 400 s false).1) n) else cmpP b L (pSum b L (pPart b L o (k + 1))) (nots b L 400 s false).1 n)
def sumP (b : Nat → Nat) (L : Nat) (o : Bool) : Nat → Nat → PR := pSum b L (pPart b L o 8)
def testP (b : Nat → Nat) (L : Nat) (o : Bool) : Nat → Nat → PR := pTest b L (pPlain b L o 8)
def ifP (b : Nat → Nat) (L : Nat) (o : Bool) (s n : Nat) : PR := if wrd b L s = kwIf then testP b L o (nx b L s) n else .inr (s, n, oneD)
def ruleP (b : Nat → Nat) (L s n : Nat) : Sum Nat (Nat × Nat × Cls) := match wix kwL (wrd b L s) with
  | none => .inl s
  | some k => match (if k = 2 then .inr (nx b L s, n, oneD) else sumP b L false (nx b L s) n : PR) with
    | .inl q => .inl q
    | .inr (s1, n1, D1) => match ifP b L false s1 n1 with
      | .inl q => .inl q
      | .inr (s2, n2, D2) => .inr (s2, n2, (nI k, D1, D2))
/-- an order: its kind, how often, its sums, its test -/
abbrev Ocl : Type := Nat × Nat × Den × Den × Den
def behP (b : Nat → Nat) (L s n : Nat) (w : List Nat) : PR := if wrd b L s = w then sumP b L true (nx b L s) n else .inl s
def timP (b : Nat → Nat) (L s : Nat) : Sum Nat (Nat × Nat) := if wrd b L s = kwTimes then (match nmI b L (nx b L s) 1 20 with
  | none => .inl (nx b L s)
  | some t => .inr (nx b L (nx b L s), t)) else .inr (s, 1)
def orderP (b : Nat → Nat) (L s n : Nat) : Sum Nat (Nat × Nat × Ocl) := match wix kwO (wrd b L s) with
  | none => .inl s
  | some k => match (if k = 3 then .inr (nx b L s, n, oneD) else sumP b L true (nx b L s) n : PR) with
    | .inl q => .inl q
    | .inr (s1, n1, D1) => match (if k = 0 then behP b L s1 n1 kwOn else if k = 2 then behP b L s1 n1 kwIn else .inr (s1, n1, oneD) : PR) with
      | .inl q => .inl q
      | .inr (s2, n2, D2) => match timP b L s2 with
        | .inl q => .inl q
        | .inr (s3, t) => match ifP b L true s3 n2 with
          | .inl q => .inl q
          | .inr (s4, n4, D3) => .inr (s4, n4, (k, t, D1, D2, D3))
def textP {γ : Type} (b : Nat → Nat) (L : Nat) (cl : Nat → Nat → Sum Nat (Nat × Nat × γ)) : Nat → Nat → Nat → Nat → (Nat → γ) → Sum Nat (Nat × (Nat → γ))
  | 0, _, s, _, _ => .inl s
  | f + 1, i, s, n, cf => match cl s n with
    | .inl q => .inl q
    | .inr (s1, n1, c) => if L ≤ s1 then .inr (i + 1, fun j => if j = i then c else cf j) else if sg b L s1 59 then textP b L cl f (i + 1) (nx b L s1) n1 (fun j => if j = i then c else cf j) else .inl s1
def lawP (b : Nat → Nat) (L : Nat) : Sum Nat (Nat × (Nat → Cls)) := textP b L (ruleP b L) 12 0 (scn b L isB 0) 0 (fun _ => (0, oneD, oneD))
def ordP (b : Nat → Nat) (L : Nat) : Sum Nat (Nat × (Nat → Ocl)) := textP b L (orderP b L) 12 0 (scn b L isB 0) 0 (fun _ => (0, 0, oneD, oneD, oneD))
/-! stretches of the class's code: what they leave on its stack -/
abbrev cse : Type := Int32 × Nat × Int64 × (Nat → Int64)
def c1 (C : Nat → Int32) (E : Int32 → Int32) (i : Nat) (x : cse) : Option cse :=
  if nI i < x.1 then some x
  else if C i &&& 15 = 0 then some (x.1, min (x.2.1 + 1) 50, (C i >>> (4 &&& 31)).toInt64, upd64 x.2.2.2 x.2.1 x.2.2.1)
  else if C i &&& 15 = 1 then some (x.1, min (x.2.1 + 1) 50, (E (C i >>> (4 &&& 31))).toInt64, upd64 x.2.2.2 x.2.1 x.2.2.1)
  else if C i &&& 15 = 10 then some (x.1, x.2.1, if x.2.2.1 = 0 then 1 else 0, x.2.2.2)
  else if C i &&& 15 = 11 then (if x.2.2.1 = 0 then some (C i >>> (4 &&& 31), x.2.1, x.2.2.1, x.2.2.2) else some (x.1, x.2.1 - 1, x.2.2.2 (x.2.1 - 1), x.2.2.2))
  else if C i &&& 15 = 12 then (if x.2.2.1 = 0 then some (x.1, x.2.1 - 1, x.2.2.2 (x.2.1 - 1), x.2.2.2) else some (C i >>> (4 &&& 31), x.2.1, x.2.2.1, x.2.2.2))
  else if joinB (C i &&& 15) (x.2.2.2 (x.2.1 - 1)) x.2.2.1 = true then none
  else some (x.1, x.2.1 - 1, joinV (C i &&& 15) (x.2.2.2 (x.2.1 - 1)) x.2.2.1, x.2.2.2)
def cst (C : Nat → Int32) (E : Int32 → Int32) : Nat → Nat → cse → Option cse
  | 0, _, x => some x
  | k + 1, i, x => match c1 C E i x with
    | none => none
    | some y => cst C E k (i + 1) y
theorem crun_cst (C : Nat → Int32) (E : Int32 → Int32) : ∀ (k i : Nat) (go : Int32) (top : Nat) (v : Int64) (s : Nat → Int64), crun C E k i go top v s = (cst C E k i (go, top, v, s)).map (fun x => x.2.2.1) := by
  intro k
  induction k with
  | zero => intro i go top v s; rfl
  | succ k ih =>
    intro i go top v s
    unfold crun cst c1
    by_cases h0 : nI i < go
    · simp only [if_pos h0, ih]
    · by_cases h1 : C i &&& 15 = 0
      · simp only [if_neg h0, if_pos h1, ih]
      · by_cases h2 : C i &&& 15 = 1
        · simp only [if_neg h0, if_neg h1, if_pos h2, ih]
        · by_cases h3 : C i &&& 15 = 10
          · simp only [if_neg h0, if_neg h1, if_neg h2, if_pos h3, ih]
          · by_cases h4 : C i &&& 15 = 11
            · simp only [if_neg h0, if_neg h1, if_neg h2, if_neg h3, if_pos h4]
              by_cases hv : v = 0
              · simp only [if_pos hv, ih]
              · simp only [if_neg hv, ih]
            · by_cases h5 : C i &&& 15 = 12
              · simp only [if_neg h0, if_neg h1, if_neg h2, if_neg h3, if_neg h4, if_pos h5]
                by_cases hv : v = 0
                · simp only [if_pos hv, ih]
                · simp only [if_neg hv, ih]
              · simp only [if_neg h0, if_neg h1, if_neg h2, if_neg h3, if_neg h4, if_neg h5]
                by_cases hj : joinB (C i &&& 15) (s (top - 1)) v = true
                · simp only [if_pos hj]; rfl
                · simp only [if_neg hj, ih]
theorem cst_s (C : Nat → Int32) (E : Int32 → Int32) (k i : Nat) (x : cse) : cst C E (k + 1) i x = match c1 C E i x with
    | none => none
    | some y => cst C E k (i + 1) y := rfl
theorem cst_app (C : Nat → Int32) (E : Int32 → Int32) : ∀ (k j i : Nat) (x : cse), cst C E (k + j) i x = match cst C E k i x with
    | none => none
    | some y => cst C E j (i + k) y := by
  intro k
  induction k with
  | zero => intro j i x; simp [cst]
  | succ k ih =>
    intro j i x
    rw [show k + 1 + j = (k + j) + 1 by omega, cst_s, cst_s]
    cases c1 C E i x with
    | none => rfl
    | some y =>
      show cst C E (k + j) (i + 1) y = match cst C E k (i + 1) y with
        | none => none
        | some z => cst C E j (i + (k + 1)) z
      rw [ih j (i + 1) y, show i + 1 + k = i + (k + 1) by omega]
theorem cst_cong {C C' : Nat → Int32} {E : Int32 → Int32} : ∀ (k i : Nat) (x : cse), (∀ j, i ≤ j → j < i + k → C j = C' j) → cst C E k i x = cst C' E k i x := by
  intro k
  induction k with
  | zero => intro i x _; rfl
  | succ k ih =>
    intro i x h
    rw [cst_s, cst_s]
    have e : c1 C E i x = c1 C' E i x := by unfold c1; rw [h i (Nat.le_refl i) (by omega)]
    rw [e]
    cases c1 C' E i x with
    | none => rfl
    | some y => exact ih (i + 1) y (fun j q1 q2 => h j (by omega) (by omega))
/-- skipped -/
theorem cst_skip {C : Nat → Int32} {E : Int32 → Int32} {x : cse} : ∀ (k i : Nat), (∀ j, i ≤ j → j < i + k → nI j < x.1) → cst C E k i x = some x := by
  intro k
  induction k with
  | zero => intro i _; rfl
  | succ k ih =>
    intro i h
    rw [cst_s]
    have e : c1 C E i x = some x := by unfold c1; rw [if_pos (h i (Nat.le_refl i) (by omega))]
    rw [e]
    exact ih (i + 1) (fun j q1 q2 => h j (by omega) (by omega))
/-- the stretch from f on, to g, w parts at most, is D: of words below N -/
def SegC (N : Nat) (C : Nat → Int32) (f g w : Nat) (D : Den) : Prop := f < g ∧ ∀ (E : Int32 → Int32) (x : cse), ¬ nI f < x.1 → x.2.1 + w ≤ 50 → match D (msk N E) with
  | none => cst C E (g - f) f x = none
  | some v => ∃ go s, cst C E (g - f) f x = some (go, x.2.1 + 1, v, s) ∧ ¬ nI g < go ∧ (∀ j, j < x.2.1 → s j = x.2.2.2 j) ∧ s x.2.1 = x.2.2.1
theorem SegC_cong {N : Nat} {C C' : Nat → Int32} {f g w : Nat} {D : Den} (h : SegC N C f g w D) (hc : ∀ j, f ≤ j → j < g → C j = C' j) : SegC N C' f g w D := by
  refine ⟨h.1, fun E x q1 q2 => ?_⟩
  have := h.2 E x q1 q2
  rw [cst_cong (C := C) (C' := C') (E := E) (g - f) f x (fun j r1 r2 => hc j r1 (by omega))] at this
  exact this
theorem SegC_w {N : Nat} {C : Nat → Int32} {f g w w' : Nat} {D : Den} (h : SegC N C f g w D) (hw : w ≤ w') : SegC N C f g w' D := ⟨h.1, fun E x q1 q2 => h.2 E x q1 (by omega)⟩
