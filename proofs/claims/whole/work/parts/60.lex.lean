/-! conditions rewritten under an "if" -/
theorem bzi {p : Prop} [Decidable p] {α : Sort _} {x y : α} : (if bz p = 0 then x else y) = (if ¬ p then x else y) := by
  by_cases h : p
  · rw [bz_t h, if_neg (by decide), if_neg (fun z => z h)]
  · rw [bz_f h, if_pos rfl, if_pos h]
theorem bzj {p : Prop} [Decidable p] {α : Sort _} {x y : α} : (if ¬ bz p = 0 then x else y) = (if ¬ ¬ p then x else y) := by
  by_cases h : p
  · rw [bz_t h, if_pos (by decide), if_pos (fun z => z h)]
  · rw [bz_f h, if_neg (fun z => z rfl), if_neg (fun z => z h)]
theorem nei {a b : Nat} {α : Sort _} {x y : α} (ha : a < 2147483648) (hb : b < 2147483648) : (if nI a = nI b then x else y) = (if a = b then x else y) := by
  by_cases h : a = b
  · rw [if_pos h, if_pos (by rw [h])]
  · rw [if_neg h, if_neg (by rw [n_eq ha hb]; exact h)]
theorem nej {a b : Nat} {α : Sort _} {x y : α} (ha : a < 2147483648) (hb : b < 2147483648) : (if ¬ nI a = nI b then x else y) = (if ¬ a = b then x else y) := by
  by_cases h : a = b
  · subst h; rw [if_neg (fun z => z rfl), if_neg (fun z => z rfl)]
  · rw [if_pos h, if_pos (by rw [n_eq ha hb]; exact h)]
theorem lti {a b : Nat} {α : Sort _} {x y : α} (ha : a < 2147483648) (hb : b < 2147483648) : (if nI a < nI b then x else y) = (if a < b then x else y) := by
  by_cases h : a < b
  · rw [if_pos h, if_pos (by rw [n_lt ha hb]; exact h)]
  · rw [if_neg h, if_neg (by rw [n_lt ha hb]; exact h)]
theorem lei {a b : Nat} {α : Sort _} {x y : α} (ha : a < 2147483648) (hb : b < 2147483648) : (if nI a ≤ nI b then x else y) = (if a ≤ b then x else y) := by
  by_cases h : a ≤ b
  · rw [if_pos h, if_pos (by rw [n_le ha hb]; exact h)]
  · rw [if_neg h, if_neg (by rw [n_le ha hb]; exact h)]
/-! the tape's letters, digits, signs: tokens -/
def sp (b : Nat → Nat) (L : Nat) (f : Nat → Bool) : Nat → Nat → Nat
  | 0, p => p
  | k + 1, p => if p < L ∧ f (b p) = true then sp b L f k (p + 1) else p
def scn (b : Nat → Nat) (L : Nat) (f : Nat → Bool) (p : Nat) : Nat := sp b L f (L - p) p
theorem scn_y {b : Nat → Nat} {L : Nat} {f : Nat → Bool} {p : Nat} (h : p < L) (h2 : f (b p) = true) : scn b L f p = scn b L f (p + 1) := by
  unfold scn
  rw [show L - p = (L - (p + 1)) + 1 by omega]
  show (if p < L ∧ f (b p) = true then sp b L f (L - (p + 1)) (p + 1) else p) = _
  rw [if_pos ⟨h, h2⟩]
theorem scn_n {b : Nat → Nat} {L : Nat} {f : Nat → Bool} {p : Nat} (h : p < L → f (b p) = false) : scn b L f p = p := by
  unfold scn
  cases e : L - p with
  | zero => rfl
  | succ k =>
    show (if p < L ∧ f (b p) = true then sp b L f k (p + 1) else p) = _
    rw [if_neg (fun q => by rw [h q.1] at q; exact absurd q.2 (by decide))]
theorem scn_ind {b : Nat → Nat} {L : Nat} {f : Nat → Bool} (P : Nat → Prop) (h1 : ∀ p, p < L → f (b p) = true → P (p + 1) → P p) (h2 : ∀ p, (p < L → f (b p) = false) → P p) : ∀ p, P p := by
  intro p
  have key : ∀ k p, L - p ≤ k → P p := by
    intro k
    induction k with
    | zero => intro p e; exact h2 p (fun q => absurd q (by omega))
    | succ k ih =>
      intro p e
      by_cases c : p < L ∧ f (b p) = true
      · exact h1 p c.1 c.2 (ih (p + 1) (by omega))
      · refine h2 p (fun q => ?_)
        cases e2 : f (b p) with
        | false => rfl
        | true => exact absurd ⟨q, e2⟩ c
  exact key (L - p) p (Nat.le_refl _)
theorem scn_ge (b : Nat → Nat) (L : Nat) (f : Nat → Bool) (p : Nat) : p ≤ scn b L f p := by
  refine scn_ind (b := b) (L := L) (f := f) (fun p => p ≤ scn b L f p) ?_ ?_ p
  · intro p h h2 ih; rw [scn_y h h2]; omega
  · intro p h; rw [scn_n h]; omega
theorem scn_le {b : Nat → Nat} {L : Nat} {f : Nat → Bool} (p : Nat) : p ≤ L → scn b L f p ≤ L := by
  refine scn_ind (b := b) (L := L) (f := f) (fun p => p ≤ L → scn b L f p ≤ L) ?_ ?_ p
  · intro p h h2 ih _; rw [scn_y h h2]; exact ih (by omega)
  · intro p h q; rw [scn_n h]; exact q
theorem scn_in {b : Nat → Nat} {L : Nat} {f : Nat → Bool} (p : Nat) : ∀ q, p ≤ q → q < scn b L f p → f (b q) = true ∧ q < L := by
  refine scn_ind (b := b) (L := L) (f := f) (fun p => ∀ q, p ≤ q → q < scn b L f p → f (b q) = true ∧ q < L) ?_ ?_ p
  · intro p h h2 ih q q1 q2
    rw [scn_y h h2] at q2
    by_cases e : q = p
    · subst e; exact ⟨h2, h⟩
    · exact ih q (by omega) q2
  · intro p h q q1 q2; rw [scn_n h] at q2; omega
theorem scn_end {b : Nat → Nat} {L : Nat} {f : Nat → Bool} (p : Nat) : scn b L f p < L → f (b (scn b L f p)) = false := by
  refine scn_ind (b := b) (L := L) (f := f) (fun p => scn b L f p < L → f (b (scn b L f p)) = false) ?_ ?_ p
  · intro p h h2 ih q; rw [scn_y h h2] at q ⊢; exact ih q
  · intro p h q; rw [scn_n h] at q ⊢; exact h q
def isL (c : Nat) : Bool := decide (97 ≤ c ∧ c ≤ 122)
def isD (c : Nat) : Bool := decide (48 ≤ c ∧ c ≤ 57)
def isB (c : Nat) : Bool := decide (c = 32)
theorem isL_D {c : Nat} (h : isL c = true) : isD c = false := by
  unfold isL at h
  unfold isD
  have := of_decide_eq_true h
  exact decide_eq_false (by omega)
/-- a token's end, by its start; the next token's start -/
def tkE (b : Nat → Nat) (L s : Nat) : Nat := if L ≤ s then s else if isL (b s) = true then scn b L isL s else if isD (b s) = true then scn b L isD s else s + 1
def nx (b : Nat → Nat) (L s : Nat) : Nat := scn b L isB (tkE b L s)
theorem tkE_gt {b : Nat → Nat} {L s : Nat} (h : s < L) : s < tkE b L s := by
  unfold tkE
  rw [if_neg (by omega)]
  split
  · rename_i c
    rw [scn_y h c]
    have := scn_ge b L isL (s + 1)
    omega
  · split
    · rename_i c
      rw [scn_y h c]
      have := scn_ge b L isD (s + 1)
      omega
    · omega
theorem tkE_le {b : Nat → Nat} {L s : Nat} (h : s ≤ L) : tkE b L s ≤ L := by
  unfold tkE
  split
  · exact h
  · split
    · exact scn_le s h
    · split
      · exact scn_le s h
      · omega
theorem tkE_ge (b : Nat → Nat) (L s : Nat) : s ≤ tkE b L s := by
  by_cases h : s < L
  · exact Nat.le_of_lt (tkE_gt h)
  · unfold tkE
    rw [if_pos (by omega)]
    exact Nat.le_refl s
theorem tkE_L {b : Nat → Nat} {L s : Nat} (h : L ≤ s) : tkE b L s = s := by
  unfold tkE
  rw [if_pos h]
theorem nx_gt {b : Nat → Nat} {L s : Nat} (h : s < L) : s < nx b L s := Nat.lt_of_lt_of_le (tkE_gt h) (scn_ge _ _ _ _)
theorem nx_le {b : Nat → Nat} {L s : Nat} (h : s ≤ L) : nx b L s ≤ L := scn_le _ (tkE_le h)
theorem nx_ge (b : Nat → Nat) (L s : Nat) : tkE b L s ≤ nx b L s := scn_ge _ _ _ _
/-- the signs of a token -/
def ran (b : Nat → Nat) : Nat → Nat → List Nat
  | _, 0 => []
  | s, k + 1 => b s :: ran b (s + 1) k
theorem ran_len (b : Nat → Nat) : ∀ (k s : Nat), (ran b s k).length = k
  | 0, _ => rfl
  | k + 1, s => by rw [ran, List.length_cons, ran_len b k (s + 1)]
theorem ran_get (b : Nat → Nat) : ∀ (k s i : Nat), i < k → (ran b s k).getD i 0 = b (s + i)
  | 0, _, _, h => absurd h (by omega)
  | k + 1, s, 0, _ => rfl
  | k + 1, s, i + 1, h => by
    show (ran b (s + 1) k).getD i 0 = _
    rw [ran_get b k (s + 1) i (by omega), show s + 1 + i = s + (i + 1) by omega]
theorem ran_app (b : Nat → Nat) : ∀ (k s : Nat), ran b s (k + 1) = ran b s k ++ [b (s + k)]
  | 0, _ => rfl
  | k + 1, s => by
    show b s :: ran b (s + 1) (k + 1) = b s :: (ran b (s + 1) k ++ [b (s + (k + 1))])
    rw [ran_app b k (s + 1), show s + 1 + k = s + (k + 1) by omega]
theorem ran_mem (b : Nat → Nat) : ∀ (k s x : Nat), x ∈ ran b s k → ∃ i, i < k ∧ x = b (s + i)
  | 0, _, _, h => by cases h
  | k + 1, s, x, h => by
    rcases List.mem_cons.mp h with e | e
    · exact ⟨0, by omega, e⟩
    · obtain ⟨i, h1, h2⟩ := ran_mem b k (s + 1) x e
      exact ⟨i + 1, by omega, by rw [h2, show s + 1 + i = s + (i + 1) by omega]⟩
def wrd (b : Nat → Nat) (L s : Nat) : List Nat := ran b s (tkE b L s - s)
/-- a sign alone -/
abbrev sg (b : Nat → Nat) (L s c : Nat) : Prop := s < L ∧ b s = c

/-- a number's worth, cut at 1001 -/
def nvF : List Nat → Nat → Nat
  | [], a => a
  | c :: t, a => nvF t (min (a * 10 + c - 48) 1001)
def nv (b : Nat → Nat) (L s : Nat) : Nat := nvF (wrd b L s) 0
def nmI (b : Nat → Nat) (L s lo hi : Nat) : Option Nat := if s < L ∧ isD (b s) = true ∧ lo ≤ nv b L s ∧ nv b L s ≤ hi then some (nv b L s) else none
/-- which of some words -/
def wix : List (List Nat) → List Nat → Option Nat
  | [], _ => none
  | w :: t, x => if x = w then some 0 else (wix t x).map (fun i => i + 1)
