variable {d : Nat} {M : hp} {Q : Option Value → hp → Prop}
/-! what a stretch of a law's code comes to, in the reference -/
theorem jB {v : Nat} {a b : Int64} (hv : 20 ≤ v ∧ v < 28) : joinB (nI (v - 18)) a b = true ↔ ((v = 23 ∨ v = 24) ∧ b = 0) ∨ ¬ (-1000000000 ≤ joinV (nI (v - 18)) a b ∧ joinV (nI (v - 18)) a b ≤ 1000000000) := by
  have e : v = 20 ∨ v = 21 ∨ v = 22 ∨ v = 23 ∨ v = 24 ∨ v = 25 ∨ v = 26 ∨ v = 27 := by omega
  have hC : (nI (v - 18) = 7 ∨ nI (v - 18) = 8 ∨ nI (v - 18) = 9) ↔ 25 ≤ v := by
    rcases e with rfl | rfl | rfl | rfl | rfl | rfl | rfl | rfl <;> decide
  have h2 : (nI (v - 18) = 2 ∨ nI (v - 18) = 3 ∨ nI (v - 18) = 4) ↔ v ≤ 22 := by
    rcases e with rfl | rfl | rfl | rfl | rfl | rfl | rfl | rfl <;> decide
  have hV : 25 ≤ v → joinV (nI (v - 18)) a b = 0 ∨ joinV (nI (v - 18)) a b = 1 := by
    intro h
    have e : v = 25 ∨ v = 26 ∨ v = 27 := by omega
    rcases e with rfl | rfl | rfl
    · unfold joinV
      rw [if_pos (show nI (25 - 18) = 7 by decide)]
      by_cases c : a < b
      · rw [if_pos c]; exact Or.inr rfl
      · rw [if_neg c]; exact Or.inl rfl
    · unfold joinV
      rw [if_neg (show ¬ nI (26 - 18) = 7 by decide), if_pos (show nI (26 - 18) = 8 by decide)]
      by_cases c : b < a
      · rw [if_pos c]; exact Or.inr rfl
      · rw [if_neg c]; exact Or.inl rfl
    · unfold joinV
      rw [if_neg (show ¬ nI (27 - 18) = 7 by decide), if_neg (show ¬ nI (27 - 18) = 8 by decide), if_pos (show nI (27 - 18) = 9 by decide)]
      by_cases c : a = b
      · rw [if_pos c]; exact Or.inr rfl
      · rw [if_neg c]; exact Or.inl rfl
  unfold joinB joinC
  rw [decide_eq_true_iff, hC, h2]
  generalize joinV (nI (v - 18)) a b = V at *
  have l1 : ¬ (-1000000000 ≤ V) ↔ V < -1000000000 := by rw [fa_le64, fa_lt64]; omega
  have l2 : ¬ (V ≤ 1000000000) ↔ 1000000000 < V := by rw [fa_le64, fa_lt64]; omega
  constructor
  · rintro ⟨h1, h | h | h⟩
    · have := h.1
      exact Or.inl ⟨by omega, h.2⟩
    · exact Or.inr (fun z => l2.mpr h z.2)
    · exact Or.inr (fun z => l1.mpr h z.1)
  · rintro (h | h)
    · have := h.1
      exact ⟨by omega, Or.inl ⟨by omega, h.2⟩⟩
    · have n25 : ¬ 25 ≤ v := by
        intro z
        rcases hV z with q | q
        · exact h (by rw [q]; decide)
        · exact h (by rw [q]; decide)
      refine ⟨n25, Or.inr ?_⟩
      by_cases p2 : V ≤ 1000000000
      · exact Or.inr (l1.mp (fun p1 => h ⟨p1, p2⟩))
      · exact Or.inl (l2.mp p2)
def EA (M0 M' : hp) : Prop := agr [126, 146] M0 M' ∧ (∀ k, ¬ k = 38 → hI M' 126 k = hI M0 126 k) ∧ (∀ k, ¬ k = 39 → hL M' 126 k = hL M0 126 k)
theorem EA_refl (M : hp) : EA M M := ⟨agr_refl _ _, fun _ _ => rfl, fun _ _ => rfl⟩
theorem EA_trans {M M1 M2 : hp} (h : EA M M1) (h2 : EA M1 M2) : EA M M2 := ⟨agr_trans h.1 h2.1, fun k q => (h2.2.1 k q).trans (h.2.1 k q), fun k q => (h2.2.2 k q).trans (h.2.2 k q)⟩
theorem EA_L {M : hp} {k : Nat} {v : Int64} : EA M (sL M 146 k v) := ⟨agr_sL (by decide), fun _ _ => rfl, fun _ _ => hL_sL_a (by decide)⟩
theorem EA_38 {M : hp} {v : Int32} : EA M (sI M 126 38 v) := ⟨agr_sI (by decide), fun _ q => hI_sI_k q, fun _ _ => rfl⟩
theorem EA_39 {M : hp} {v : Int64} : EA M (sL M 126 39 v) := ⟨agr_sL (by decide), fun _ _ => rfl, fun _ q => hL_sL_k q⟩
/-- what is left behind a stretch -/
def RR (M0 : hp) (Q : Option Value → hp → Prop) (r : Option rse) : Prop := match r with
  | none => ∀ M', EA M0 M' → hI M' 126 38 = 1 → Q none M'
  | some y => 1 ≤ y.2.1 ∧ ∀ M', EA M0 M' → hI M' 126 38 = 0 → hL M' 126 39 = y.2.2 0 → Q none M'
theorem reck_354 {x1 x2 x3 x4 : Int32} (F : MF M) (H : ∀ v, Q none (sL M 126 39 v)) : Wp none d 217 354 [(0, .ref 126), (1, .int x1), (2, .int x2), (3, .int x3), (4, .int x4)] [] M Q := by
  rw [k217_354, k217_356]
  by_cases c : x3 ≤ 0
  · rw [if_pos c, k217_368, m217_369 F]
    exact H _
  · rw [if_neg c, m217_359 F (by decide), m217_369 F]
    exact H _
theorem reck_bad {M0 : hp} {x1 x2 x3 x4 : Int32} (F : MF M) (e : EA M0 M) (h : hI M 126 38 = 1) (H : RR M0 Q none) : Wp none d 217 10 [(0, .ref 126), (1, .int x1), (2, .int x2), (3, .int x3), (4, .int x4)] [] M Q := by
  have z : Wp none d 217 354 [(0, .ref 126), (1, .int x1), (2, .int x2), (3, .int x3), (4, .int x4)] [] M Q := reck_354 F (fun v => H _ (EA_trans e EA_39) h)
  rw [k217_10, k217_13]
  by_cases c : x2 ≤ x4
  · rw [if_pos c]; exact z
  · rw [if_neg c, m217_16 F, h, k217_20, if_pos (by decide)]; exact z
theorem reck_end {M0 : hp} {x1 x2 x4 : Int32} {n : Nat} {go : Nat} (F : MF M) (e : EA M0 M) (h : hI M 126 38 = 0) (hn : n < 2147483648) (hx : x2 ≤ x4) (H : RR M0 Q (some (go, n, hL M 146))) : Wp none d 217 10 [(0, .ref 126), (1, .int x1), (2, .int x2), (3, .int (nI n)), (4, .int x4)] [] M Q := by
  have h1 : 1 ≤ n := H.1
  rw [k217_10, k217_13, if_pos hx, k217_354, k217_356, if_neg (by show ¬ nI n ≤ nI 0; rw [n_le hn (by omega)]; omega), m217_359 F (by decide), m217_369 F]
  exact H.2 _ (EA_trans e EA_39) h (hL_sL_s _ _ _ _)
