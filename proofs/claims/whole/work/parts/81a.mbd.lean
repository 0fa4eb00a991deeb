variable {d : Nat} {M : hp} {Q : Option Value → hp → Prop}
/-! what is told by a test is true or false -/
theorem loop_BD {b : Nat → Nat} {L : Nat} {opO : Nat → Option (Den → Den → Den)} {part : Nat → Nat → PR} (h1 : ∀ s f A B, opO s = some f → isBD A → isBD B → isBD (f A B)) (h2 : ∀ s n s1 n1 D, part s n = .inr (s1, n1, D) → isBD D) : ∀ (i s n : Nat) (D : Den), isBD D → ∀ s1 n1 D1, loopP b L opO part i s n D = .inr (s1, n1, D1) → isBD D1 := by
  intro i
  induction i with
  | zero =>
    intro s n D hD s1 n1 D1 h
    unfold loopP at h
    cases h
    exact hD
  | succ i ih =>
    intro s n D hD s1 n1 D1 h
    unfold loopP at h
    cases ho : opO s with
    | none => rw [ho] at h; cases h; exact hD
    | some f =>
      rw [ho] at h
      cases hp : part (nx b L s) n with
      | inl q => simp only [hp] at h; cases h
      | inr x =>
        obtain ⟨s2, n2, D2⟩ := x
        simp only [hp] at h
        exact ih s2 n2 (f D D2) (h1 s f D D2 ho hD (h2 _ _ _ _ _ hp)) s1 n1 D1 h
