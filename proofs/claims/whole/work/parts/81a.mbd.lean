variable {d : Nat} {M : hp} {Q : Option Value → hp → Prop}
/-! what is told by a test is true or false -/
theorem loop_BD {b : Nat → Nat} {L : Nat} {opO : Nat → Option (Den → Den → Den)} {part : Nat → Nat → PR} (h1 : ∀ s f A B, opO s = some f → isBD A → isBD B → isBD (f A B)) (h2 : ∀ s n s1 n1 D, part s n = .inr (s1, n1, D) → isBD D) : ∀ (i s n : Nat) (D : Den), isBD D → ∀ s1 n1 D1, loopP b L opO part i s n D = .inr (s1, n1, D1) → isBD D1 := by
  intro i
  induction i with
  | zero =>
    intro s n D hD s1 n1 D1 h
    unfold loopP at h
    cases h
    exact hD
  | succ i ih =>
    intro s n D hD s1 n1 D1 h
    unfold loopP at h
    cases ho : opO s with
    | none => rw [ho] at h; cases h; exact hD
    | some f =>
      rw [ho] at h
      cases hp : part (nx b L s) n with
      | inl q => simp only [hp] at h; cases h
      | inr x =>
        obtain ⟨s2, n2, D2⟩ := x
        simp only [hp] at h
        exact ih s2 n2 (f D D2) (h1 s f D D2 ho hD (h2 _ _ _ _ _ hp)) s1 n1 D1 h
theorem chain_BD {b : Nat → Nat} {L : Nat} {opO : Nat → Option (Den → Den → Den)} {part : Nat → Nat → PR} (h1 : ∀ s f A B, opO s = some f → isBD A → isBD B → isBD (f A B)) (h2 : ∀ s n s1 n1 D, part s n = .inr (s1, n1, D) → isBD D) : ∀ s n s1 n1 D, chainP b L opO part s n = .inr (s1, n1, D) → isBD D := by
  intro s n s1 n1 D h
  unfold chainP at h
  cases hp : part s n with
  | inl q => rw [hp] at h; cases h
  | inr x =>
    obtain ⟨s2, n2, D2⟩ := x
    rw [hp] at h
    exact loop_BD h1 h2 400 s2 n2 D2 (h2 _ _ _ _ _ hp) s1 n1 D h
theorem test_BD {b : Nat → Nat} {L : Nat} {plain : Nat → Nat → PR} (h : ∀ s n s1 n1 D, plain s n = .inr (s1, n1, D) → isBD D) : ∀ s n s1 n1 D, pTest b L plain s n = .inr (s1, n1, D) → isBD D := by
  refine chain_BD ?_ (chain_BD ?_ h)
  · intro s f A B hf hA hB
    unfold orF at hf
    split at hf
    · cases hf; exact isBD_or hA hB
    · cases hf
  · intro s f A B hf hA hB
    unfold andF at hf
    split at hf
    · cases hf; exact isBD_and hA hB
    · cases hf
def coreP (b : Nat → Nat) (L : Nat) (o : Bool) (g s n : Nat) : PR := if sg b L s 40 then (match g with
    | 0 => .inl s
    | g + 1 => clos b L 41 (pTest b L (pPlain b L o g) (nx b L s) n)) else cmpP b L (pSum b L (pPart b L o g)) s n
theorem plain_core (b : Nat → Nat) (L : Nat) (o : Bool) (g s n : Nat) : pPlain b L o g s n = turn (nots b L 400 s false).2 (coreP b L o g (nots b L 400 s false).1 n) := by
  cases g <;> rfl
theorem cmp_v {b : Nat → Nat} {L s : Nat} {op : Int32} (h : cmpO b L s = some op) : (op = 7 ∨ op = 8 ∨ op = 9) ∧ s < L := by
  unfold cmpO at h
  split at h
  · rename_i z; cases h; exact ⟨Or.inl rfl, z.1⟩
  · split at h
    · rename_i z; cases h; exact ⟨Or.inr (Or.inl rfl), z.1⟩
    · split at h
      · rename_i z; cases h; exact ⟨Or.inr (Or.inr rfl), z.1⟩
      · cases h
theorem turn_BD {t : Bool} {r : PR} (h : ∀ s1 n1 D, r = .inr (s1, n1, D) → isBD D) : ∀ s1 n1 D, turn t r = .inr (s1, n1, D) → isBD D := by
  intro s1 n1 D e
  cases r with
  | inl q => cases e
  | inr x =>
    obtain ⟨s2, n2, D2⟩ := x
    have e : (.inr (s2, n2, if t = true then notD D2 else D2) : PR) = .inr (s1, n1, D) := e
    cases e
    split
    · exact isBD_not _
    · exact h _ _ _ rfl
theorem core_BD {b : Nat → Nat} {L : Nat} {o : Bool} : ∀ (g s n s1 n1 : Nat) (D : Den), coreP b L o g s n = .inr (s1, n1, D) → isBD D := by
  intro g
  induction g with
  | zero =>
    intro s n s1 n1 D h
    unfold coreP at h
    split at h
    · cases h
    · unfold cmpP at h
      split at h
      · cases h
      · split at h
        · cases h
        · rename_i op ho
          split at h
          · cases h
          · cases h
            exact isBD_cmp (cmp_v ho).1
  | succ g ih =>
    intro s n s1 n1 D h
    unfold coreP at h
    split at h
    · have hp : ∀ s n s1 n1 D, pPlain b L o g s n = .inr (s1, n1, D) → isBD D := by
        intro s n s1 n1 D e
        rw [plain_core] at e
        exact turn_BD (fun s1 n1 D e => ih _ _ s1 n1 D e) s1 n1 D e
      have h : clos b L 41 (pTest b L (pPlain b L o g) (nx b L s) n) = .inr (s1, n1, D) := h
      cases ht : pTest b L (pPlain b L o g) (nx b L s) n with
      | inl q => rw [ht] at h; cases h
      | inr x =>
        obtain ⟨s2, n2, D2⟩ := x
        rw [ht] at h
        have h : (if sg b L s2 41 then .inr (nx b L s2, n2, D2) else .inl s2 : PR) = .inr (s1, n1, D) := h
        split at h
        · cases h
          exact test_BD hp _ _ _ _ _ ht
        · cases h
    · unfold cmpP at h
      split at h
      · cases h
      · split at h
        · cases h
        · rename_i op ho
          split at h
          · cases h
          · cases h
            exact isBD_cmp (cmp_v ho).1
theorem notD_notD {D : Den} (h : isBD D) : notD (notD D) = D := by
  funext e
  unfold notD
  cases he : D e with
  | none => rfl
  | some v =>
    rcases h e v he with q | q
    · subst q; rfl
    · subst q; rfl
theorem nots_flip (b : Nat → Nat) (L : Nat) : ∀ (f s : Nat) (t : Bool), nots b L f s (!t) = ((nots b L f s t).1, !(nots b L f s t).2)
  | 0, _, _ => rfl
  | f + 1, s, t => by
    unfold nots
    by_cases z : wrd b L s = kwNot
    · rw [if_pos z, if_pos z]
      exact nots_flip b L f (nx b L s) (!t)
    · rw [if_neg z, if_neg z]
/-! no comparison waits -/
theorem cmF_no {p : Nat} (h : Tb M p 4) : ¬ cmF (hI M 139) p := by
  rcases h with h | ⟨v, v1, v2, v3, v4⟩
  · subst h
    exact fun z => z
  · cases p with
    | zero => exact fun z => z
    | succ p =>
      rw [Nat.add_sub_cancel] at v3
      have hv : 28 ≤ v := by
        unfold bnF at v4
        split at v4
        · omega
        · split at v4
          · omega
          · split at v4
            · omega
            · split at v4
              · omega
              · split at v4
                · omega
                · split at v4 <;> omega
      show ¬ (if 20 ≤ hI M 139 p ∧ hI M 139 p ≤ 24 then _ else 25 ≤ hI M 139 p ∧ hI M 139 p ≤ 27)
      rw [v3, if_neg (by show ¬ (nI 20 ≤ nI v ∧ nI v ≤ nI 24); rw [n_le (by omega) (by omega), n_le (by omega) (by omega)]; omega)]
      show ¬ (nI 25 ≤ nI v ∧ nI v ≤ nI 27)
      rw [n_le (by omega) (by omega), n_le (by omega) (by omega)]
      omega
theorem cmF_yes {p v : Nat} (h : hI M 139 p = nI v) (hv : 25 ≤ v ∧ v ≤ 27) : cmF (hI M 139) (p + 1) := by
  show (if 20 ≤ hI M 139 p ∧ hI M 139 p ≤ 24 then _ else 25 ≤ hI M 139 p ∧ hI M 139 p ≤ 27)
  rw [h, if_neg (by show ¬ (nI 20 ≤ nI v ∧ nI v ≤ nI 24); rw [n_le (by omega) (by omega), n_le (by omega) (by omega)]; omega)]
  show nI 25 ≤ nI v ∧ nI v ≤ nI 27
  rw [n_le (by omega) (by omega), n_le (by omega) (by omega)]
  omega
