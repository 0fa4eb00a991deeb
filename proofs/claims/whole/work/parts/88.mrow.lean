variable {d : Nat} {M : hp} {Q : Option Value → hp → Prop}
/-! what the reference tells; a law put into its row -/
def mRef (M : hp) (v : Nat) : hp := sI (sI M 126 1 (-(nI v))) 127 v (hI M 127 v + 1)
theorem mTell_n {v : Nat} (F : MF M) (h1 : 1 ≤ v) (h7 : v < 7) : Wp none d 156 0 [(0, .ref 126), (1, .int (-(nI v)))] [] M Q = Q (some (.int (-(nI v)))) (mRef M v) := by
  have F1 : MF (sI M 126 1 (-(nI v))) := F
  have e : v = 1 ∨ v = 2 ∨ v = 3 ∨ v = 4 ∨ v = 5 ∨ v = 6 := by omega
  have z1 : ¬ (0 : Int32) ≤ -(nI v) := by rcases e with rfl | rfl | rfl | rfl | rfl | rfl <;> decide
  have z2 : (- -(nI v)).toNatClampNeg = v := by rcases e with rfl | rfl | rfl | rfl | rfl | rfl <;> decide
  have z3 : vin (- -(nI v)) 7 = true := by rcases e with rfl | rfl | rfl | rfl | rfl | rfl <;> decide
  rw [k156_0, k156_2, if_neg z1, k156_5, m156_10 F, k156_13, k156_14, if_neg z1, m156_17 F1 z3, z2, k156_28, hI_sI_a (by decide)]
  rfl
theorem mTell_p {v : Int32} (F : MF M) (h : 0 ≤ v) : Wp none d 156 0 [(0, .ref 126), (1, .int v)] [] M Q = Q (some (.int v)) (sI M 126 1 0) := by
  rw [k156_0, k156_2, if_pos h, k156_9, m156_10 F, k156_13, k156_14, if_pos h, k156_28]
theorem v54 {j : Nat} (h : j < 5447) : vin (nI j) 5447 = true := by rw [vin_n (by omega)]; exact decide_eq_true h
theorem cp_cl {A nc : Nat} (hA : A + 900 ≤ 5447) (hnc : nc ≤ 12) : ∀ (k j : Nat) (M1 : hp), j + k = 8 * nc → MF M1 → hI M1 126 21 = nI nc → (∀ M', agr [128] M1 M' → (∀ l, j ≤ l → l < 8 * nc → hI M' 128 (A + 2 + l) = hI M1 136 l) → (∀ l, ¬ (A + 2 + j ≤ l ∧ l < A + 98) → hI M' 128 l = hI M1 128 l) → Wp none d 213 143 [(0, .ref 126), (1, .int (nI A)), (2, .int (nI (8 * nc)))] [] M' Q) → Wp none d 213 110 [(0, .ref 126), (1, .int (nI A)), (2, .int (nI j))] [] M1 Q := by
  intro k
  induction k with
  | zero =>
    intro j M1 e F h21 hQ
    have : j = 8 * nc := by omega
    subst this
    rw [m213_110 F, h21, show (8 : Int32) = nI 8 from rfl, n_mul, k213_118, lei (by omega) (by omega), if_pos (Nat.le_refl _)]
    exact hQ M1 (agr_refl _ _) (fun l h1 h2 => absurd h1 (by omega)) (fun l _ => rfl)
  | succ k ih =>
    intro j M1 e F h21 hQ
    have e2 : nI A + 2 + nI j = nI (A + 2 + j) := by rw [show (2 : Int32) = nI 2 from rfl, nI_add, nI_add]
    have F2 : MF (sI M1 128 (A + 2 + j) (hI M1 136 j)) := F
    rw [m213_110 F, h21, show (8 : Int32) = nI 8 from rfl, n_mul, k213_118, lei (by omega) (by omega), if_neg (by omega), m213_121 F (v96 (by omega)) (by rw [e2]; exact v54 (by omega)), e2, n_cl (by omega), n_cl (by omega), k213_137, nI_1]
    refine ih (j + 1) _ (by omega) F2 ((hI_sI_a (by decide)).trans h21) ?_
    intro M' a h1 h2
    refine hQ M' (agr_trans (agr_sI (by decide)) a) (fun l q1 q2 => ?_) (fun l q => (h2 l (by omega)).trans (hI_sI_k (by omega)))
    by_cases z : l = j
    · rw [z, h2 (A + 2 + j) (by omega), hI_sI_s]
    · rw [h1 l (by omega) q2, hI_sI_a (by decide)]
theorem cp_co {A len : Nat} (hA : A + 900 ≤ 5447) (hlen : len ≤ 400) : ∀ (k j : Nat) (M1 : hp), j + k = len → MF M1 → hI M1 126 23 = nI len → (∀ M', agr [128] M1 M' → (∀ l, j ≤ l → l < len → hI M' 128 (A + 98 + 2 * l) = hI M1 137 l ∧ hI M' 128 (A + 98 + 2 * l + 1) = hI M1 138 l) → (∀ l, ¬ (A + 98 + 2 * j ≤ l ∧ l < A + 900) → hI M' 128 l = hI M1 128 l) → Wp none d 213 199 [(0, .ref 126), (1, .int (nI A)), (2, .int (nI len))] [] M' Q) → Wp none d 213 145 [(0, .ref 126), (1, .int (nI A)), (2, .int (nI j))] [] M1 Q := by
  intro k
  induction k with
  | zero =>
    intro j M1 e F h23 hQ
    have : j = len := by omega
    subst this
    rw [m213_145 F, h23, k213_150, lei (by omega) (by omega), if_pos (Nat.le_refl _)]
    exact hQ M1 (agr_refl _ _) (fun l h1 h2 => absurd h1 (by omega)) (fun l _ => rfl)
  | succ k ih =>
    intro j M1 e F h23 hQ
    have e2 : nI A + 98 + 2 * nI j = nI (A + 98 + 2 * j) := by rw [show (98 : Int32) = nI 98 from rfl, show (2 : Int32) = nI 2 from rfl, n_mul, nI_add, nI_add]
    have e3 : nI (A + 98 + 2 * j) + 1 = nI (A + 98 + 2 * j + 1) := by rw [nI_1]
    have F2 : MF (sI M1 128 (A + 98 + 2 * j) (hI M1 137 j)) := F
    have F3 : MF (sI (sI M1 128 (A + 98 + 2 * j) (hI M1 137 j)) 128 (A + 98 + 2 * j + 1) (hI M1 138 j)) := F
    rw [m213_145 F, h23, k213_150, lei (by omega) (by omega), if_neg (by omega), m213_153 F (v400 (by omega)) (by rw [e2]; exact v54 (by omega)), e2, n_cl (by omega), n_cl (by omega), m213_172 F2 (v400 (by omega)) (by rw [e2, e3]; exact v54 (by omega)), e2, e3, n_cl (by omega), n_cl (by omega), hI_sI_a (by decide), k213_193, nI_1]
    refine ih (j + 1) _ (by omega) F3 ((hI_sI_a (by decide)).trans ((hI_sI_a (by decide)).trans h23)) ?_
    intro M' a h1 h2
    refine hQ M' (agr_trans (agr_sI (by decide)) (agr_trans (agr_sI (by decide)) a)) (fun l q1 q2 => ?_) (fun l q => (h2 l (by omega)).trans ((hI_sI_k (by omega)).trans (hI_sI_k (by omega))))
    by_cases z : l = j
    · rw [z, h2 (A + 98 + 2 * j) (by omega), h2 (A + 98 + 2 * j + 1) (by omega), hI_sI_k (by omega), hI_sI_s, hI_sI_s]
      exact ⟨rfl, rfl⟩
    · have := h1 l (by omega) q2
      rw [this.1, this.2, hI_sI_a (by decide), hI_sI_a (by decide), hI_sI_a (by decide), hI_sI_a (by decide)]
      exact ⟨rfl, rfl⟩
/-- the law that was read becomes the row's law n -/
def CpR (M M' : hp) (n nc len : Nat) : Prop := agr [128] M M' ∧ hI M' 128 2 = nI (n + 1) ∧ hI M' 128 (47 + 900 * n + 1) = nI nc ∧ (∀ l, l < 8 * nc → hI M' 128 (47 + 900 * n + 2 + l) = hI M 136 l) ∧ (∀ l, l < len → hI M' 128 (47 + 900 * n + 98 + 2 * l) = hI M 137 l ∧ hI M' 128 (47 + 900 * n + 98 + 2 * l + 1) = hI M 138 l) ∧ ∀ l, ¬ l = 2 → ¬ (47 + 900 * n ≤ l ∧ l < 947 + 900 * n) → hI M' 128 l = hI M 128 l
theorem law_copy {n nc len : Nat} (F : MF M) (hn : hI M 128 2 = nI n) (hn6 : n < 6) (h21 : hI M 126 21 = nI nc) (hnc : nc ≤ 12) (h23 : hI M 126 23 = nI len) (hlen : len ≤ 400) (hQ : ∀ M', CpR M M' n nc len → Wp none d 213 218 [(0, .ref 126), (1, .int (nI (47 + 900 * n))), (2, .int (nI len))] [.int (nI n), .ref 126] M' Q) : Wp none d 213 82 [(0, .ref 126)] [] M Q := by
  have c2 : (2 : Int32).toNatClampNeg = 2 := rfl
  have v2 : vin 2 5447 = true := by decide
  have eA : (47 : Int32) + 900 * nI n = nI (47 + 900 * n) := by rw [show (47 : Int32) = nI 47 from rfl, show (900 : Int32) = nI 900 from rfl, n_mul, nI_add]
  have e1 : nI (47 + 900 * n) + 1 = nI (47 + 900 * n + 1) := by rw [nI_1]
  have F1 : MF (sI M 128 (47 + 900 * n + 1) (nI nc)) := F
  rw [m213_82 F v2 (by rw [c2, hn, eA, e1]; exact v54 (by omega)), c2, hn, eA, e1, n_cl (by omega), h21, k213_108, show (0 : Int32) = nI 0 from rfl]
  refine cp_cl (A := 47 + 900 * n) (by omega) hnc (8 * nc) 0 _ (by omega) F1 ((hI_sI_a (by decide)).trans h21) ?_
  intro M2 a2 g1 g2
  have F2 := MF_agr F1 a2
  rw [k213_143, show (0 : Int32) = nI 0 from rfl]
  refine cp_co (A := 47 + 900 * n) (by omega) hlen len 0 _ (by omega) F2 ?_ ?_
  · rw [agr_I a2 (by decide), hI_sI_a (by decide)]; exact h23
  · intro M3 a3 g3 g4
    have F3 := MF_agr F2 a3
    have w2 : hI M3 128 2 = nI n := by rw [g4 2 (by omega), g2 2 (by omega), hI_sI_k (by omega)]; exact hn
    have F4 : MF (sI M3 128 2 (nI (n + 1))) := F3
    have es : nI (n + 1) - 1 = nI n := by rw [show (1 : Int32) = nI 1 from rfl, n_sub (by omega), Nat.add_sub_cancel]
    rw [m213_199 F3 v2, c2, w2, nI_1, m213_209 F4 v2, c2, hI_sI_s, es]
    refine hQ _ ⟨agr_trans (agr_sI (by decide)) (agr_trans a2 (agr_trans a3 (agr_sI (by decide)))), hI_sI_s _ _ _ _, ?_, ?_, ?_, ?_⟩
    · rw [hI_sI_k (by omega), g4 _ (by omega), g2 _ (by omega), hI_sI_s]
    · intro l hl
      rw [hI_sI_k (by omega), g4 _ (by omega), g1 l (by omega) hl, hI_sI_a (by decide)]
    · intro l hl
      have := g3 l (by omega) hl
      rw [hI_sI_k (by omega), hI_sI_k (by omega), this.1, this.2, agr_I a2 (by decide), agr_I a2 (by decide), hI_sI_a (by decide), hI_sI_a (by decide)]
      exact ⟨rfl, rfl⟩
    · intro l h1 h2
      rw [hI_sI_k h1, g4 l (by omega), g2 l (by omega), hI_sI_k (by omega)]
