variable {d : Nat} {M : hp} {Q : Option Value → hp → Prop}
theorem agr_both {E : List Nat} {M M' : hp} (h : agr E M M') (a k : Nat) (v : Int32) : agr E (sI M a k v) (sI M' a k v) := ⟨h.1, h.2.1, h.2.2.1, h.2.2.2.1, fun b q => ⟨by
  funext j
  rw [hI_sI, hI_sI, (h.2.2.2.2 b q).1], (h.2.2.2.2 b q).2⟩⟩
theorem Bas_agr {M0 M1 : hp} {h t p pl n : Nat} {L : Law} (B : Bas M0 h t p pl n L) (a : agr [pl, pl + 1] M0 M1) : Bas M1 h t p pl n L := by
  obtain ⟨B1, B2, B3, B4, B5, B6, B7, B8, B9, B10, B11, B12⟩ := B
  have lw : low [pl, pl + 1] := by intro b q; simp at q; omega
  have nn : ∀ b, ¬ b = pl → ¬ b = pl + 1 → ([pl, pl + 1] : List Nat).contains b = false := fun b q1 q2 => by simp [q1, q2]
  have kB1 := B1.2.2.2.2.2.2.2
  refine ⟨HallO_agq (agq_of (B := []) a) lw (fun b q => by simp at q) (nn _ (by omega) (by omega)) (nn _ (by omega) (by omega)) (nn _ (by omega) (by omega)) (nn _ (by omega) (by omega)) (nn _ (by omega) (by omega)) rfl rfl B1, HallO_agq (agq_of (B := []) a) lw (fun b q => by simp at q) (nn _ (by omega) (by omega)) (nn _ (by omega) (by omega)) (nn _ (by omega) (by omega)) (nn _ (by omega) (by omega)) (nn _ (by omega) (by omega)) rfl rfl B2, ⟨?_, ?_, ?_⟩, NightS_agr a B4, B5, B6, B7, B8, B9, B10, B11, B12⟩
  · intro r r1 r4
    rw [agr_I a (nn (t + r) (by omega) (by omega)), agr_I a (nn (h + r) (by omega) (by omega))]
    exact B3.1 r r1 r4
  · intro k k5 k13
    rw [agr_I a (nn t (by omega) (by omega)), agr_I a (nn h (by omega) (by omega))]
    exact B3.2.1 k k5 k13
  · intro i hi
    rw [agr_R a]
    exact B3.2.2 i hi
/-- the hats that are off, in their order -/
def ofs (P : Nat → Int32) : Nat → Nat × (Nat → Int32)
  | 0 => (0, fun _ => 0)
  | j + 1 => if P j = -1 then ((ofs P j).1 + 1, updI (ofs P j).2 (ofs P j).1 (nI j)) else ofs P j
theorem ofs_le (P : Nat → Int32) : ∀ (k j : Nat), (ofs P j).1 ≤ (ofs P (j + k)).1
  | 0, _ => Nat.le_refl _
  | k + 1, j => by
    refine Nat.le_trans (ofs_le P k j) ?_
    show _ ≤ (if P (j + k) = -1 then ((ofs P (j + k)).1 + 1, updI (ofs P (j + k)).2 (ofs P (j + k)).1 (nI (j + k))) else ofs P (j + k)).1
    split
    · exact Nat.le_succ _
    · exact Nat.le_refl _
theorem ofs_stop (P : Nat → Int32) : ∀ (k j : Nat), (ofs P (j + k)).1 ≤ (ofs P j).1 → ofs P (j + k) = ofs P j
  | 0, _, _ => rfl
  | k + 1, j, h => by
    have e : ofs P (j + (k + 1)) = if P (j + k) = -1 then ((ofs P (j + k)).1 + 1, updI (ofs P (j + k)).2 (ofs P (j + k)).1 (nI (j + k))) else ofs P (j + k) := rfl
    have l := ofs_le P k j
    by_cases c : P (j + k) = -1
    · rw [e, if_pos c] at h
      have : (ofs P (j + k)).1 + 1 ≤ (ofs P j).1 := h
      omega
    · rw [if_neg c] at e
      rw [e] at h ⊢
      exact ofs_stop P k j h
theorem ofs_at (P : Nat → Int32) : ∀ (n i : Nat), i < (ofs P n).1 → ∃ j, j < n ∧ (ofs P n).2 i = nI j
  | 0, i, h => absurd h (Nat.not_lt_zero i)
  | n + 1, i, h => by
    have e : ofs P (n + 1) = if P n = -1 then ((ofs P n).1 + 1, updI (ofs P n).2 (ofs P n).1 (nI n)) else ofs P n := rfl
    by_cases c : P n = -1
    · rw [if_pos c] at e
      rw [e] at h ⊢
      show ∃ j, j < n + 1 ∧ updI (ofs P n).2 (ofs P n).1 (nI n) i = nI j
      unfold updI
      by_cases z : i = (ofs P n).1
      · rw [if_pos z]; exact ⟨n, by omega, rfl⟩
      · rw [if_neg z]
        have : i < (ofs P n).1 + 1 := h
        obtain ⟨j, j1, j2⟩ := ofs_at P n i (by omega)
        exact ⟨j, by omega, j2⟩
    · rw [if_neg c] at e
      rw [e] at h ⊢
      obtain ⟨j, j1, j2⟩ := ofs_at P n i h
      exact ⟨j, by omega, j2⟩
theorem findOff_ok {h n p t pl : Nat} (HP : PlanS M pl p t) (H : HallS M h) (N : HallN M h n) (hc : (ofs (hI M (h + 3)) n).1 ≤ 3) (hpl : pl + 1 < h ∨ h + 5 < pl) (hQ : ∀ M', agr [pl + 1] M M' → (∀ i, i < (ofs (hI M (h + 3)) n).1 → hI M' (pl + 1) i = (ofs (hI M (h + 3)) n).2 i) → Q (some (.int (nI (ofs (hI M (h + 3)) n).1))) M') : Wp none d 52 0 [(0, .ref pl), (1, .ref h)] [] M Q := by
  have h7 := N.2
  have p64 := HP.1
  have h64 := H.1
  have hn : n < 2147483648 := by omega
  have nn : ∀ a, ¬ a = pl + 1 → ([pl + 1] : List Nat).contains a = false := fun a q => by simp [q]
  have key : ∀ (k j : Nat) (M1 : hp), j + k = n → agr [pl + 1] M M1 → (∀ i, i < (ofs (hI M (h + 3)) j).1 → hI M1 (pl + 1) i = (ofs (hI M (h + 3)) j).2 i) → Wp none d 52 4 [(0, .ref pl), (1, .ref h), (2, .int (nI (ofs (hI M (h + 3)) j).1)), (3, .int (nI j))] [] M1 Q := by
    intro k
    induction k with
    | zero =>
      intro j M1 e a1 ha
      have : j = n := by omega
      subst this
      rw [k52_4 (by rw [agr_K a1]; exact H.2.1), agr_I a1 (nn h (by omega)), N.1, k52_9, if_pos (by rw [n_le hn hn]; exact Nat.le_refl j), k52_47]
      exact hQ M1 a1 ha
    | succ k ih =>
      intro j M1 e a1 ha
      have lc := ofs_le (hI M (h + 3)) (k + 1) j
      rw [e] at lc
      have hk1 : hK M1 (pl + 1) = (20, 3) := by rw [agr_K a1]; exact HP.2.2.2.2.2
      have hr2 : hR M1 pl 2 = pl + 1 := by rw [agr_R a1]; exact HP.2.2.2.2.1
      rw [k52_4 (by rw [agr_K a1]; exact H.2.1), agr_I a1 (nn h (by omega)), N.1, k52_9, if_neg (by rw [n_le hn (by omega)]; omega), k52_12 (by rw [agr_K a1]; exact HP.2.1) (by rw [hr2]; omega) (by rw [hr2]; omega) (by rw [hr2, hk1]; omega), hr2, hk1, k52_18]
      by_cases c3 : (ofs (hI M (h + 3)) j).1 = 3
      · have e3 := ofs_stop (hI M (h + 3)) (k + 1) j (by rw [e, c3]; exact hc)
        rw [e] at e3
        rw [if_pos (show Int32.ofNat (20, 3).2 ≤ nI (ofs (hI M (h + 3)) j).1 by rw [c3]; decide), k52_47, ← e3]
        rw [← e3] at ha
        exact hQ M1 a1 ha
      · rw [if_neg (show ¬ Int32.ofNat (20, 3).2 ≤ nI (ofs (hI M (h + 3)) j).1 by
          show ¬ nI 3 ≤ nI (ofs (hI M (h + 3)) j).1
          rw [n_le (by omega) (by omega)]
          omega), k52_21, k52_23 (by rw [agr_K a1]; exact H.2.1), Hall_isHung (HallS_agr a1 H) (by unfold HallN; rw [agr_I a1 (nn h (by omega))]; exact N) (by omega), agr_I a1 (nn (h + 3) (by omega))]
        simp only [oN]
        rw [k52_26]
        simp only [bz_eq0, show j < n by omega, true_and, Classical.not_not]
        have eo : ofs (hI M (h + 3)) (j + 1) = if hI M (h + 3) j = -1 then ((ofs (hI M (h + 3)) j).1 + 1, updI (ofs (hI M (h + 3)) j).2 (ofs (hI M (h + 3)) j).1 (nI j)) else ofs (hI M (h + 3)) j := rfl
        by_cases c : hI M (h + 3) j = -1
        · rw [if_pos c] at eo
          rw [if_neg (fun q => q c), k52_29 (by rw [agr_K a1]; exact HP.2.1) (by rw [hr2]; omega), hr2, k52_35, T_put hk1 (by omega) (by omega), pI_n (by omega) (by omega)]
          simp only [oZ]
          rw [k52_38, k52_41, nI_1, nI_1]
          have e4 : (ofs (hI M (h + 3)) j).1 + 1 = (ofs (hI M (h + 3)) (j + 1)).1 := by rw [eo]
          rw [e4]
          refine ih (j + 1) _ (by omega) (agr_trans a1 (agr_sI (by simp))) ?_
          intro i hi
          rw [eo] at hi ⊢
          show hI _ (pl + 1) i = updI (ofs (hI M (h + 3)) j).2 (ofs (hI M (h + 3)) j).1 (nI j) i
          unfold updI
          rw [hI_sI]
          by_cases z : i = (ofs (hI M (h + 3)) j).1
          · rw [if_pos ⟨rfl, z⟩, if_pos z]
          · rw [if_neg (fun q => z q.2), if_neg z]
            have : i < (ofs (hI M (h + 3)) j).1 + 1 := hi
            exact ha i (by omega)
        · rw [if_neg c] at eo
          rw [if_pos c, k52_41, nI_1]
          rw [← eo]
          refine ih (j + 1) M1 (by omega) a1 ?_
          rw [eo]
          exact ha
  rw [k52_0]
  exact key n 0 M (by omega) (agr_refl _ _) (fun i hi => absurd hi (Nat.not_lt_zero i))
/-- a digit of a row -/
def dig (r c i : Nat) : Nat := r / 10 ^ (c - 1 - i) % 10
theorem pegInRow_ok {pl r c i : Nat} (hr : r < 1000000) (hc : c ≤ 3) (hi : i < c) : Wp none d 54 0 [(0, .ref pl), (1, .int (nI r)), (2, .int (nI c)), (3, .int (nI i))] [] M Q = Q (some (.int (nI (dig r c i)))) M := by
  have loop : ∀ (y2 : Int32) (k r : Nat), r < 1000000 → i + 1 + k ≤ 3 → Wp none d 54 8 [(0, .ref pl), (1, .int y2), (2, .int (nI c)), (3, .int (nI i)), (4, .int (nI r)), (5, .int (nI (i + k)))] [] M Q = Q (some (.int (nI (r / 10 ^ k % 10)))) M := by
    intro y2 k
    induction k with
    | zero =>
      intro r hr _
      rw [k54_8, k54_11, Nat.add_zero, if_pos (by rw [n_le (by omega) (by omega)]; exact Nat.le_refl i), k54_27, n_modl (n := 10) (by omega) (by omega), Nat.pow_zero, Nat.div_one]
    | succ k ih =>
      intro r hr h3
      rw [k54_8, k54_11, if_neg (by rw [n_le (by omega) (by omega)]; omega), k54_14, n_divl (n := 10) (by omega) (by omega), n_addm1, show i + (k + 1) = (i + k) + 1 by omega, nI_pred, ih (r / 10) (by omega) (by omega), Nat.div_div_eq_div_mul, Nat.pow_succ, Nat.mul_comm (10 ^ k) 10]
  have e : nI c - 1 = nI (i + (c - 1 - i)) := by
    rw [n_subl (n := 1) (by omega), show i + (c - 1 - i) = c - 1 by omega]
  rw [k54_0, e]
  exact loop _ (c - 1 - i) r hr (by omega)
/-- hats hung in a row: the pegs then, none if one is taken -/
def hgF (n : Nat) (a : Nat → Int32) (r c : Nat) : Nat → Nat → (Nat → Int32) → Option (Nat → Int32)
  | 0, _, P => some P
  | k + 1, i, P => if hatF n P (nI (dig r c i)) = -1 then hgF n a r c k (i + 1) (updI P (a i).toNatClampNeg (nI (dig r c i))) else none
theorem dig_lt (r c i : Nat) : dig r c i < 10 := Nat.mod_lt _ (by omega)
theorem hgF_ok {n r c : Nat} {a : Nat → Int32} (hn : n ≤ 7) (ha : ∀ i, i < c → ∃ j, j < n ∧ a i = nI j) : ∀ (k i : Nat) (P : Nat → Int32), i + k = c → PegS P n → ∀ P', hgF n a r c k i P = some P' → PegS P' n
  | 0, i, P, _, h, P', e => by
    have : some P = some P' := e
    cases this
    exact h
  | k + 1, i, P, e, h, P', e2 => by
    have e3 : (if hatF n P (nI (dig r c i)) = -1 then hgF n a r c k (i + 1) (updI P (a i).toNatClampNeg (nI (dig r c i))) else none) = some P' := e2
    by_cases z : hatF n P (nI (dig r c i)) = -1
    · rw [if_pos z] at e3
      obtain ⟨j, j1, j2⟩ := ha i (by omega)
      rw [j2, n_cl (by omega)] at e3
      exact hgF_ok hn ha k (i + 1) _ (by omega) (hat_free h hn j1 (dig_lt r c i) (Or.inl z)) P' e3
    · rw [if_neg z] at e3
      cases e3
theorem hangRow_ok {M0 : hp} {h t p pl n r c : Nat} {L : Law} {a : Nat → Int32} {W : Nat → Int32} {hr : Int32} (B : Bas M0 h t p pl n L) (PS : PlanS M0 pl p t) (hc : c ≤ 3) (hr1 : r < 1000000) (ha : ∀ i, i < c → hI M0 (pl + 1) i = a i) (haj : ∀ i, i < c → ∃ j, j < n ∧ a i = nI j) (HW : KnoS W n)
    (hQ1 : ∀ M' P', hgF n a r c c 0 (hI M0 (h + 3)) = some P' → Pap M0 M' h t p pl P' W hr → Q (some (.int 1)) M') (hQ0 : ∀ M', hgF n a r c c 0 (hI M0 (h + 3)) = none → Mid M0 M' t p pl → Q (some (.int 0)) M') :
    ∀ (k i : Nat) (P : Nat → Int32) (M1 : hp), i + k = c → Pap M0 M1 h t p pl P W hr → PegS P n → hgF n a r c k i P = hgF n a r c c 0 (hI M0 (h + 3)) → Wp none d 53 2 [(0, .ref pl), (1, .int (nI r)), (2, .int (nI c)), (3, .int (nI i))] [] M1 Q := by
  intro k
  have n7 := B.1.2.1.2
  have p64 := PS.1
  have hpB := B.2.2.2.2.2.2.2.2.2
  have t64 := B.2.1.1.1
  induction k with
  | zero =>
    intro i P M1 e X HP hs
    have : i = c := by omega
    subst this
    have hs2 : some P = hgF n a r i i 0 (hI M0 (h + 3)) := hs
    rw [k53_2, k53_4, if_pos (by rw [n_le (by omega) (by omega)]; exact Nat.le_refl i), k53_57]
    exact hQ1 M1 P hs2.symm X
  | succ k ih =>
    intro i P M1 e X HP hs
    have hpl : (hK M1 pl).1 = 4 := by rw [agr_K X.1.1]; exact PS.2.1
    have hr1' : hR M1 pl 1 = t := by rw [agr_R X.1.1]; exact PS.2.2.2.1
    have hr2' : hR M1 pl 2 = pl + 1 := by rw [agr_R X.1.1]; exact PS.2.2.2.2.1
    have hk1 : hK M1 (pl + 1) = (20, 3) := by rw [agr_K X.1.1]; exact PS.2.2.2.2.2
    have HO := Pap_hall B X HP HW
    obtain ⟨j, j1, j2⟩ := haj i (by omega)
    have eo : hI M1 (pl + 1) i = nI j := by
      rw [agr_I X.1.1 (by unfold pE nF; simp; omega), ha i (by omega), j2]
    have hs2 : (if hatF n P (nI (dig r c i)) = -1 then hgF n a r c k (i + 1) (updI P (a i).toNatClampNeg (nI (dig r c i))) else none) = hgF n a r c c 0 (hI M0 (h + 3)) := hs
    rw [k53_2, k53_4, if_neg (by rw [n_le (by omega) (by omega)]; omega), k53_7, k53_11 hpl, pegInRow_ok hr1 hc (by omega)]
    simp only [oN]
    rw [k53_14 hpl (by rw [hr1']; omega), hr1', k53_22 HO.1.2.1, Hall_hatOn HO.1 HO.2.1, X.2.1]
    simp only [oN]
    rw [k53_25, k53_26]
    by_cases z : hatF n P (nI (dig r c i)) = -1
    · rw [if_pos z] at hs2
      rw [if_pos z, k53_31 hpl (by rw [hr1']; omega) (by rw [hr1']; exact HO.1.2.1) (by rw [hr1', HO.1.2.2.2.2.1]; omega) (by rw [hr2']; omega), hr1', HO.1.2.2.2.2.1, hr2', k53_43, T_at hk1 (by omega) (by omega), gI_n (by omega) (by omega), eo]
      simp only [oM]
      rw [k53_46, k53_48, put_P HO.1 (by omega)]
      simp only [oZ]
      rw [k53_51, nI_1]
      rw [j2, n_cl (by omega)] at hs2
      exact ih (i + 1) _ _ (by omega) (pap_put X (by omega)) (hat_free HP n7 j1 (dig_lt r c i) (Or.inl z)) hs2
    · rw [if_neg z] at hs2
      rw [if_neg z, k53_29]
      exact hQ0 M1 hs2.symm X.1
