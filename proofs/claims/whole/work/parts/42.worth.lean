variable {d : Nat} {M : hp} {Q : Option Value → hp → Prop}
theorem for_all {W : Nat → hp → Prop} {n : Nat} {R : hp → Prop} (h : ∀ i M, i < n → R M → (∀ M', R M' → W (i + 1) M') → W i M) (hx : ∀ M, R M → W n M) : ∀ k i M, i + k = n → R M → W i M
  | 0, i, M, e, q => by
    have : i = n := by omega
    subst this
    exact hx M q
  | k + 1, i, M, e, q => h i M (by omega) q (fun M' q' => for_all h hx k (i + 1) M' (by omega) q')
def worthG (L : Law) (D T W : Nat → Int32) (hr rn : Int32) (j : Nat) : Int32 := fo (fun th s => if (W j >>> (nI th &&& 31)) &&& 1 = 1 then s + ansF L 1 (lwF j D T W (-1) (-1) (nI th) hr rn) else s) 0 8 0
def worthF (L : Law) (M : hp) (h j : Nat) : Int32 := worthG L (hI M (h + 1)) (hI M (h + 2)) (hI M (h + 4)) (hI M h 5) (hI M h 7) j
theorem worthF_agr {p h j : Nat} {L : Law} {M M' : hp} (h1 : agr (nF p) M M') (ha : p + 5 < h ∨ h + 5 < p) : worthF L M' h j = worthF L M h j := by
  unfold worthF
  rw [agr_I h1 (nF_not (a := h) (by omega)), agr_I h1 (nF_not (a := h + 1) (by omega)), agr_I h1 (nF_not (a := h + 2) (by omega)), agr_I h1 (nF_not (a := h + 4) (by omega))]
theorem Night_worth {p h j : Nat} {L : Law} (HN : NightS M p) (H : HallS M h) (HL : LawIn M h L) (hj : j < 7) (hs : sm (hI M (h + 4) j)) (ha : p + 5 < h ∨ h + 5 < p) (hB : p + 5 < kB) (hQ : ∀ M', agr (nE p) M M' → Q (some (.int (worthF L M h j))) M') : Wp none d 36 0 [(0, .ref p), (1, .ref h), (2, .int (nI j))] [] M Q := by
  have h64 := H.1
  have p64 := HN.1
  have key : ∀ (k th : Nat) (s : Int32) (M1 : hp), th + k = 8 → agr (nE p) M M1 → fo (fun th s => if (hI M (h + 4) j >>> (nI th &&& 31)) &&& 1 = 1 then s + ansF L 1 (envF M h j (-1) (-1) (nI th)) else s) th k s = worthF L M h j → Wp none d 36 5 [(0, .ref p), (1, .ref h), (2, .int (nI j)), (3, .int s), (4, .int (nI th))] [] M1 Q := by
    intro k
    induction k with
    | zero =>
      intro th s M1 e a1 hs
      have : th = 8 := by omega
      subst this
      have e2 : s = worthF L M h j := hs
      rw [k36_5, k36_9, if_pos (by decide), k36_45, e2]
      exact hQ M1 a1
    | succ k ih =>
      intro th s M1 e a1 hs2
      have c : ¬ (8 : Int32) ≤ nI th := by
        show ¬ nI 8 ≤ nI th
        rw [n_le (by omega) (by omega)]
        omega
      have z : ∀ a, a = h ∨ a = h + 1 ∨ a = h + 2 ∨ a = h + 4 → hI M1 a = hI M a := fun a q => agr_I a1 (nE_not (by omega))
      rw [k36_5, k36_9, if_neg c, k36_12, k36_16 (by rw [agr_K a1]; exact H.2.1), Hall_knowsIt (HallS_agr a1 H) hj, z (h + 4) (by omega)]
      simp only [oN]
      rw [k36_19]
      simp only [bz_eq0]
      have hs3 : fo (fun th s => if (hI M (h + 4) j >>> (nI th &&& 31)) &&& 1 = 1 then s + ansF L 1 (envF M h j (-1) (-1) (nI th)) else s) (th + 1) k (if (hI M (h + 4) j >>> (nI th &&& 31)) &&& 1 = 1 then s + ansF L 1 (envF M h j (-1) (-1) (nI th)) else s) = worthF L M h j := hs2
      by_cases cb : (hI M (h + 4) j >>> (nI th &&& 31)) &&& 1 = 1
      · rw [if_pos cb] at hs3
        rw [if_neg (fun q => q cb), k36_22, k36_26 (by rw [agr_K a1]; exact H.2.1)]
        obtain ⟨v, hv, hr, hw⟩ := lawIn_ok (HallS_agr a1 H) (LawIn_agr a1 (nE_low (by omega)) (nE_not (by omega)) HL)
        rw [hw]
        simp only [oM]
        have go : Wp none d 35 0 [(0, .ref p), (1, .ref h), (2, v), (3, .int 1), (4, .int (nI j)), (5, .int (-1)), (6, .int (nI th))] [] M1 (fun r M1 => Wp none d 36 37 [(0, .ref p), (1, .ref h), (2, .int (nI j)), (3, .int s), (4, .int (nI th))] (r.toList ++ [.int s]) M1 Q) := by
          refine answerL (L := L) (ko := -1) (NightS_agr a1 HN) (HallS_agr a1 H) hv hj (by rw [z (h + 4) (by omega)]; exact hs) (Or.inl ⟨rfl, rfl⟩) ha hB ?_
          intro M2 a2
          have eE : envF M1 h j (-1) (-1) (nI th) = envF M h j (-1) (-1) (nI th) := by
            unfold envF
            rw [z h (by omega), z (h + 1) (by omega), z (h + 2) (by omega), z (h + 4) (by omega)]
          rw [eE]
          simp only [oM]
          rw [k36_37, k36_39, nI_1]
          exact ih (th + 1) _ M2 (by omega) (agr_trans a1 a2) hs3
        rcases LawV_cases hv with e | ⟨t, e⟩
        · subst e
          rw [k36_29n, k36_34n (by rw [agr_K a1]; exact HN.2.1)]
          exact go
        · subst e
          rw [k36_29r, k36_34r (by rw [agr_K a1]; exact HN.2.1)]
          exact go
      · rw [if_neg cb] at hs3
        rw [if_pos cb, k36_39, nI_1]
        exact ih (th + 1) _ M1 (by omega) a1 hs3
  rw [k36_0]
  exact key 8 0 0 M (by omega) (agr_refl _ _) rfl
def worthA (L : Law) (M : hp) (h n : Nat) : Int32 := fo (fun j s => s + worthF L M h j) 0 n 0
theorem Night_worthOfAll {p h n : Nat} {L : Law} (HN : NightS M p) (H : HallS M h) (N : HallN M h n) (HK : KnoS (hI M (h + 4)) n) (HL : LawIn M h L) (ha : p + 5 < h ∨ h + 5 < p) (hB : p + 5 < kB) (hQ : ∀ M', agr (nE p) M M' → Q (some (.int (worthA L M h n))) M') : Wp none d 37 0 [(0, .ref p), (1, .ref h)] [] M Q := by
  have h64 := H.1
  have p64 := HN.1
  have h7 := N.2
  have hn : n < 2147483648 := by omega
  have key : ∀ (k j : Nat) (s : Int32) (M1 : hp), j + k = n → agr (nE p) M M1 → fo (fun j s => s + worthF L M h j) j k s = worthA L M h n → Wp none d 37 4 [(0, .ref p), (1, .ref h), (2, .int s), (3, .int (nI j))] [] M1 Q := by
    intro k
    induction k with
    | zero =>
      intro j s M1 e a1 hs
      have : j = n := by omega
      subst this
      have e2 : s = worthA L M h j := hs
      rw [k37_4 (by rw [agr_K a1]; exact H.2.1), k37_9, agr_I a1 (nE_not (by omega)), N.1, if_pos (by rw [n_le hn hn]; exact Nat.le_refl j), k37_27, e2]
      exact hQ M1 a1
    | succ k ih =>
      intro j s M1 e a1 hs
      have hs3 : fo (fun j s => s + worthF L M h j) (j + 1) k (s + worthF L M h j) = worthA L M h n := hs
      rw [k37_4 (by rw [agr_K a1]; exact H.2.1), k37_9, agr_I a1 (nE_not (by omega)), N.1, if_neg (by rw [n_le hn (by omega)]; omega), k37_12, k37_16 (by rw [agr_K a1]; exact HN.2.1)]
      refine Night_worth (L := L) (NightS_agr a1 HN) (HallS_agr a1 H) (LawIn_agr a1 (nE_low (by omega)) (nE_not (by omega)) HL) (by omega) (by rw [agr_I a1 (nE_not (by omega))]; exact HK j (by omega)) ha hB ?_
      intro M2 a2
      rw [worthF_agr (nE_nF a1) ha]
      simp only [oM]
      rw [k37_19, nI_1]
      exact ih (j + 1) _ M2 (by omega) (agr_trans a1 a2) hs3
  rw [k37_0]
  exact key n 0 0 M (by omega) (agr_refl _ _) rfl
/-- how many a hat beside tells, -1: no hat -/
def cntF (L : Law) (M : hp) (h j : Nat) (x : Int32) : Int32 := if x = -1 then 0 else mny (toldF L M h j x.toNatClampNeg)
theorem hatF_cases (n : Nat) (P : Nat → Int32) (p : Int32) : hatF n P p = -1 ∨ ∃ j, j < n ∧ hatF n P p = nI j := by
  unfold hatF
  by_cases c : p < 0
  · rw [if_pos c]; exact Or.inl rfl
  · rw [if_neg c]
    have : ∀ k i, i + k = n → fst1 P p i k = -1 ∨ ∃ j, j < n ∧ fst1 P p i k = nI j := by
      intro k
      induction k with
      | zero => intro i _; exact Or.inl rfl
      | succ k ih =>
        intro i e
        show (if P i = p then nI i else fst1 P p (i + 1) k) = -1 ∨ ∃ j, j < n ∧ (if P i = p then nI i else fst1 P p (i + 1) k) = nI j
        by_cases c : P i = p
        · rw [if_pos c]; exact Or.inr ⟨i, by omega, rfl⟩
        · rw [if_neg c]; exact ih (i + 1) (by omega)
    exact this n 0 (by omega)
theorem Night_toldByAll {p h n j : Nat} {L : Law} (HN : NightS M p) (H : HallS M h) (N : HallN M h n) (HK : KnoS (hI M (h + 4)) n) (HL : LawIn M h L) (hj : j < n) (ha : p + 5 < h ∨ h + 5 < p) (hB : p + 5 < kB) (hQ : ∀ M', agr (nE p) M M' → Q (some (.int (if hI M (h + 3) j = -1 then 0 else cntF L M h j (hatF n (hI M (h + 3)) (hI M (h + 3) j - 1)) + cntF L M h j (hatF n (hI M (h + 3)) (hI M (h + 3) j + 1))))) M') : Wp none d 39 0 [(0, .ref p), (1, .ref h), (2, .int (nI j))] [] M Q := by
  have h64 := H.1
  have p64 := HN.1
  have h7 := N.2
  have nz : ¬ hR M h 2 = 0 := by rw [H.2.2.2.2.1]; omega
  rw [k39_0, k39_2 H.2.1, Hall_isHung H N (by omega)]
  simp only [oN]
  rw [k39_5]
  simp only [bz_eq0, hj, true_and, Classical.not_not]
  by_cases c : hI M (h + 3) j = -1
  · rw [if_pos c] at hQ
    rw [if_neg (fun q => q c), k39_8]
    exact hQ M (agr_refl _ _)
  · rw [if_neg c] at hQ
    rw [if_pos c, k39_10 H.2.1 nz, H.2.2.2.2.1, k39_16, at_P H (by omega)]
    simp only [oM]
    rw [k39_19, k39_21 H.2.1, Hall_hatOn H N]
    simp only [oN]
    rw [k39_24 H.2.1 nz, H.2.2.2.2.1, k39_31, at_P H (by omega)]
    simp only [oM]
    rw [k39_34, k39_36 H.2.1, Hall_hatOn H N]
    simp only [oN]
    rw [k39_39, k39_43]
    have c1 := hatF_cases n (hI M (h + 3)) (hI M (h + 3) j - 1)
    have c2 := hatF_cases n (hI M (h + 3)) (hI M (h + 3) j + 1)
    generalize hatF n (hI M (h + 3)) (hI M (h + 3) j - 1) = b at *
    generalize hatF n (hI M (h + 3)) (hI M (h + 3) j + 1) = t at *
    have snd : ∀ (M1 : hp) (s : Int32), agr (nE p) M M1 → s = cntF L M h j b → Wp none d 39 60 [(0, .ref p), (1, .ref h), (2, .int (nI j)), (3, .int b), (4, .int t)] [.int s] M1 Q := by
      intro M1 s a1 es
      rw [k39_60, k39_67]
      rcases c2 with e | ⟨o, ho, e⟩
      · subst e
        rw [if_neg (by decide), k39_70, k39_85, es]
        exact hQ M1 a1
      · subst e
        rw [if_pos (by rw [n_m1 (by omega)]; exact id), k39_74, k39_79 (by rw [agr_K a1]; exact HN.2.1)]
        refine Night_toldBy (L := L) (NightS_agr a1 HN) (HallS_agr a1 H) (LawIn_agr a1 (nE_low (by omega)) (nE_not (by omega)) HL) (by omega) (by omega) (by rw [agr_I a1 (nE_not (by omega))]; exact HK j hj) ha hB ?_
        intro M2 a2
        rw [toldF_agr (nE_nF a1) ha]
        simp only [oM]
        rw [k39_82, bitCount_ok (toldF_sm _ _ _ _ _)]
        simp only [oM]
        rw [k39_85, es]
        have q := hQ M2 (agr_trans a1 a2)
        have e3 : cntF L M h j (nI o) = mny (toldF L M h j o) := by
          unfold cntF
          rw [if_neg (by rw [n_m1 (by omega)]; exact id), n_cl (by omega)]
        rw [e3] at q
        exact q
    rcases c1 with e | ⟨o, ho, e⟩
    · subst e
      rw [if_neg (by decide), k39_46]
      exact snd M 0 (agr_refl _ _) (by unfold cntF; rw [if_pos rfl])
    · subst e
      rw [if_pos (by rw [n_m1 (by omega)]; exact id), k39_50, k39_54 HN.2.1]
      refine Night_toldBy (L := L) HN H HL (by omega) (by omega) (HK j hj) ha hB ?_
      intro M2 a2
      simp only [oN]
      rw [k39_57, bitCount_ok (toldF_sm _ _ _ _ _)]
      simp only [oN]
      refine snd M2 _ a2 ?_
      unfold cntF
      rw [if_neg (by rw [n_m1 (by omega)]; exact id), n_cl (by omega)]
