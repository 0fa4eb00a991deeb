variable {d : Nat} {M : hp} {Q : Option Value → hp → Prop}
/-! what is only asked: of(), two(), on(), groups(), canBe(), ask(), talkative() -/
theorem Sim_get (S : Sim M) : ∃ n nl lw, XS M ∧ HC M 65 (hI M 128) n nl lw ∧ HallO M 65 n (lawOf (hI M 128 3) lw) ∧ RP M n (hI M 66) (hI M 67) (hI M 68) (hI M 69) (hI M 65 5) (hI M 65 7) (lawOf (hI M 128 3) lw) := by
  have kb : kB = 154 := rfl
  obtain ⟨B, _, _, _, _, _, n, nl, lw, H, _⟩ := S
  exact ⟨n, nl, lw, B.2.1, H, HC_O H B.2.1.2.1 (by omega), HC_RP H B.2.2.1 B.2.2.2.2.1 B.2.2.2.2.2⟩
theorem RP_a {M1 : hp} {n : Nat} {D T P W : Nat → Int32} {hr rn : Int32} {L : Law} (X : RP M n D T P W hr rn L) (a : agq QE [76] M M1) : RP M1 n D T P W hr rn L :=
  RP_of X (MF_126 X.F (fun x _ => by rw [a.2.2.1]) (a.2.2.2.1 126 (by decide))) (a.2.2.2.2 128 (by decide)).1 (by rw [(a.2.2.2.2 126 (by decide)).1]; exact X.o20) (by rw [(a.2.2.2.2 126 (by decide)).1]; exact X.o0)
theorem qry_end {mi : Nat} {L2 : List (Nat × Value)} {v : Value} {M1 : hp} (S : Sim M) (a : agq QE [76] M M1) (z : HallZ M1 71) (K : Alk d mi L2 M Q) (R : ∀ Q2 : Option Value → hp → Prop, (∀ M2, Qry M1 M2 → Q2 (some v) M2) → Wp none d mi 0 L2 [] M1 Q2) : Q (some v) M1 :=
  K v M1 (fun Q2 h => R Q2 (fun M2 b => by
    obtain ⟨s1, s2, s3⟩ := Sim_q S a z b
    exact h M2 s1 (by omega) (by omega)))
theorem q_none (M : hp) : agq QE [76] M M := agq_of (agr_refl _ _)
theorem q_z (S : Sim M) : HallZ M 71 := S.2.1.1
theorem q_night {M1 : hp} (a : agr (nE 116) M M1) : agq QE [76] M M1 := agq_of (agr_mono a (by intro x q; simp [nE, QE] at q ⊢; omega))
theorem q_nz {M1 : hp} (S : Sim M) (a : agr (nE 116) M M1) : HallZ M1 71 := HallZ_fr (q_z S) (fun r hr => agr_I a (nE_not (by omega)))
theorem x_N (X : XS M) : NightS M 116 := X.2.2.2.2.2.2.2.2.2.2.2.2.1
theorem p_of {i w : Int32} (S : Sim M) (K : Alk d 177 [(0, .ref 126), (1, .int i), (2, .int w)] M Q) : Wp none d 92 0 [(0, .ref 64), (1, .int i), (2, .int w)] [] M Q := by
  have kb : kB = 154 := rfl
  obtain ⟨n, nl, lw, X, H, HO, Y⟩ := Sim_get S
  have n7 := Y.n7
  have fin : ∀ v M1, agq QE [76] M M1 → HallZ M1 71 → v = ofG (lawOf (hI M 128 3) lw) n (hI M 66) (hI M 67) (hI M 68) (hI M 69) (hI M 65 5) (hI M 65 7) i w → Q (some (.int v)) M1 := by
    intro v M1 a z hv
    subst hv
    exact qry_end S a z K (fun Q2 h => mOf (RP_a Y a) h)
  unfold ofG at fin
  rw [x92_0 X, x92_5 X (x_K65 X), Hall_hasHat X.2.1 HO.2.1]
  simp only [oN]
  rw [k92_8]
  by_cases c : ¬ i < 0 ∧ ¬ nI n ≤ i
  case neg =>
    rw [if_neg (show ¬ hatOk n i from c)] at fin
    rw [if_neg (by rw [bz_eq0]; exact fun q => q c), k92_11]
    exact fin _ M (q_none M) (q_z S) rfl
  rw [if_pos (show hatOk n i from c)] at fin
  obtain ⟨j, hj, rfl⟩ := hatOk_j n7 c
  rw [n_cl (by omega)] at fin
  rw [if_pos (by rw [bz_eq0]; exact fun q => q c), k92_13, k92_14]
  by_cases c0 : w = 0
  · rw [if_pos c0] at fin
    rw [if_pos c0, x92_48 X, k92_56, at_7 (x_K66 X) (by decide) (by omega)]
    simp only [oN]
    rw [k92_59]
    exact fin _ M (q_none M) (q_z S) rfl
  rw [if_neg c0] at fin
  rw [if_neg c0]
  by_cases c1 : w = 1
  · rw [if_pos c1] at fin
    rw [if_pos c1, x92_60 X, k92_68, at_7 (x_K67 X) (by decide) (by omega)]
    simp only [oN]
    rw [k92_71]
    exact fin _ M (q_none M) (q_z S) rfl
  rw [if_neg c1] at fin
  rw [if_neg c1]
  by_cases c2 : w = 2
  · rw [if_pos c2] at fin
    rw [if_pos c2, x92_72 X, k92_80, at_7 (x_K68 X) (by decide) (by omega)]
    simp only [oN]
    rw [k92_83]
    exact fin _ M (q_none M) (q_z S) rfl
  rw [if_neg c2] at fin
  rw [if_neg c2]
  by_cases c3 : w = 3
  · rw [if_pos c3] at fin
    rw [if_pos c3, x92_84 X, k92_92, at_7 (x_K69 X) (by decide) (by omega)]
    simp only [oN]
    rw [k92_95]
    exact fin _ M (q_none M) (q_z S) rfl
  rw [if_neg c3] at fin
  rw [if_neg c3]
  by_cases c4 : w = 4
  · rw [if_pos c4] at fin
    rw [if_pos c4, x92_96 X, k92_105 (x_K116 X)]
    refine Night_worth (x_N X) X.2.1 HO.2.2.2.2.1 (by omega) (HO.2.2.2.1 j hj) (by omega) (by omega) (fun M' b => ?_)
    simp only [oN]
    rw [k92_108]
    exact fin _ M' (q_night b) (q_nz S b) rfl
  · rw [if_neg c4] at fin
    rw [if_neg c4, k92_109]
    exact fin _ M (q_none M) (q_z S) rfl
theorem Hall_hasTwo {h n : Nat} {i o : Int32} (H : HallS M h) (N : HallN M h n) : Wp none d 8 0 [(0, .ref h), (1, .int i), (2, .int o)] [] M Q = Q (some (.int (bz (hatOk n i ∧ hatOk n o ∧ ¬ i = o)))) M := by
  rw [k8_0, k8_2 H.2.1, Hall_hasHat H N]
  simp only [oN]
  rw [k8_5]
  by_cases c : ¬ i < 0 ∧ ¬ nI n ≤ i
  case neg => rw [if_pos (by rw [bz_eq0]; exact c), k8_25, k8_26 (by decide), bz_f (fun q => c q.1)]
  rw [if_neg (by rw [bz_eq0]; exact fun q => q c), k8_8, k8_10 H.2.1, Hall_hasHat H N]
  simp only [oN]
  rw [k8_13]
  by_cases c2 : ¬ o < 0 ∧ ¬ nI n ≤ o
  case neg => rw [if_pos (by rw [bz_eq0]; exact c2), k8_25, k8_26 (by decide), bz_f (fun q => c2 q.2.1)]
  rw [if_neg (by rw [bz_eq0]; exact fun q => q c2), k8_16, k8_18]
  by_cases c3 : i = o
  · rw [if_pos c3, k8_25, k8_26 (by decide), bz_f (fun q => q.2.2 c3)]
  · rw [if_neg c3, k8_21, k8_26 (by decide), bz_t ⟨c, c2, c3⟩]
theorem i_le {a b : Int32} : a ≤ b ↔ ¬ b < a := by
  rw [fa_le, fa_lt]
  omega
theorem p_two {i o w : Int32} (S : Sim M) (K : Alk d 178 [(0, .ref 126), (1, .int i), (2, .int o), (3, .int w)] M Q) : Wp none d 93 0 [(0, .ref 64), (1, .int i), (2, .int o), (3, .int w)] [] M Q := by
  have kb : kB = 154 := rfl
  obtain ⟨n, nl, lw, X, H, HO, Y⟩ := Sim_get S
  have n7 := Y.n7
  have fin : ∀ v M1, agq QE [76] M M1 → HallZ M1 71 → v = twoG (lawOf (hI M 128 3) lw) n (hI M 66) (hI M 67) (hI M 69) (hI M 65 5) (hI M 65 7) i o w → Q (some (.int v)) M1 := by
    intro v M1 a z hv
    subst hv
    exact qry_end S a z K (fun Q2 h => mTwo (RP_a Y a) h)
  unfold twoG at fin
  have bad : ¬ (hatOk n i ∧ hatOk n o ∧ ¬ i = o ∧ 0 ≤ w ∧ w ≤ 8) → Wp none d 93 22 [(0, .ref 64), (1, .int i), (2, .int o), (3, .int w)] [] M Q := by
    intro c
    rw [if_neg c] at fin
    rw [k93_22]
    exact fin _ M (q_none M) (q_z S) rfl
  rw [x93_0 X, x93_6 X (x_K65 X), Hall_hasTwo X.2.1 HO.2.1]
  simp only [oN]
  rw [k93_9]
  by_cases c : hatOk n i ∧ hatOk n o ∧ ¬ i = o
  case neg =>
    rw [if_pos (by rw [bz_eq0]; exact c)]
    exact bad (fun q => c ⟨q.1, q.2.1, q.2.2.1⟩)
  rw [if_neg (by rw [bz_eq0]; exact fun q => q c), k93_12, k93_13]
  by_cases c2 : w < 0
  · rw [if_pos c2]
    exact bad (fun q => i_le.mp q.2.2.2.1 c2)
  rw [if_neg c2, k93_16, k93_19]
  by_cases c3 : w ≤ 8
  case neg =>
    rw [if_neg c3]
    exact bad (fun q => c3 q.2.2.2.2)
  rw [if_pos ⟨c.1, c.2.1, c.2.2, i_le.mpr c2, c3⟩] at fin
  rw [if_pos c3, k93_24, k93_25]
  obtain ⟨j, hj, rfl⟩ := hatOk_j n7 c.1
  obtain ⟨u, hu, rfl⟩ := hatOk_j n7 c.2.1
  rw [n_cl (by omega), n_cl (by omega)] at fin
  have go : ∀ kd : Int32, (if w = 0 then ansF (lawOf (hI M 128 3) lw) 0 (lwF j (hI M 66) (hI M 67) (hI M 69) (nI u) (hI M 66 u) (-1) (hI M 65 5) (hI M 65 7)) else ansF (lawOf (hI M 128 3) lw) 2 (lwF j (hI M 66) (hI M 67) (hI M 69) (nI u) (hI M 66 u) (w - 1) (hI M 65 5) (hI M 65 7))) = ansF (lawOf (hI M 128 3) lw) kd (lwF j (hI M 66) (hI M 67) (hI M 69) (nI u) (hI M 66 u) (w - 1) (hI M 65 5) (hI M 65 7)) → Wp none d 93 33 [(0, .ref 64), (1, .int (nI j)), (2, .int (nI u)), (3, .int w)] [.int kd] M Q := by
    intro kd ek
    rw [x93_33 X, x93_47 X (x_K65 X)]
    obtain ⟨v, hv, hr, hw⟩ := lawIn_ok X.2.1 HO.2.2.2.2.1
    rw [hw]
    simp only [oM]
    rcases LawV_cases hv with e | ⟨t, e⟩
    · subst e
      rw [k93_50n, k93_57n (x_K116 X)]
      refine answerL (ko := hI M 66 u) (x_N X) X.2.1 hv (by omega) (HO.2.2.2.1 j hj) (Or.inr ⟨u, by omega, rfl, rfl⟩) (by omega) (by omega) (fun M' b => ?_)
      simp only [oN]
      rw [k93_60]
      exact fin _ M' (q_night b) (q_nz S b) ek.symm
    · subst e
      rw [k93_50r, k93_57r (x_K116 X)]
      refine answerL (ko := hI M 66 u) (x_N X) X.2.1 hv (by omega) (HO.2.2.2.1 j hj) (Or.inr ⟨u, by omega, rfl, rfl⟩) (by omega) (by omega) (fun M' b => ?_)
      simp only [oN]
      rw [k93_60]
      exact fin _ M' (q_night b) (q_nz S b) ek.symm
  by_cases c4 : w = 0
  · rw [if_neg (fun q => q c4), k93_28]
    refine go 0 ?_
    rw [if_pos c4, c4]
    rfl
  · rw [if_pos c4, k93_32]
    refine go 2 ?_
    rw [if_neg c4]
theorem p_on {p : Int32} (S : Sim M) (K : Alk d 179 [(0, .ref 126), (1, .int p)] M Q) : Wp none d 94 0 [(0, .ref 64), (1, .int p)] [] M Q := by
  obtain ⟨n, nl, lw, X, H, HO, Y⟩ := Sim_get S
  rw [x94_0 X, x94_5 X (x_K65 X), Hall_hatOn X.2.1 HO.2.1]
  simp only [oN]
  rw [k94_8]
  exact qry_end S (q_none M) (q_z S) K (fun Q2 h => mOn Y HO.2.2.1 h)
theorem p_groups {i : Int32} (S : Sim M) (K : Alk d 247 [(0, .ref 126), (1, .int i)] M Q) : Wp none d 116 0 [(0, .ref 64), (1, .int i)] [] M Q := by
  obtain ⟨n, nl, lw, X, H, HO, Y⟩ := Sim_get S
  have n7 := Y.n7
  have fin : ∀ v, v = groupsG (hI M 68) n i → Q (some (.int v)) M := by
    intro v hv
    subst hv
    exact qry_end S (q_none M) (q_z S) K (fun Q2 h => by rw [mGroups Y HO.2.2.1]; exact h M (Qry_refl M))
  unfold groupsG at fin
  rw [k116_0, k116_2]
  by_cases c : i = -1
  · rw [if_pos c] at fin
    rw [if_neg (fun q => q c), x116_5 X, k116_9 (x_K65 X), Hall_groupCount X.2.1 HO.2.1]
    simp only [oN]
    rw [k116_12]
    exact fin _ rfl
  rw [if_neg c] at fin
  rw [if_pos c, x116_13 X, k116_18 (x_K65 X), Hall_hasHat X.2.1 HO.2.1]
  simp only [oN]
  rw [k116_21]
  by_cases c2 : ¬ i < 0 ∧ ¬ nI n ≤ i
  · rw [if_pos (show hatOk n i from c2)] at fin
    obtain ⟨j, hj, rfl⟩ := hatOk_j n7 c2
    rw [n_cl (by omega)] at fin
    rw [if_neg (by rw [bz_eq0]; exact fun q => q c2), x116_24 X, k116_29 (x_K65 X)]
    rcases HO.2.2.1.1 j hj with z | ⟨q, q1, q2⟩
    · rw [Hall_groupOf_n X.2.1 HO.2.1 hj z]
      simp only [oN]
      rw [k116_32, k116_36]
      exact fin _ (by rw [if_pos (show hI M 68 j = -1 from z)])
    · rw [Hall_groupOf X.2.1 HO.2.1 hj q2 q1]
      simp only [oN]
      rw [k116_32, k116_36]
      exact fin _ (by rw [if_neg (show ¬ hI M 68 j = -1 by rw [show hI M 68 j = nI q from q2, n_m1 (by omega)]; exact id), show hI M 68 j = nI q from q2, n_cl (by omega)])
  · rw [if_neg (show ¬ hatOk n i from c2)] at fin
    rw [if_pos (by rw [bz_eq0]; exact c2), k116_35, k116_36]
    exact fin _ rfl
