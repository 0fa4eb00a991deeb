variable {d : Nat} {M : hp} {Q : Option Value → hp → Prop}
/-! hangNow(), takeNow(), thinkNow(), passNow() of the reference -/
def RAE : List Nat := [126, 128, 131, 132, 144, 146, 147]
def RfA (M0 M : hp) (n : Nat) (D T : Nat → Int32) (rn lk : Int32) (L : Law) (s : ASt) : Prop := RP M n D T s.1 s.2.1 s.2.2.1 rn L ∧ hI M 128 5 = lk ∧ RfU M lk rn s.2.2.2 ∧ agr RAE M0 M ∧ (∀ k, ¬ k = 8 → ¬ k = 34 → ¬ k = 38 → hI M 126 k = hI M0 126 k) ∧ (∀ k, ¬ k = 39 → ¬ k = 40 → hL M 126 k = hL M0 126 k) ∧ (∀ l, ¬ l = 4 → ¬ (7 ≤ l ∧ l < 21) → hI M 128 l = hI M0 128 l) ∧ ∀ l, 289 ≤ l → hI M 131 l = hI M0 131 l
theorem RP_know {n j : Nat} {v : Int32} {D T P W : Nat → Int32} {hr rn : Int32} {L : Law} (X : RP M n D T P W hr rn L) (hj : j < 7) : RP (sI M 128 (14 + j) v) n D T P (updI W j v) hr rn L :=
  ⟨X.F, by rw [hI_sI_a (by decide)]; exact X.o20, by rw [hI_sI_a (by decide)]; exact X.o0, MLaw_47 X.law (hI_sI_k (by omega)) (fun l hl => hI_sI_k (by omega)), by rw [hI_sI_k (by omega)]; exact X.n0, X.n7, fun i hi => by rw [hI_sI_k (by omega)]; exact X.rD i hi, fun i hi => by rw [hI_sI_k (by omega)]; exact X.rT i hi, fun i hi => by rw [hI_sI_k (by omega)]; exact X.rP i hi, fun i hi => by
    unfold updI
    by_cases c : i = j
    · rw [c, if_pos rfl, hI_sI_s]
    · rw [if_neg c, hI_sI_k (by omega)]; exact X.rW i hi, by rw [hI_sI_k (by omega)]; exact X.rh, by rw [hI_sI_k (by omega)]; exact X.rr⟩
theorem RfU_fr {M' : hp} {lk rn : Int32} {u : USt} (U : RfU M lk rn u) (e8 : hI M' 126 8 = hI M 126 8) (e131 : ∀ l, l < 272 → hI M' 131 l = hI M 131 l) (e132 : hI M' 132 = hI M 132) : RfU M' lk rn u := by
  obtain ⟨u1, u2, u3⟩ := U
  exact ⟨e8.trans u1, u2, fun k hk => EntR_fr (u3 k hk) (fun i hi => e131 _ (by omega)) (by rw [e132])⟩
/-- what is remembered, in the relation -/
theorem rem_ok {M0 : hp} {n v : Nat} {D T : Nat → Int32} {rn lk : Int32} {L : Law} {s : ASt} (A : RfA M0 M n D T rn lk L s) (hQ : ∀ M', RfA M0 M' n D T rn lk L (s.1, s.2.1, s.2.2.1, pushU (s.1, s.2.1, s.2.2.1, nI v) s.2.2.2) → Q none M') : Wp none d 161 0 [(0, .ref 126), (1, .int (nI v))] [] M Q := by
  obtain ⟨Y, h5, U, a, e1, e2, e3, e4⟩ := A
  refine mRemember Y h5 U (fun M' b bL g1 g2 U' => hQ M' ⟨RP_of Y (MF_agr Y.F b) (agr_I b (by decide)) ((g1 20 (by decide)).trans Y.o20) ((g1 0 (by decide)).trans Y.o0), by rw [agr_I b (a := 128) (by decide)]; exact h5, U', agr_trans a (agr_mono b (by intro x q; simp [RAE] at q ⊢; omega)), fun k q1 q2 q3 => (g1 k q1).trans (e1 k q1 q2 q3), fun k q1 q2 => by rw [bL]; exact e2 k q1 q2, fun l q1 q2 => by rw [agr_I b (a := 128) (by decide)]; exact e3 l q1 q2, fun l hl => (g2 l hl).trans (e4 l hl)⟩)
theorem mCanHang {n j q : Nat} {D T P W : Nat → Int32} {hr rn : Int32} {L : Law} (Y : RP M n D T P W hr rn L) (HP : PegS P n) (hj : j < 7) (hq : q < 10) : Wp none d 225 0 [(0, .ref 126), (1, .int (nI j)), (2, .int (nI q))] [] M Q = Q (some (.int (bz (P j = -1 ∧ hatF n P (nI q) = -1)))) M := by
  have n7 := Y.n7
  rw [k225_0, k225_2 (m_9 Y.F), mHung Y hj]
  simp only [oN]
  rw [k225_5]
  by_cases c : P j = -1
  · rw [if_neg (by rw [bz_f (fun z => z c)]; exact fun z => z rfl), k225_8, k225_10 (m_9 Y.F), mOnPeg Y, hat_last HP n7 hq]
    simp only [oN]
    rw [k225_13, k225_14]
    by_cases c2 : hatF n P (nI q) = -1
    · rw [if_neg (fun z => z c2), k225_17, k225_22 (by decide), bz_t ⟨c, c2⟩]
    · rw [if_pos c2, k225_21, k225_22 (by decide), bz_f (fun z => c2 z.2)]
  · rw [if_pos (by rw [bz_t c]; decide), k225_21, k225_22 (by decide), bz_f (fun z => c z.1)]
theorem RfA_st {M0 : hp} {n : Nat} {D T : Nat → Int32} {rn lk : Int32} {L : Law} {s s' : ASt} {M' : hp} (A : RfA M0 M n D T rn lk L s) (Y : RP M' n D T s'.1 s'.2.1 s'.2.2.1 rn L) (eu : s'.2.2.2 = s.2.2.2) (b : EX [147, 128] M M') (h : ∀ l, ¬ l = 4 → ¬ (7 ≤ l ∧ l < 21) → hI M' 128 l = hI M 128 l) : RfA M0 M' n D T rn lk L s' := by
  obtain ⟨_, h5, U, a, e1, e2, e3, e4⟩ := A
  have e131 : hI M' 131 = hI M 131 := agr_I b.1 (by decide)
  refine ⟨Y, (h 5 (by decide) (by decide)).trans h5, ?_, agr_trans a (agr_mono b.1 (by intro x q; simp [RAE] at q ⊢; omega)), fun k q1 q2 q3 => (b.2.1 k q2 q3).trans (e1 k q1 q2 q3), fun k q1 q2 => (b.2.2 k q1 q2).trans (e2 k q1 q2), fun l q1 q2 => (h l q1 q2).trans (e3 l q1 q2), fun l hl => by rw [e131]; exact e4 l hl⟩
  rw [eu]
  exact RfU_fr U (b.2.1 8 (by decide) (by decide)) (fun l _ => by rw [e131]) (agr_I b.1 (by decide))
theorem mHangNow {M0 : hp} {n : Nat} {D T : Nat → Int32} {rn lk : Int32} {L : Law} {hat num : Int32} {s : ASt} (A : RfA M0 M n D T rn lk L s) (W : WFa n s) (H1 : ¬ whyA n (nI 0) hat num s = 0 → Q (some (.int (whyA n (nI 0) hat num s))) M) (H0 : whyA n (nI 0) hat num s = 0 → ∀ M', RfA M0 M' n D T rn lk L (doA n D T rn L (nI 0) hat num s).2 → Q (some (.int (doA n D T rn L (nI 0) hat num s).1)) M') : Wp none d 226 0 [(0, .ref 126), (1, .int hat), (2, .int num)] [] M Q := by
  have Y := A.1
  have n7 := Y.n7
  have F := Y.F
  have z3 : ¬ nI 0 = 3 := by decide
  have z0 : nI 0 = 0 := rfl
  have e2 : ∀ t, badN (nI 0) t ↔ ¬ (¬ t < 0 ∧ ¬ 10 ≤ t) := fun t => ⟨fun b => b.elim (fun z => z.2) (fun z => absurd z.1 (by decide)), fun b => Or.inl ⟨z0, b⟩⟩
  unfold whyA at H1 H0
  rw [if_neg z3] at H1 H0
  rw [k226_0, k226_1, mIsPeg]
  simp only [oN]
  rw [k226_4]
  by_cases c1 : ¬ num < 0 ∧ ¬ 10 ≤ num
  case neg =>
    rw [if_pos ((e2 num).mpr c1)] at H1
    rw [if_neg (by rw [bz_eq0]; exact fun q => q c1), k226_7]
    exact H1 (by decide)
  rw [if_neg (fun b => (e2 num).mp b c1)] at H1 H0
  rw [if_pos (by rw [bz_eq0]; exact fun q => q c1), k226_9, k226_11 (m_9 F), mIsHat Y]
  simp only [oN]
  rw [k226_14]
  by_cases c2 : ¬ hat < 0 ∧ ¬ nI n ≤ hat
  case neg =>
    rw [if_pos (show ¬ hatOk n hat from c2)] at H1
    rw [if_neg (by rw [bz_eq0]; exact fun q => q c2), k226_17]
    exact H1 (by decide)
  rw [if_neg (fun q => q (show hatOk n hat from c2))] at H1 H0
  obtain ⟨j, hj, rfl⟩ := hatOk_j n7 c2
  obtain ⟨q, hq, rfl⟩ := (vin_of2 (n := 10) c1.1 c1.2 (by omega)).2
  rw [n_cl (by omega)] at H1 H0
  unfold canA at H1 H0
  simp only [if_pos z0] at H1 H0
  rw [if_pos (by rw [bz_eq0]; exact fun q => q c2), k226_20, k226_23 (m_9 F), mCanHang Y W.1 (by omega) hq]
  simp only [oN]
  rw [k226_26]
  by_cases c3 : s.1 j = -1 ∧ hatF n s.1 (nI q) = -1
  case neg =>
    rw [if_neg c3] at H1
    rw [if_neg (by rw [bz_eq0]; exact fun z => z c3), k226_29]
    exact H1 (by decide)
  rw [if_pos c3] at H0
  have H0 := H0 rfl
  have e7 : (7 : Int32) + nI j = nI (7 + j) := by rw [show (7 : Int32) = nI 7 from rfl, nI_add]
  rw [if_pos (by rw [bz_eq0]; exact fun z => z c3), k226_32, k226_34 (m_9 F), show (0 : Int32) = nI 0 from rfl]
  refine rem_ok A (fun M1 A1 => ?_)
  have Y1 := A1.1
  have F2 : MF (sI M1 128 (7 + j) (nI q)) := Y1.F
  have Y2 := RP_peg (v := nI q) Y1 (show j < 7 by omega)
  have HP2 : PegS (updI s.1 j (nI q)) n := hat_free W.1 n7 hj hq (Or.inl c3.2)
  simp only [oZ]
  rw [m226_37 Y1.F (by rw [e7]; exact v54 (by omega)), e7, n_cl (by omega), k226_47, k226_49 (m_9 F2), mBesideOf Y2 HP2 hj]
  simp only [oN]
  have eb : (if updI s.1 j (nI q) j = -1 then 0 else atG (fun _ => 1) (hatF n (updI s.1 j (nI q)) (updI s.1 j (nI q) j - 1)) + atG (fun _ => 1) (hatF n (updI s.1 j (nI q)) (updI s.1 j (nI q) j + 1))) = besC n (updI s.1 j (nI q)) j := by
    rw [if_neg (by rw [updI_s, n_m1 (by omega)]; exact id)]
    rfl
  rw [eb, k226_52]
  unfold doA at H0
  rw [if_pos z0, n_cl (by omega)] at H0
  exact H0 _ (RfA_st A1 Y2 rfl (EX_sI (by decide) (by decide)) (fun l q1 q2 => hI_sI_k (by omega)))
theorem mTakeNow {M0 : hp} {n : Nat} {D T : Nat → Int32} {rn lk : Int32} {L : Law} {hat num : Int32} {s : ASt} (A : RfA M0 M n D T rn lk L s) (W : WFa n s) (H1 : ¬ whyA n (nI 1) hat num s = 0 → Q (some (.int (whyA n (nI 1) hat num s))) M) (H0 : whyA n (nI 1) hat num s = 0 → ∀ M', RfA M0 M' n D T rn lk L (doA n D T rn L (nI 1) hat num s).2 → Q (some (.int (doA n D T rn L (nI 1) hat num s).1)) M') : Wp none d 228 0 [(0, .ref 126), (1, .int hat)] [] M Q := by
  have Y := A.1
  have n7 := Y.n7
  have F := Y.F
  have z0 : ¬ nI 1 = 0 := by decide
  have z1 : nI 1 = 1 := rfl
  unfold whyA at H1 H0
  rw [if_neg (by decide), if_neg (fun b => b.elim (fun z => z0 z.1) (fun z => absurd z.1 (by decide)))] at H1 H0
  rw [k228_0, k228_2 (m_9 F), mIsHat Y]
  simp only [oN]
  rw [k228_5]
  by_cases c2 : ¬ hat < 0 ∧ ¬ nI n ≤ hat
  case neg =>
    rw [if_pos (show ¬ hatOk n hat from c2)] at H1
    rw [if_neg (by rw [bz_eq0]; exact fun q => q c2), k228_8]
    exact H1 (by decide)
  rw [if_neg (fun q => q (show hatOk n hat from c2))] at H1 H0
  obtain ⟨j, hj, rfl⟩ := hatOk_j n7 c2
  rw [n_cl (by omega)] at H1 H0
  unfold canA at H1 H0
  simp only [if_neg z0, if_pos z1] at H1 H0
  rw [if_pos (by rw [bz_eq0]; exact fun q => q c2), k228_11, k228_13 (m_9 F), mHung Y (by omega)]
  simp only [oN]
  rw [k228_16]
  by_cases c3 : ¬ s.1 j = -1
  case neg =>
    rw [if_neg c3] at H1
    rw [if_neg (by rw [bz_eq0]; exact fun z => z c3), k228_19]
    exact H1 (by decide)
  rw [if_pos c3] at H0
  have H0 := H0 rfl
  have e7 : (7 : Int32) + nI j = nI (7 + j) := by rw [show (7 : Int32) = nI 7 from rfl, nI_add]
  rw [if_pos (by rw [bz_eq0]; exact fun z => z c3), k228_22, k228_24 (m_9 F), show (1 : Int32) = nI 1 from rfl]
  refine rem_ok A (fun M1 A1 => ?_)
  have Y1 := A1.1
  have Y2 := RP_peg (v := -1) Y1 (show j < 7 by omega)
  simp only [oZ]
  rw [m228_27 Y1.F (by rw [e7]; exact v54 (by omega)), e7, n_cl (by omega), Y1.rP j (by omega), k228_47]
  unfold doA at H0
  rw [if_neg z0, if_pos z1, n_cl (by omega)] at H0
  exact H0 _ (RfA_st A1 Y2 rfl (EX_sI (by decide) (by decide)) (fun l q1 q2 => hI_sI_k (by omega)))
theorem mThinkNow {M0 : hp} {n : Nat} {D T : Nat → Int32} {rn lk : Int32} {L : Law} {hat num : Int32} {s : ASt} (A : RfA M0 M n D T rn lk L s) (W : WFa n s) (H1 : ¬ whyA n (nI 2) hat num s = 0 → Q (some (.int (whyA n (nI 2) hat num s))) M) (H0 : whyA n (nI 2) hat num s = 0 → ∀ M', RfA M0 M' n D T rn lk L (doA n D T rn L (nI 2) hat num s).2 → Q (some (.int (doA n D T rn L (nI 2) hat num s).1)) M') : Wp none d 230 0 [(0, .ref 126), (1, .int hat), (2, .int num)] [] M Q := by
  have Y := A.1
  have n7 := Y.n7
  have F := Y.F
  have z0 : ¬ nI 2 = 0 := by decide
  have z1 : ¬ nI 2 = 1 := by decide
  have z2 : nI 2 = 2 := rfl
  have e2 : ∀ t, badN (nI 2) t ↔ ¬ thOk t := fun t => ⟨fun b => b.elim (fun z => absurd z.1 z0) (fun z => z.2), fun b => Or.inr ⟨z2, b⟩⟩
  unfold whyA at H1 H0
  rw [if_neg (by decide)] at H1 H0
  rw [k230_0, k230_1, mIsThought]
  simp only [oN]
  rw [k230_4]
  by_cases c1 : ¬ num < 0 ∧ ¬ 8 ≤ num
  case neg =>
    rw [if_pos ((e2 num).mpr c1)] at H1
    rw [if_neg (by rw [bz_eq0]; exact fun q => q c1), k230_7]
    exact H1 (by decide)
  rw [if_neg (fun b => (e2 num).mp b c1)] at H1 H0
  rw [if_pos (by rw [bz_eq0]; exact fun q => q c1), k230_9, k230_11 (m_9 F), mIsHat Y]
  simp only [oN]
  rw [k230_14]
  by_cases c2 : ¬ hat < 0 ∧ ¬ nI n ≤ hat
  case neg =>
    rw [if_pos (show ¬ hatOk n hat from c2)] at H1
    rw [if_neg (by rw [bz_eq0]; exact fun q => q c2), k230_17]
    exact H1 (by decide)
  rw [if_neg (fun q => q (show hatOk n hat from c2))] at H1 H0
  obtain ⟨j, hj, rfl⟩ := hatOk_j n7 c2
  rw [n_cl (by omega)] at H1 H0
  unfold canA at H1 H0
  simp only [if_neg z0, if_neg z1] at H1 H0
  rw [if_pos (by rw [bz_eq0]; exact fun q => q c2), k230_20, k230_23 (m_9 F), mKnows Y (by omega)]
  simp only [oN]
  rw [k230_26]
  by_cases c3 : ¬ (s.2.1 j >>> (num &&& 31)) &&& 1 = 1
  case neg =>
    rw [if_neg c3] at H1
    rw [if_neg (by rw [bz_eq0]; exact c3), k230_29]
    exact H1 (by decide)
  rw [if_pos c3] at H0
  have H0 := H0 rfl
  have e14 : (14 : Int32) + nI j = nI (14 + j) := by rw [show (14 : Int32) = nI 14 from rfl, nI_add]
  rw [if_pos (by rw [bz_eq0]; exact c3), k230_32, k230_34 (m_9 F), show (2 : Int32) = nI 2 from rfl]
  refine rem_ok A (fun M1 A1 => ?_)
  have Y1 := A1.1
  have F2 : MF (sI M1 128 (14 + j) (s.2.1 j ||| ((1 : Int32) <<< (num &&& 31)))) := Y1.F
  have Y2 := RP_know (v := s.2.1 j ||| ((1 : Int32) <<< (num &&& 31))) Y1 (show j < 7 by omega)
  simp only [oZ]
  rw [m230_37 Y1.F (by rw [e14]; exact v54 (by omega)), e14, n_cl (by omega), Y1.rW j (by omega), m230_52 F2 (by rw [e14]; exact v54 (by omega)), e14, n_cl (by omega), hI_sI_s, k230_61, mMany]
  simp only [oN]
  rw [k230_64]
  unfold doA at H0
  rw [if_neg z0, if_neg z1, if_pos z2, n_cl (by omega)] at H0
  exact H0 _ (RfA_st A1 Y2 rfl (EX_sI (by decide) (by decide)) (fun l q1 q2 => hI_sI_k (by omega)))
theorem mPassNow {M0 : hp} {n : Nat} {D T : Nat → Int32} {rn lk : Int32} {L : Law} {hat num : Int32} {s : ASt} (A : RfA M0 M n D T rn lk L s) (W : WFa n s) (H1 : ¬ whyA n (nI 3) hat num s = 0 → Q (some (.int (whyA n (nI 3) hat num s))) M) (H0 : whyA n (nI 3) hat num s = 0 → ∀ M', RfA M0 M' n D T rn lk L (doA n D T rn L (nI 3) hat num s).2 → Q (some (.int (doA n D T rn L (nI 3) hat num s).1)) M') : Wp none d 233 0 [(0, .ref 126)] [] M Q := by
  have Y := A.1
  have n7 := Y.n7
  have F := Y.F
  unfold whyA at H1 H0
  rw [if_pos (show nI 3 = 3 from rfl)] at H1 H0
  obtain ⟨x, x1, x2⟩ := W.2.2.1
  rw [m233_0 F (by decide), show (4 : Int32).toNatClampNeg = 4 from rfl, Y.rh, k233_9]
  by_cases c : s.2.2.1 = 999
  · rw [if_neg (by rw [c]; decide)] at H1
    rw [if_neg (fun q => q c), k233_12]
    exact H1 (by decide)
  have hlt : s.2.2.1 < 999 := by
    rw [x2, show (999 : Int32) = nI 999 from rfl, n_eq (by omega) (by omega)] at c
    rw [x2, show (999 : Int32) = nI 999 from rfl, n_lt (by omega) (by omega)]
    omega
  rw [if_pos hlt] at H0
  have H0 := H0 rfl
  rw [if_pos c, k233_15, k233_17 (m_9 F), show (3 : Int32) = nI 3 from rfl]
  refine rem_ok A (fun M1 A1 => ?_)
  have Y1 := A1.1
  simp only [oZ]
  rw [k233_20, k233_21 (m_9 Y1.F)]
  refine mHour Y1 W.1 (fun M2 b Y2 fr => ?_)
  simp only [oN]
  rw [k233_24]
  unfold doA at H0
  rw [if_neg (by decide), if_neg (by decide), if_neg (by decide)] at H0
  exact H0 _ (RfA_st A1 Y2 rfl b (fun l q1 q2 => fr l q1 (fun z => q2 ⟨by omega, z.2⟩)))
