variable {d : Nat} {M : hp} {Q : Option Value → hp → Prop}
/-! later(), learns(), still() -/
def PapI (M0 M : hp) (n : Nat) (L : Law) (s : (Nat → Int32) × Int32) : Prop := agq QE [76] M0 M ∧ HallO M 71 n L ∧ hI M 72 = hI M0 66 ∧ hI M 73 = hI M0 67 ∧ hI M 74 = hI M0 68 ∧ hI M 75 = s.1 ∧ hI M 71 5 = s.2 ∧ hI M 71 7 = hI M0 65 7
theorem x_a {M1 : hp} (X : XS M) (a : agq QE [76] M M1) : XS M1 := XS_same (sameS_agq a (by intro x q; simp at q; exact Or.inr (Or.inl q))) X
theorem pap_start {n : Nat} {L : Law} (S : Sim M) (X : XS M) (HO : HallO M 65 n L) (hQ : ∀ M', PapI M M' n L (hI M 69, hI M 65 5) → Q none M') : Wp none d 1 0 [(0, .ref 71), (1, .ref 65)] [] M Q := by
  have kb : kB = 154 := rfl
  refine copy_ok HO X.2.2.1 S.2.1.1 (Or.inl (by omega)) (by omega) (fun M' a l O => hQ M' ⟨agq_mono a (by intro x q; simp [cE, QE] at q ⊢; omega) (by intro x q; simp at q ⊢; exact q), O, l.1 1 (by omega) (by omega), l.1 2 (by omega) (by omega), l.1 3 (by omega) (by omega), l.1 4 (by omega) (by omega), l.2.1 5 (by omega) (by omega), l.2.1 7 (by omega) (by omega)⟩)
theorem hE_q {M1 : hp} (a : agr (hE 116 71) M M1) : agq QE [76] M M1 := agq_of (agr_mono a (by intro x q; simp [hE, nF, QE] at q ⊢; omega))
theorem pap_N {M0 : hp} {n N : Nat} {L : Law} {s : (Nat → Int32) × Int32} (X0 : XS M0) (p : PapI M0 M n L s) (hN : N ≤ 60) (hQ : ∀ M', PapI M0 M' n L (itG L (hI M0 66) (hI M0 67) (hI M0 68) n (hI M0 65 7) N s) → Q none M') : Wp none d 42 0 [(0, .ref 116), (1, .ref 71), (2, .int (nI N))] [] M Q := by
  have kb : kB = 154 := rfl
  obtain ⟨a, O, e1, e2, e3, e4, e5, e6⟩ := p
  refine hours_ok (x_N (x_a X0 a)) O (by omega) (by omega) hN (fun M' b w5 w0 O' => hQ M' ⟨agq_trans a (hE_q b), O', ?_, ?_, ?_, ?_, ?_, ?_⟩)
  · rw [agr_I b (hE_not (by omega) (by omega) (by omega))]; exact e1
  · rw [agr_I b (hE_not (by omega) (by omega) (by omega))]; exact e2
  · rw [agr_I b (hE_not (by omega) (by omega) (by omega))]; exact e3
  · rw [show hI M' 75 = hI M' (71 + 4) from rfl, w5]
    unfold hoursF
    rw [show hI M (71 + 1) = hI M0 66 from e1, show hI M (71 + 2) = hI M0 67 from e2, show hI M (71 + 3) = hI M0 68 from e3, show hI M (71 + 4) = s.1 from e4, e5, e6]
  · rw [w0 5, if_pos rfl, e5, itG_hr]
  · rw [w0 7, if_neg (by decide)]; exact e6
theorem pap_1 {M0 : hp} {n : Nat} {L : Law} {s : (Nat → Int32) × Int32} (X0 : XS M0) (p : PapI M0 M n L s) (hQ : ∀ M', PapI M0 M' n L (stepG L (hI M0 66) (hI M0 67) (hI M0 68) n (hI M0 65 7) s) → Q (some (.int (lrnF (hourG L (hI M0 66) (hI M0 67) (hI M0 68) n (hI M0 65 7) s) n))) M') : Wp none d 40 0 [(0, .ref 116), (1, .ref 71)] [] M Q := by
  have kb : kB = 154 := rfl
  obtain ⟨a, O, e1, e2, e3, e4, e5, e6⟩ := p
  refine hour_ok (x_N (x_a X0 a)) O (by omega) (by omega) (fun M' b w5 w0 O' => ?_)
  have ev : hourT L M 71 n = hourG L (hI M0 66) (hI M0 67) (hI M0 68) n (hI M0 65 7) s := by
    rw [hourT_G, show hI M (71 + 1) = hI M0 66 from e1, show hI M (71 + 2) = hI M0 67 from e2, show hI M (71 + 3) = hI M0 68 from e3, show hI M (71 + 4) = s.1 from e4, e5, e6]
  rw [ev]
  refine hQ M' ⟨agq_trans a (hE_q b), O', ?_, ?_, ?_, ?_, ?_, ?_⟩
  · rw [agr_I b (hE_not (by omega) (by omega) (by omega))]; exact e1
  · rw [agr_I b (hE_not (by omega) (by omega) (by omega))]; exact e2
  · rw [agr_I b (hE_not (by omega) (by omega) (by omega))]; exact e3
  · rw [show hI M' 75 = hI M' (71 + 4) from rfl, w5]
    unfold hoursF
    rw [show hI M (71 + 1) = hI M0 66 from e1, show hI M (71 + 2) = hI M0 67 from e2, show hI M (71 + 3) = hI M0 68 from e3, show hI M (71 + 4) = s.1 from e4, e5, e6]
    rfl
  · rw [w0 5, if_pos rfl, e5]; rfl
  · rw [w0 7, if_neg (by decide)]; exact e6
theorem n_of {N : Int32} {b : Nat} (h0 : ¬ N < 0) (h1 : N ≤ nI b) (hb : b < 2147483648) : ∃ m, m ≤ b ∧ N = nI m := by
  have := cl_nI (i_le.mpr h0)
  refine ⟨N.toNatClampNeg, ?_, this.1⟩
  rw [this.1, n_le this.2 hb] at h1
  exact h1
theorem p_later {i N : Int32} (S : Sim M) (K : Alk d 236 [(0, .ref 126), (1, .int i), (2, .int N)] M Q) : Wp none d 110 0 [(0, .ref 64), (1, .int i), (2, .int N)] [] M Q := by
  obtain ⟨n, nl, lw, X, H, HO, Y⟩ := Sim_get S
  have n7 := Y.n7
  have fin : ∀ v M1, agq QE [76] M M1 → HallZ M1 71 → v = laterF (lawOf (hI M 128 3) lw) n (hI M 66) (hI M 67) (hI M 68) (hI M 69) (hI M 65 5) (hI M 65 7) i N → Q (some (.int v)) M1 := by
    intro v M1 a z hv
    subst hv
    exact qry_end S a z K (fun Q2 h => mLater (RP_a Y a) HO.2.2.1 h)
  unfold laterF at fin
  have bad : ¬ (hatOk n i ∧ 0 ≤ N ∧ N ≤ 60) → Wp none d 110 21 [(0, .ref 64), (1, .int i), (2, .int N)] [] M Q := by
    intro c
    rw [if_neg c] at fin
    rw [k110_21]
    exact fin _ M (q_none M) (q_z S) rfl
  rw [x110_0 X, k110_5 (x_K65 X), Hall_hasHat X.2.1 HO.2.1]
  simp only [oN]
  rw [k110_8]
  by_cases c : ¬ i < 0 ∧ ¬ nI n ≤ i
  case neg =>
    rw [if_pos (by rw [bz_eq0]; exact c)]
    exact bad (fun q => c q.1)
  rw [if_neg (by rw [bz_eq0]; exact fun q => q c), k110_11, k110_12]
  by_cases c2 : N < 0
  · rw [if_pos c2]
    exact bad (fun q => i_le.mp q.2.1 c2)
  rw [if_neg c2, k110_15, k110_18]
  by_cases c3 : N ≤ 60
  case neg =>
    rw [if_neg c3]
    exact bad (fun q => c3 q.2.2)
  rw [if_pos ⟨c, i_le.mpr c2, c3⟩] at fin
  obtain ⟨j, hj, rfl⟩ := hatOk_j n7 c
  obtain ⟨m, hm, rfl⟩ := n_of (b := 60) c2 c3 (by omega)
  rw [n_cl (by omega), n_cl (by omega)] at fin
  rw [if_pos c3, x110_23 X, k110_31 (x_K71 X)]
  refine pap_start S X HO (fun M1 p1 => ?_)
  have X1 := x_a X p1.1
  simp only [oZ]
  rw [x110_34 X1, k110_43 (x_K116 X1)]
  refine pap_N X p1 (by omega) (fun M2 p2 => ?_)
  have X2 := x_a X p2.1
  simp only [oZ]
  rw [x110_46 X2, k110_54, at_7 (x_K75 X2) (by decide) (by omega)]
  simp only [oN]
  rw [k110_57]
  exact fin _ M2 p2.1 p2.2.1.2.2.2.2.2.1 (by rw [p2.2.2.2.2.2.1])
theorem cl_loop {M0 : hp} {n j : Nat} {t : Int32} {L : Law} (X0 : XS M0) (hj : j < 7) (fin : ∀ v M1, agq QE [76] M0 M1 → HallZ M1 71 → v = lnF L (hI M0 66) (hI M0 67) (hI M0 68) n (hI M0 65 7) j t 60 0 (hI M0 69, hI M0 65 5) → Q (some (.int v)) M1) : ∀ (k i : Nat) (s : (Nat → Int32) × Int32) (M : hp), i + k = 60 → PapI M0 M n L s → lnF L (hI M0 66) (hI M0 67) (hI M0 68) n (hI M0 65 7) j t k i s = lnF L (hI M0 66) (hI M0 67) (hI M0 68) n (hI M0 65 7) j t 60 0 (hI M0 69, hI M0 65 5) → Wp none d 111 33 [(0, .ref 64), (1, .int (nI j)), (2, .int t), (3, .int (nI i))] [] M Q := by
  intro k
  induction k with
  | zero =>
    intro i s M e p he
    have X := x_a X0 p.1
    rw [k111_33, k111_36, show (60 : Int32) = nI 60 from rfl, if_neg (by rw [n_lt (by omega) (by omega)]; omega), x111_39 X, k111_45 (x_K71 X), Hall_knowsIt X.2.2.1 hj]
    simp only [oN]
    rw [k111_48, show hI M (71 + 4) = s.1 from p.2.2.2.2.2.1]
    unfold lnF at he
    by_cases c : (s.1 j >>> (t &&& 31)) &&& 1 = 1
    · rw [if_pos (show knw s.1 j t from c)] at he
      rw [if_neg (by rw [bz_eq0]; exact fun q => q c), k111_51]
      exact fin _ M p.1 p.2.1.2.2.2.2.2.1 he
    · rw [if_neg (show ¬ knw s.1 j t from c)] at he
      rw [if_pos (by rw [bz_eq0]; exact c), x111_53 X, k111_61 (x_K116 X)]
      refine pap_1 X0 p (fun M' p' => ?_)
      simp only [oN]
      rw [k111_64, nI_1, k111_33, k111_36, if_pos (by rw [show (60 : Int32) = nI 60 from rfl, n_lt (by omega) (by omega)]; omega), k111_71]
      exact fin _ M' p'.1 p'.2.1.2.2.2.2.2.1 he
  | succ k ih =>
    intro i s M e p he
    have X := x_a X0 p.1
    rw [k111_33, k111_36, show (60 : Int32) = nI 60 from rfl, if_neg (by rw [n_lt (by omega) (by omega)]; omega), x111_39 X, k111_45 (x_K71 X), Hall_knowsIt X.2.2.1 hj]
    simp only [oN]
    rw [k111_48, show hI M (71 + 4) = s.1 from p.2.2.2.2.2.1]
    rw [show lnF L (hI M0 66) (hI M0 67) (hI M0 68) n (hI M0 65 7) j t (k + 1) i s = if knw s.1 j t then nI i else lnF L (hI M0 66) (hI M0 67) (hI M0 68) n (hI M0 65 7) j t k (i + 1) (stepG L (hI M0 66) (hI M0 67) (hI M0 68) n (hI M0 65 7) s) from rfl] at he
    by_cases c : (s.1 j >>> (t &&& 31)) &&& 1 = 1
    · rw [if_pos (show knw s.1 j t from c)] at he
      rw [if_neg (by rw [bz_eq0]; exact fun q => q c), k111_51]
      exact fin _ M p.1 p.2.1.2.2.2.2.2.1 he
    · rw [if_neg (show ¬ knw s.1 j t from c)] at he
      rw [if_pos (by rw [bz_eq0]; exact c), x111_53 X, k111_61 (x_K116 X)]
      refine pap_1 X0 p (fun M' p' => ?_)
      simp only [oN]
      rw [k111_64, nI_1]
      exact ih (i + 1) _ M' (by omega) p' he
theorem p_learns {i t : Int32} (S : Sim M) (K : Alk d 237 [(0, .ref 126), (1, .int i), (2, .int t)] M Q) : Wp none d 111 0 [(0, .ref 64), (1, .int i), (2, .int t)] [] M Q := by
  obtain ⟨n, nl, lw, X, H, HO, Y⟩ := Sim_get S
  have n7 := Y.n7
  have fin : ∀ v M1, agq QE [76] M M1 → HallZ M1 71 → v = learnsF (lawOf (hI M 128 3) lw) n (hI M 66) (hI M 67) (hI M 68) (hI M 69) (hI M 65 5) (hI M 65 7) i t → Q (some (.int v)) M1 := by
    intro v M1 a z hv
    subst hv
    exact qry_end S a z K (fun Q2 h => mLearns (RP_a Y a) HO.2.2.1 h)
  unfold learnsF at fin
  have bad : ¬ (hatOk n i ∧ thOk t) → Wp none d 111 18 [(0, .ref 64), (1, .int i), (2, .int t)] [] M Q := by
    intro c
    rw [if_neg c] at fin
    rw [k111_18]
    exact fin _ M (q_none M) (q_z S) rfl
  rw [x111_0 X, k111_5 (x_K65 X), Hall_hasHat X.2.1 HO.2.1]
  simp only [oN]
  rw [k111_8]
  by_cases c : ¬ i < 0 ∧ ¬ nI n ≤ i
  case neg =>
    rw [if_pos (by rw [bz_eq0]; exact c)]
    exact bad (fun q => c q.1)
  rw [if_neg (by rw [bz_eq0]; exact fun q => q c), k111_11, k111_12, T_isThought]
  simp only [oN]
  rw [k111_15]
  by_cases c2 : ¬ t < 0 ∧ ¬ 8 ≤ t
  case neg =>
    rw [if_neg (by rw [bz_eq0]; exact fun q => q c2)]
    exact bad (fun q => c2 q.2)
  rw [if_pos ⟨c, c2⟩] at fin
  obtain ⟨j, hj, rfl⟩ := hatOk_j n7 c
  rw [n_cl (by omega)] at fin
  rw [if_pos (by rw [bz_eq0]; exact fun q => q c2), x111_20 X, k111_28 (x_K71 X)]
  refine pap_start S X HO (fun M1 p1 => ?_)
  simp only [oZ]
  rw [k111_31]
  exact cl_loop X (by omega) fin 60 0 _ M1 (by omega) p1 rfl
theorem cs_loop {M0 : hp} {n : Nat} {L : Law} (X0 : XS M0) (fin : ∀ v M1, agq QE [76] M0 M1 → HallZ M1 71 → v = stF L (hI M0 66) (hI M0 67) (hI M0 68) n (hI M0 65 7) 60 1 0 (hI M0 69, hI M0 65 5) → Q (some (.int v)) M1) : ∀ (k i : Nat) (v : Int32) (s : (Nat → Int32) × Int32) (M : hp), i + k = 61 → PapI M0 M n L s → stF L (hI M0 66) (hI M0 67) (hI M0 68) n (hI M0 65 7) k i v s = stF L (hI M0 66) (hI M0 67) (hI M0 68) n (hI M0 65 7) 60 1 0 (hI M0 69, hI M0 65 5) → Wp none d 112 15 [(0, .ref 64), (1, .int v), (2, .int (nI i))] [] M Q := by
  intro k
  induction k with
  | zero =>
    intro i v s M e p he
    rw [k112_15, k112_18, show (60 : Int32) = nI 60 from rfl, if_pos (by rw [n_lt (by omega) (by omega)]; omega), k112_43]
    exact fin _ M p.1 p.2.1.2.2.2.2.2.1 he
  | succ k ih =>
    intro i v s M e p he
    have X := x_a X0 p.1
    rw [show stF L (hI M0 66) (hI M0 67) (hI M0 68) n (hI M0 65 7) (k + 1) i v s = stF L (hI M0 66) (hI M0 67) (hI M0 68) n (hI M0 65 7) k (i + 1) (if lrnF (hourG L (hI M0 66) (hI M0 67) (hI M0 68) n (hI M0 65 7) s) n ≤ 0 then v else nI i) (stepG L (hI M0 66) (hI M0 67) (hI M0 68) n (hI M0 65 7) s) from rfl] at he
    rw [k112_15, k112_18, show (60 : Int32) = nI 60 from rfl, if_neg (by rw [n_lt (by omega) (by omega)]; omega), x112_21 X, k112_29 (x_K116 X)]
    refine pap_1 X0 p (fun M' p' => ?_)
    simp only [oN]
    rw [k112_32]
    by_cases c : lrnF (hourG L (hI M0 66) (hI M0 67) (hI M0 68) n (hI M0 65 7) s) n ≤ 0
    · rw [if_pos c] at he
      rw [if_pos c, k112_37, nI_1]
      exact ih (i + 1) v _ M' (by omega) p' he
    · rw [if_neg c] at he
      rw [if_neg c, k112_35, k112_37, nI_1]
      exact ih (i + 1) (nI i) _ M' (by omega) p' he
theorem p_still (S : Sim M) (K : Alk d 238 [(0, .ref 126)] M Q) : Wp none d 112 0 [(0, .ref 64)] [] M Q := by
  obtain ⟨n, nl, lw, X, H, HO, Y⟩ := Sim_get S
  rw [x112_0 X, k112_8 (x_K71 X)]
  refine pap_start S X HO (fun M1 p1 => ?_)
  simp only [oZ]
  rw [k112_11]
  refine cs_loop X (fun v M1 a z hv => ?_) 60 1 0 _ M1 (by omega) p1 rfl
  subst hv
  exact qry_end S a z K (fun Q2 h => mStill (RP_a Y a) HO.2.2.1 h)
