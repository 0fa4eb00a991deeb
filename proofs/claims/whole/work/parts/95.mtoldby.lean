variable {d : Nat} {M : hp} {Q : Option Value → hp → Prop}
/-! the reference's small questions; what one tells another one -/
theorem mIs {x t : Int32} : Wp none d 153 0 [(0, .int x), (1, .int t)] [] M Q = Q (some (.int (bz ((x >>> (t &&& 31)) &&& 1 = 1)))) M := by
  rw [k153_0, k153_6]
  by_cases c : (x >>> (t &&& 31)) &&& 1 = 1
  · rw [if_neg (fun q => q c), k153_9, k153_14 (by decide), bz_t c]
  · rw [if_pos c, k153_13, k153_14 (by decide), bz_f c]
theorem mKnows {n h : Nat} {t : Int32} {D T P W : Nat → Int32} {hr rn : Int32} {L : Law} (X : RP M n D T P W hr rn L) (hh : h < 7) : Wp none d 169 0 [(0, .ref 126), (1, .int (nI h)), (2, .int t)] [] M Q = Q (some (.int (bz ((W h >>> (t &&& 31)) &&& 1 = 1)))) M := by
  have e : (14 : Int32) + nI h = nI (14 + h) := by rw [show (14 : Int32) = nI 14 from rfl, nI_add]
  rw [m169_0 X.F (by rw [e]; exact v54 (by omega)), e, n_cl (by omega), X.rW h hh, k169_10, mIs]
  simp only [oN]
  rw [k169_13 (bz_or _)]
theorem mHung {n h : Nat} {D T P W : Nat → Int32} {hr rn : Int32} {L : Law} (X : RP M n D T P W hr rn L) (hh : h < 7) : Wp none d 168 0 [(0, .ref 126), (1, .int (nI h))] [] M Q = Q (some (.int (bz (¬ P h = -1)))) M := by
  have e : (7 : Int32) + nI h = nI (7 + h) := by rw [show (7 : Int32) = nI 7 from rfl, nI_add]
  rw [m168_0 X.F (by rw [e]; exact v54 (by omega)), e, n_cl (by omega), X.rP h hh, k168_10]
  by_cases c : P h = -1
  · rw [if_pos c, k168_17, k168_18 (by decide), bz_f (fun q => q c)]
  · rw [if_neg c, k168_13, k168_18 (by decide), bz_t c]
/-- two hats hang beside one another -/
abbrev bsd (P : Nat → Int32) (h o : Nat) : Prop := ¬ P h = -1 ∧ ¬ P o = -1 ∧ (P h - P o = 1 ∨ P o - P h = 1)
theorem mBeside {n h o : Nat} {D T P W : Nat → Int32} {hr rn : Int32} {L : Law} (X : RP M n D T P W hr rn L) (hh : h < 7) (ho : o < 7) : Wp none d 171 0 [(0, .ref 126), (1, .int (nI h)), (2, .int (nI o))] [] M Q = Q (some (.int (bz (bsd P h o)))) M := by
  have e : (7 : Int32) + nI h = nI (7 + h) := by rw [show (7 : Int32) = nI 7 from rfl, nI_add]
  have e2 : (7 : Int32) + nI o = nI (7 + o) := by rw [show (7 : Int32) = nI 7 from rfl, nI_add]
  rw [k171_0, k171_2 (m_9 X.F), mHung X hh]
  simp only [oN]
  rw [k171_5]
  by_cases c : P h = -1
  · rw [if_pos (by rw [bz_eq0]; exact fun q => q c), k171_66, k171_67 (by decide), bz_f (fun q => q.1 c)]
  rw [if_neg (by rw [bz_eq0]; exact fun q => q c), k171_8, k171_10 (m_9 X.F), mHung X ho]
  simp only [oN]
  rw [k171_13]
  by_cases c2 : P o = -1
  · rw [if_pos (by rw [bz_eq0]; exact fun q => q c2), k171_66, k171_67 (by decide), bz_f (fun q => q.2.1 c2)]
  rw [if_neg (by rw [bz_eq0]; exact fun q => q c2), m171_16 X.F (by rw [e]; exact v54 (by omega)) (by rw [e2]; exact v54 (by omega)), e, e2, n_cl (by omega), n_cl (by omega), X.rP h hh, X.rP o ho, k171_36]
  by_cases c3 : P h - P o = 1
  · rw [if_pos c3, k171_62, k171_67 (by decide), bz_t ⟨c, c2, Or.inl c3⟩]
  rw [if_neg c3, m171_39 X.F (by rw [e2]; exact v54 (by omega)) (by rw [e]; exact v54 (by omega)), e, e2, n_cl (by omega), n_cl (by omega), X.rP h hh, X.rP o ho, k171_59]
  by_cases c4 : P o - P h = 1
  · rw [if_neg (fun q => q c4), k171_62, k171_67 (by decide), bz_t ⟨c, c2, Or.inr c4⟩]
  · rw [if_pos c4, k171_66, k171_67 (by decide), bz_f (fun q => q.2.2.elim c3 c4)]
theorem mOnPeg {n : Nat} {p : Int32} {D T P W : Nat → Int32} {hr rn : Int32} {L : Law} (X : RP M n D T P W hr rn L) : Wp none d 170 0 [(0, .ref 126), (1, .int p)] [] M Q = Q (some (.int (fo (fun j x => if P j = p then nI j else x) 0 n (-1)))) M := by
  have key := for_up (W := fun i s => Wp none d 170 4 [(0, .ref 126), (1, .int p), (2, .int s), (3, .int (nI i))] [] M Q) (f := fun j x => if P j = p then nI j else x) (n := n) (fun i s hi => by
    have e : (7 : Int32) + nI i = nI (7 + i) := by rw [show (7 : Int32) = nI 7 from rfl, nI_add]
    have h7 := X.n7
    show Wp none d 170 4 [(0, .ref 126), (1, .int p), (2, .int s), (3, .int (nI i))] [] M Q = Wp none d 170 4 [(0, .ref 126), (1, .int p), (2, .int (if P i = p then nI i else s)), (3, .int (nI (i + 1)))] [] M Q
    rw [m170_4 X.F (by decide), show (0 : Int32).toNatClampNeg = 0 from rfl, X.n0, k170_11, if_neg (by rw [n_le (by omega) (by omega)]; omega), m170_14 X.F (by rw [e]; exact v54 (by omega)), e, n_cl (by omega), X.rP i (by omega), k170_24]
    by_cases c : P i = p
    · rw [if_neg (fun q => q c), k170_27, k170_32, if_pos c, nI_1]
    · rw [if_pos c, k170_31, k170_32, if_neg c, nI_1]) n 0 (-1) (by omega)
  have h7 := X.n7
  rw [k170_0]
  refine (show _ = _ from key).trans ?_
  show Wp none d 170 4 [(0, .ref 126), (1, .int p), (2, .int (fo (fun j x => if P j = p then nI j else x) 0 n (-1))), (3, .int (nI n))] [] M Q = _
  rw [m170_4 X.F (by decide), show (0 : Int32).toNatClampNeg = 0 from rfl, X.n0, k170_11, if_pos (by rw [n_le (by omega) (by omega)]; omega), k170_39]
theorem tb_loop {n h o : Nat} {D T P W : Nat → Int32} {hr rn : Int32} {L : Law} {M0 : hp} (X0 : RP M0 n D T P W hr rn L) (hh : h < 7) (ho : o < 7) : ∀ (k t : Nat) (l s : Int32) (M : hp), t + k = 8 → EC M0 M → (∀ M', EC M0 M' → Q (some (.int (tldF (W h &&& (W o ^^^ (-1))) (fun th => ansF L 2 (lwF h D T W (nI o) (D o) (nI th) hr rn)) k t l s))) M') → Wp none d 223 13 [(0, .ref 126), (1, .int (nI h)), (2, .int (nI o)), (3, .int l), (4, .int s), (5, .int (nI t))] [] M Q
  | 0, t, l, s, M, e, b, H => by
    rw [k223_13, k223_17, show (8 : Int32) = nI 8 from rfl, if_pos (by rw [n_le (by omega) (by omega)]; omega), k223_73]
    exact H M b
  | k + 1, t, l, s, M, e, b, H => by
    have X := RP_EC X0 b
    rw [k223_13, k223_17, show (8 : Int32) = nI 8 from rfl, if_neg (by rw [n_le (by omega) (by omega)]; omega), k223_20, k223_21]
    unfold tldF at H
    by_cases c0 : l ≤ 0
    · rw [if_pos c0, k223_73]
      rw [if_pos c0] at H
      exact H M b
    rw [if_neg c0] at H
    have no : ∀ M1, EC M0 M1 → ¬ ((W h &&& (W o ^^^ (-1))) >>> (nI t &&& 31) &&& 1 = 1 ∧ ansF L 2 (lwF h D T W (nI o) (D o) (nI t) hr rn) = 0) → Wp none d 223 67 [(0, .ref 126), (1, .int (nI h)), (2, .int (nI o)), (3, .int l), (4, .int s), (5, .int (nI t))] [] M1 Q := by
      intro M1 b1 c
      rw [if_neg c] at H
      rw [k223_67, nI_1]
      exact tb_loop X0 hh ho k (t + 1) l s M1 (by omega) b1 H
    rw [if_neg c0, k223_24, k223_28 (m_9 X.F), mKnows X hh]
    simp only [oN]
    rw [k223_31]
    by_cases c1 : (W h >>> (nI t &&& 31)) &&& 1 = 1
    · rw [if_neg (by rw [bz_eq0]; exact fun q => q c1), k223_34, k223_38 (m_9 X.F), mKnows X ho]
      simp only [oN]
      rw [k223_41]
      by_cases c2 : (W o >>> (nI t &&& 31)) &&& 1 = 1
      · rw [if_pos (by rw [bz_eq0]; exact fun q => q c2)]
        exact no M b (fun q => ((tst_open (by omega)).mp q.1).2 c2)
      · rw [if_neg (by rw [bz_eq0]; exact fun q => q c2), k223_44, k223_49 (m_9 X.F)]
        refine mBarred X hh ho (fun M1 b1 => ?_)
        simp only [oN]
        rw [k223_52]
        by_cases c3 : ansF L 2 (lwF h D T W (nI o) (D o) (nI t) hr rn) = 0
        · rw [if_neg (fun q => q c3), k223_55, k223_67, nI_1, n_addm1]
          rw [if_pos ⟨(tst_open (by omega)).mpr ⟨c1, c2⟩, c3⟩] at H
          exact tb_loop X0 hh ho k (t + 1) (l - 1) _ M1 (by omega) (EC_trans b b1) H
        · rw [if_pos c3]
          exact no M1 (EC_trans b b1) (fun q => c3 q.2)
    · rw [if_pos (by rw [bz_eq0]; exact c1)]
      exact no M b (fun q => c1 ((tst_open (by omega)).mp q.1).1)
theorem tldF_0 (bar : Nat → Int32) : ∀ (k t : Nat) (l s : Int32), t + k = 8 → tldF 0 bar k t l s = s
  | 0, _, _, _, _ => rfl
  | k + 1, t, l, s, e => by
    unfold tldF
    have z : ¬ ((0 : Int32) >>> (nI t &&& 31)) &&& 1 = 1 := by rw [tst (by omega), b_0]; decide
    by_cases c : l ≤ 0
    · rw [if_pos c]
    · rw [if_neg c, if_neg (fun q => z q.1)]
      exact tldF_0 bar k (t + 1) l s (by omega)
theorem mToldBy {n h o : Nat} {D T P W : Nat → Int32} {hr rn : Int32} {L : Law} (X : RP M n D T P W hr rn L) (hh : h < 7) (ho : o < 7) (H : ∀ M', EC M M' → Q (some (.int (toldG L D T W hr rn h o))) M') : Wp none d 223 0 [(0, .ref 126), (1, .int (nI h)), (2, .int (nI o))] [] M Q := by
  have e : toldG L D T W hr rn h o = tldF (W h &&& (W o ^^^ (-1))) (fun th => ansF L 2 (lwF h D T W (nI o) (D o) (nI th) hr rn)) 8 0 (ansF L 0 (lwF h D T W (nI o) (D o) (-1) hr rn)) 0 := by
    unfold toldG
    by_cases c : W h &&& (W o ^^^ (-1)) = 0
    · rw [if_pos c, c, tldF_0 _ _ _ _ _ (by omega)]
    · rw [if_neg c]
  rw [e] at H
  rw [k223_0, k223_3 (m_9 X.F)]
  refine mTells X hh ho (fun M1 b1 => ?_)
  simp only [oN]
  rw [k223_6]
  exact tb_loop X hh ho 8 0 _ 0 M1 (by omega) b1 H
