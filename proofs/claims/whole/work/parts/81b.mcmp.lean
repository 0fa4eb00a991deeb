variable {d : Nat} {M : hp} {Q : Option Value → hp → Prop}
/-- behind a sum in a test, to where a comparison is asked for -/
theorem bs_test {M' : hp} {b : Nat → Nat} {L s1 n1 k c' p1 : Nat} {o : Bool} (F' : MF M') (T' : TR M' b L) (P' : PS M' b L o s1 n1 k c' p1) (ex : exS b L s1) (hi : ¬ inF (hI M' 139) p1 = nI 32) : Wp none d 207 0 [(0, .ref 126), (1, .int 1)] [] M' Q = Wp none d 207 164 [(0, .ref 126), (1, .int 1), (2, .int (-1)), (3, .int (inF (hI M' 139) p1))] [.ref 126] M' Q := by
  have hcp := P'.2.2.2.2.2.2.2.2.1
  have hs1 := P'.1.2.2.2.2
  have L4 := T'.2.1
  rw [bs_head F' T' P'.1, ex]
  show Wp none d 207 97 [(0, .ref 126), (1, .int 1), (2, .int (-1))] [] M' Q = _
  rw [k207_97, m207_98 F', inner_ok F' P'.2.2.2.2.2.1 (by omega)]
  simp only [oN]
  rw [k207_101, k207_105, if_pos (show ¬ inF (hI M' 139) p1 = 32 from hi), k207_152, k207_154, k207_157, k207_158, if_pos (show ¬ (1 : Int32) = 0 by decide), k207_163]
  split <;> rfl
/-- a comparison's sign -/
theorem bs_cmp {M0 M' M1 : hp} {b : Nat → Nat} {L s n k c p s1 n1 p1 c1 : Nat} {o : Bool} {D : Den} (F : MF M0) (T : TR M0 b L) (h : MSet 5 M0 M' M1 b L o s n k c p s1 n1 p1 c1 D) (ex : exS b L s1) (hb : Tb M0 p 4) (hi : ¬ inF (hI M0 139) p = nI 32) (hN : cmpO b L s1 = none → ∀ t, WL d 1 Q t (badM M' s1)) (hY : ∀ v, 25 ≤ v → v ≤ 27 → cmpO b L s1 = some (nI (v - 18)) → ∀ M2, tkS (mpush M1 p (nI v) (nI 0)) M2 → NTk M2 b L (nx b L s1) → WL d 1 Q 1 M2) : WL d 1 Q 3 M' := by
  have L4 := T.2.1
  have hin := MSet_in h
  obtain ⟨⟨c', P'⟩, h2, ok, fr, pn, ar, pb⟩ := h
  have F' := MF_pFr F fr
  have T' := TR_pFr T fr
  have K' := P'.1
  have hcp := P'.2.2.2.2.2.2.2.2.1
  have hs1 := K'.2.2.2.2
  refine WL_3 F' P'.2.1 ?_
  rw [bs_test F' T' P' ex (by rw [hin.1]; exact hi)]
  obtain ⟨v0, w1, w2, w3⟩ := isCompared_ok F' P'.2.2.2.2.2.1 (by omega)
  have hv0 : v0 = 0 := by
    rcases w1 with w1 | w1
    · exact w1
    · exact absurd (w2.mp w1) (by rw [hin.2]; exact cmF_no hb)
  generalize inF (hI M' 139) p1 = x3 at *
  rw [m207_164 F', w3]
  simp only [oN]
  rw [k207_167, if_pos hv0, k207_172, m207_175 F', show (60 : Int32) = nI 60 from rfl, mS (c := 60) F' T' K' (by omega)]
  simp only [oN]
  rw [k207_178, bzi, k207_181, k207_186, m207_189 F', show (62 : Int32) = nI 62 from rfl, mS (c := 62) F' T' K' (by omega)]
  simp only [oN]
  rw [k207_192, bzi, k207_195, k207_200]
  have yes : ∀ v, 25 ≤ v → v ≤ 27 → cmpO b L s1 = some (nI (v - 18)) → Wp none d 207 224 [(0, .ref 126), (1, .int 1), (2, .int (nI v)), (3, .int x3)] [.int 1, .ref 126] M' (WR d 1 Q) := by
    intro v v1 v2 hc
    have hsl := (cmp_v hc).2
    have hnx := nx_gt (b := b) hsl
    rw [m207_224 F']
    refine must_y F' T' K' P'.2.1 (by decide) ?_
    intro M2 t2 K2
    have F2 := MF_agr F' t2.1
    simp only [oZ]
    rw [m207_227 F2, t2.2.1 19 (by decide) (by decide) (by decide), P'.2.1, k207_231, if_neg (by decide), k207_234, m207_236 F2, show (5 : Int32) = nI 5 from rfl]
    obtain ⟨M3, t3, te, st⟩ := pn M2 t2
    refine st 5 d _ (by omega) ?_
    have K3 := NTk_tokE K2 te
    have ok3 := MOk_tk ok t3 K3 (Nat.le_of_lt hnx)
    have F3 := MF_pFr F ok3.1
    have P3 := ok3.2.1
    have hcp1 := ok.2.1.2.2.2.2.2.2.2.2.1
    have tb3 : Tb M3 p 5 := by
      rcases Tb_le hb (show 4 ≤ 5 by omega) with hb | ⟨w, w1, w2, w3, w4⟩
      · exact Or.inl hb
      · rcases Nat.eq_zero_or_pos p with z | z
        · exact Or.inl z
        · exact Or.inr ⟨w, w1, w2, by rw [(ok3.2.2.2.1 (p - 1) (by omega)).1]; exact w3, w4⟩
    rw [settle_stop F3 P3.2.2.2.2.2.1 (by omega) (by omega) tb3]
    simp only [oZ]
    rw [k207_239, m207_242 F3, show (0 : Int32) = nI 0 from rfl, mpush_ok F3 P3.2.2.2.2.2.1 (by omega)]
    simp only [oZ]
    rw [k207_245]
    exact hY v v1 v2 hc _ (tkS_both (tkS_both (tkS_both t3 _ _ _) _ _ _) _ _ _) (NTk_fr K3 (mpush_f (by decide)) (mpush_f (by decide)) (mpush_f (by decide)) rfl)
  by_cases z1 : sg b L s1 60
  · rw [if_neg (fun z => z z1), k207_202, k207_207, if_pos (by decide), k207_219]
    exact yes 25 (by omega) (by omega) (by unfold cmpO; rw [if_pos z1]; rfl)
  · rw [if_pos z1]
    by_cases z2 : sg b L s1 62
    · rw [if_neg (fun z => z z2), k207_202, k207_207, if_pos (by decide), k207_219]
      exact yes 26 (by omega) (by omega) (by unfold cmpO; rw [if_neg z1, if_pos z2]; rfl)
    · rw [if_pos z2, k207_202, k207_207, if_neg (by decide), k207_210, m207_213 F', show (61 : Int32) = nI 61 from rfl, mS (c := 61) F' T' K' (by omega)]
      simp only [oM]
      rw [k207_216, bzi]
      by_cases z3 : sg b L s1 61
      · rw [if_neg (fun z => z z3), k207_219]
        exact yes 27 (by omega) (by omega) (by unfold cmpO; rw [if_neg z1, if_neg z2, if_pos z3]; rfl)
      · have e : cmpO b L s1 = none := by unfold cmpO; rw [if_neg z1, if_neg z2, if_neg z3]
        have F1 : MF (badM M' s1) := F'
        rw [if_pos z3, k207_223, m207_224 F', must_n F' K' P'.2.1]
        simp only [oZ]
        show Wp none d 207 227 [(0, .ref 126), (1, .int 1), (2, .int 27), (3, .int x3)] [] (badM M' s1) (WR d 1 Q)
        rw [m207_227 F1, badM_19, k207_231, if_pos (by decide), k207_245]
        exact hN e 1
/-- behind the second sum -/
theorem bs_cmp2 {M0 M' M1 : hp} {b : Nat → Nat} {L s n k c p s1 n1 p1 c1 v : Nat} {o : Bool} {D : Den} (F : MF M0) (T : TR M0 b L) (h : MSet 5 M0 M' M1 b L o s n k c (p + 1) s1 n1 p1 c1 D) (ex : exS b L s1) (hv : hI M0 139 p = nI v) (hv2 : 25 ≤ v ∧ v ≤ 27) (hi : ¬ inF (hI M0 139) p = nI 32) (hQ : WL d 1 Q 2 M') : WL d 1 Q 3 M' := by
  have L4 := T.2.1
  have hin := MSet_in h
  obtain ⟨⟨c', P'⟩, h2, ok, fr, pn, ar, pb⟩ := h
  have F' := MF_pFr F fr
  have T' := TR_pFr T fr
  have hcp := P'.2.2.2.2.2.2.2.2.1
  have hs1 := P'.1.2.2.2.2
  have hi2 : ¬ inF (hI M' 139) p1 = nI 32 := by
    rw [hin.1]
    show ¬ (if 31 ≤ hI M0 139 p then hI M0 139 p else inF (hI M0 139) p) = nI 32
    rw [if_neg (by rw [hv]; show ¬ nI 31 ≤ nI v; rw [n_le (by omega) (by omega)]; omega)]
    exact hi
  refine WL_3 F' P'.2.1 ?_
  rw [bs_test F' T' P' ex hi2]
  obtain ⟨v0, w1, w2, w3⟩ := isCompared_ok F' P'.2.2.2.2.2.1 (by omega)
  have hv0 : v0 = 1 := w2.mpr (by rw [hin.2]; exact cmF_yes hv hv2)
  rw [m207_164 F', w3]
  simp only [oN]
  rw [k207_167, if_neg (by rw [hv0]; decide), k207_170]
  exact hQ
/-- the round bracket's end -/
theorem bt_close {M0 M' M1 : hp} {b : Nat → Nat} {L s n k c p s1 n1 p1 c1 : Nat} {o : Bool} {D : Den} (F : MF M0) (T : TR M0 b L) (h : TSet 1 M0 M' M1 b L o s n (k + 1) c (p + 1) s1 n1 p1 c1 D) (ea : ¬ wrd b L s1 = kwAnd) (eo : ¬ wrd b L s1 = kwOr) (h31 : hI M0 139 p = nI 31) (hN : ¬ sg b L s1 41 → ∀ t, WL d 1 Q t (badM M' s1)) (hY : sg b L s1 41 → ∀ M3, MOk M0 M3 b L o s n (k + 1) c (p + 1) (nx b L s1) n1 c1 D → WL d 1 Q 2 (clsM M3 k p)) : WL d 1 Q 2 M' := by
  have L4 := T.2.1
  obtain ⟨⟨c', P'⟩, h2, ok, fr, pn, hin, hbd⟩ := h
  have hin2 : inF (hI M' 139) p1 = nI 31 := by
    rw [hin]
    show (if 31 ≤ hI M0 139 p then hI M0 139 p else _) = _
    rw [h31, if_pos (by decide)]
  have F' := MF_pFr F fr
  have T' := TR_pFr T fr
  have hcp := P'.2.2.2.2.2.2.2.2.1
  have hs1 := P'.1.2.2.2.2
  refine WL_2 F' P'.2.1 ?_
  rw [bt_head F' P'.1, if_neg ea, if_neg eo, k208_76, m208_77 F', inner_ok F' P'.2.2.2.2.2.1 (by omega), hin2]
  simp only [oN]
  rw [k208_80, k208_81, if_pos (by decide), k208_86, m208_90 F', show (41 : Int32) = nI 41 from rfl, mS F' T' P'.1 (by omega)]
  simp only [oM]
  rw [m208_93 F']
  by_cases z : sg b L s1 41
  · rw [bz_t z]
    refine must_y F' T' P'.1 P'.2.1 (by decide) ?_
    intro M2 t2 K2
    have F2 := MF_agr F' t2.1
    have hnx := nx_gt (b := b) z.1
    simp only [oZ]
    rw [m208_96 F2, t2.2.1 19 (by decide) (by decide) (by decide), P'.2.1, k208_100, if_neg (by decide), k208_103, m208_105 F2, show (1 : Int32) = nI 1 from rfl]
    obtain ⟨M3, t3, te, st⟩ := pn M2 t2
    refine st 1 d _ (by omega) ?_
    have ok3 := MOk_tk ok t3 (NTk_tokE K2 te) (Nat.le_of_lt hnx)
    have F3 := MF_pFr F ok3.1
    have P3 := ok3.2.1
    have tb3 : Tb M3 (p + 1) 1 := Or.inr ⟨31, by omega, by omega, by rw [(ok3.2.2.2.1 (p + 1 - 1) (by omega)).1]; exact h31, by decide⟩
    rw [settle_stop F3 P3.2.2.2.2.2.1 (by have := P3.2.2.2.2.2.2.2.2.1; have := P3.1.2.2.2.2; omega) (by omega) tb3]
    simp only [oZ]
    have F4 : MF (sI M3 126 29 (nI p)) := F3
    rw [m208_108 F3, P3.2.2.2.2.2.1, nI_pred, m208_118 F4, hI_sI_k (by decide), P3.2.2.2.1, nI_pred, k208_128]
    exact hY z M3 ok3
  · have F1 : MF (badM M' s1) := F'
    rw [bz_f z, must_n F' P'.1 P'.2.1]
    simp only [oZ]
    show Wp none d 208 96 [(0, .ref 126), (1, .int 0)] [] (badM M' s1) (WR d 1 Q)
    rw [m208_96 F1, badM_19, k208_100, if_pos (by decide), k208_128]
    exact hN z 2
theorem TSet_cmp {M0 M1 M2 M' M3 : hp} {b : Nat → Nat} {L s n k c p s1 n1 c1 s' s3 n3 p3 c3 v : Nat} {o : Bool} {D D1 : Den} (F : MF M0) (h : MOk M0 M1 b L o s n k c p s1 n1 c1 D) (hs : s1 < s') (hv : 25 ≤ v ∧ v ≤ 27) (t : tkS (mpush M1 p (nI v) (nI 0)) M2) (h2 : MSet 5 M2 M' M3 b L o s' n1 k c1 (p + 1) s3 n3 p3 c3 D1) (hL : L ≤ 400) : TSet 3 M0 M' (popE M3 c3 p v) b L o s n k c p s3 n3 p3 (c3 + 1) (binD (nI (v - 18)) D D1) := by
  have hin := (MSet_in h2).1
  obtain ⟨P', q2, ok3, fr, pn, ar, pb⟩ := h2
  obtain ⟨e1, e2, e3, e4, e5, e6⟩ := MOk_bin h hs (by omega) t ok3 hL
  have fr2 : pFr M0 M2 := pFr_trans h.1 (pFr_trans (mpush_fr _ _ _ _) (tkS_pFr t))
  have F3 : MF M3 := MF_pFr F (pFr_trans fr2 ok3.1)
  have n139 : ([126] : List Nat).contains 139 = false := by decide
  have e0 : hI M2 139 p = nI v := by rw [agr_I t.1 n139, mpush_op, if_pos rfl]
  refine ⟨P', by omega, e6, pFr_trans fr2 fr, Pn_pop (Pn_le pn (by omega)) F3 e1 e4 (by omega) (by omega) e2 ?_ e3 e5, ?_, isBD_cmp ?_⟩
  · have : v = 25 ∨ v = 26 ∨ v = 27 := by omega
    rcases this with rfl | rfl | rfl <;> decide
  · rw [hin]
    show (if 31 ≤ hI M2 139 p then hI M2 139 p else inF (hI M2 139) p) = _
    rw [if_neg (by rw [e0]; show ¬ nI 31 ≤ nI v; rw [n_le (by omega) (by omega)]; omega)]
    exact inF_cong p (fun j hj => by rw [agr_I t.1 n139, mpush_op, if_neg (by omega)]; exact (h.2.2.2.1 j hj).1)
  · have : v = 25 ∨ v = 26 ∨ v = 27 := by omega
    rcases this with rfl | rfl | rfl
    · exact Or.inl rfl
    · exact Or.inr (Or.inl rfl)
    · exact Or.inr (Or.inr rfl)
