variable {d : Nat} {M : hp} {Q : Option Value → hp → Prop}
/-- the cells of an order but for its "if" -/
def PreO (M : hp) (i k t len : Nat) (D1 D2 : Den) : Prop := hI M 152 (8 * i) = nI k ∧ k < 4 ∧ hI M 152 (8 * i + 7) = nI t ∧ t ≤ 20 ∧ ((k = 3 ∧ hI M 152 (8 * i + 1) = hI M 152 (8 * i + 2) ∧ D1 = oneD) ∨ (¬ k = 3 ∧ mSegO M (8 * i + 1) len D1)) ∧ ((¬ k = 0 ∧ ¬ k = 2 ∧ hI M 152 (8 * i + 3) = hI M 152 (8 * i + 4) ∧ D2 = oneD) ∨ ((k = 0 ∨ k = 2) ∧ mSegO M (8 * i + 3) len D2))
theorem PreO_keep {M M' : hp} {i k t len len' : Nat} {D1 D2 : Den} (h : PreO M i k t len D1 D2) (hc : ∀ j, j < len → hI M' 137 j = hI M 137 j ∧ hI M' 138 j = hI M 138 j) (he : ∀ w, w < 8 → ¬ w = 5 → ¬ w = 6 → hI M' 152 (8 * i + w) = hI M 152 (8 * i + w)) (hl : len ≤ len') : PreO M' i k t len' D1 D2 := by
  obtain ⟨h1, h2, h3, h4, h5, h6⟩ := h
  have e : ∀ w, w < 8 → ¬ w = 5 → ¬ w = 6 → hI M' 152 (8 * i + w) = hI M 152 (8 * i + w) := he
  refine ⟨(e 0 (by omega) (by omega) (by omega)).trans h1, h2, (e 7 (by omega) (by omega) (by omega)).trans h3, h4, ?_, ?_⟩
  · rcases h5 with ⟨a1, a2, a3⟩ | ⟨a1, a2⟩
    · exact Or.inl ⟨a1, by rw [e 1 (by omega) (by omega) (by omega), e 2 (by omega) (by omega) (by omega)]; exact a2, a3⟩
    · exact Or.inr ⟨a1, mSegO_keep a2 hc (e 1 (by omega) (by omega) (by omega)) (e 2 (by omega) (by omega) (by omega)) hl⟩
  · rcases h6 with ⟨a1, a2, a3, a4⟩ | ⟨a1, a2⟩
    · exact Or.inl ⟨a1, a2, by rw [e 3 (by omega) (by omega) (by omega), e 4 (by omega) (by omega) (by omega)]; exact a3, a4⟩
    · exact Or.inr ⟨a1, mSegO_keep a2 hc (e 3 (by omega) (by omega) (by omega)) (e 4 (by omega) (by omega) (by omega)) hl⟩
theorem ord_if {M0 : hp} {b : Nat → Nat} {L s1 n1 c c1 i k t : Nat} {x1 x3 : Int32} {D1 D2 : Den} (F0 : MF M0) (T0 : TR M0 b L) (W0 : MWd M0) (hi : i < 12) (fr : LF 152 M0 M i c) (X : XP M b L true s1 n1 c1) (h21 : hI M 126 21 = nI (i + 1)) (hc : c ≤ c1) (hr : PreO M i k t c1 D1 D2)
    (H : LRs 152 mOrdR M0 b L true i c Q (match ifP b L true s1 n1 with
      | .inl q => .inl q
      | .inr (s4, n4, D3) => .inr (s4, n4, (k, t, D1, D2, D3)))) : Wp none d 258 202 [(0, .ref 126), (1, .int x1), (2, .int (nI (8 * i))), (3, .int x3)] [] M Q := by
  have ha : cla 152 := Or.inr rfl
  have F := MF_LF F0 fr
  have T := TR_LF ha T0 fr
  have W := MWd_LF ha W0 fr
  have e5 : nI (8 * i) + 5 = nI (8 * i + 5) := by rw [show (5 : Int32) = nI 5 from rfl, nI_add]
  have e6 : nI (8 * i) + 6 = nI (8 * i + 6) := by rw [show (6 : Int32) = nI 6 from rfl, nI_add]
  have X5 : XP (sI M 152 (8 * i + 5) (nI c1)) b L true s1 n1 c1 := XP_cell ha X
  have f5 : LF 152 M (sI M 152 (8 * i + 5) (nI c1)) i c1 := LF_cell ha (by omega)
  have r5 : PreO (sI M 152 (8 * i + 5) (nI c1)) i k t c1 D1 D2 := PreO_keep hr f5.2.2.2.1 (fun w _ h _ => hI_sI_k (by omega)) (Nat.le_refl _)
  have v5 : hI (sI M 152 (8 * i + 5) (nI c1)) 152 (8 * i + 5) = nI c1 := hI_sI_s _ _ _ _
  have g21 : hI (sI M 152 (8 * i + 5) (nI c1)) 126 21 = nI (i + 1) := by rw [hI_sI_a (by decide)]; exact h21
  have fr5 := LF_trans fr f5 (Nat.le_refl _) hc
  unfold ifP at H
  rw [m258_202 F (by rw [e5]; exact v96 (by omega)), e5, n_cl (by omega), X.2.2.2.1]
  generalize sI M 152 (8 * i + 5) (nI c1) = M5 at *
  have F5 := MF_LF F f5
  have T5 := TR_LF ha T f5
  have W5 := MWd_LF ha W f5
  rw [m258_214 F5, X5.2.1, k258_218, if_neg (by decide), k258_221, m258_225 F5, mIsWord F5 X5.1 (show kwOk kwIf = true by decide) (show (294 : Int64) = lN (wcode kwIf) by decide)]
  simp only [oN]
  rw [k258_228, bzi]
  by_cases z : wrd b L s1 = kwIf
  · rw [if_pos z] at H
    have hsL := kw_lt (show lett kwIf = true by decide) z
    have hnx := nx_gt (b := b) hsL
    rw [if_neg (fun w => w z), k258_231, m258_232 F5]
    refine next_ok F5 T5 X5.1.2.1 (tkE_le X5.1.2.2.2.2) ?_
    intro M1 t1 K1
    have K1 : NTk M1 b L (nx b L s1) := K1
    have F1 := MF_agr F5 t1.1
    have X1 := XP_tk X5 t1 K1 (Nat.le_of_lt hnx)
    have f1 : LF 152 M5 M1 i c1 := LF_tk ha t1
    have n152 : ([126] : List Nat).contains 152 = false := by decide
    simp only [oZ]
    rw [k258_235, m258_237 F1]
    refine mTestX F1 (TR_LF ha T5 f1) (MWd_LF ha W5 f1) X1 ?_
    cases hp : testP b L true (nx b L s1) n1 with
    | inl q =>
      rw [hp] at H
      intro M' g1 e1 e2
      have F2 := MF_pFr F1 g1
      simp only [oZ]
      rw [m258_240 F2 (by rw [e6]; exact v96 (by omega)), e6, n_cl (by omega)]
      exact H _ (LBd_cell ha (LBd_pre fr5 (LBd_pre f1 (LBd_X ha g1 e1 e2))))
    | inr y =>
      obtain ⟨s2, n2, D3⟩ := y
      rw [hp] at H
      intro M' c2 g1 X2 ec sg
      have F2 := MF_pFr F1 g1
      have hlt := sg.1
      have f2 : LF 152 M5 M' i c1 := LF_trans f1 (LF_pFr ha g1 ec) (Nat.le_refl _) (Nat.le_refl _)
      have f3 : LF 152 M' (sI M' 152 (8 * i + 6) (nI c2)) i c1 := LF_cell ha (by omega)
      have f4 := LF_trans f2 f3 (Nat.le_refl _) (Nat.le_refl _)
      have ce : ∀ j, ¬ j = 8 * i + 6 → hI (sI M' 152 (8 * i + 6) (nI c2)) 152 j = hI M5 152 j := fun j hj => by
        rw [hI_sI_k hj, agr_I g1.1 (by decide), agr_I t1.1 n152]
      have r6 : PreO (sI M' 152 (8 * i + 6) (nI c2)) i k t c2 D1 D2 := PreO_keep r5 f4.2.2.2.1 (fun w _ _ h => ce _ (by omega)) (by omega)
      obtain ⟨r1, r2, r3, r4, r5', r6'⟩ := r6
      simp only [oZ]
      rw [m258_240 F2 (by rw [e6]; exact v96 (by omega)), e6, n_cl (by omega), X2.2.2.2.1]
      refine H _ c2 (LF_trans fr5 f4 (Nat.le_refl _) hc) (XP_cell ha X2) ?_ (by omega) ⟨r1, r2, r3, r4, r5', r6', ⟨c1, c2, (ce _ (by omega)).trans v5, hI_sI_s _ _ _ _, by omega, Nat.le_refl _, Or.inr ?_⟩⟩
      · rw [hI_sI_a (by decide), g1.2.1 21 (by decide), t1.2.1 21 (by decide) (by decide) (by decide)]; exact g21
      · exact SegR_cong sg (fun j _ _ => ⟨(hI_sI_a (by decide)).symm, (hI_sI_a (by decide)).symm⟩)
  · rw [if_neg z] at H
    have f3 : LF 152 M5 (sI M5 152 (8 * i + 6) (nI c1)) i c1 := LF_cell ha (by omega)
    have ce : ∀ j, ¬ j = 8 * i + 6 → hI (sI M5 152 (8 * i + 6) (nI c1)) 152 j = hI M5 152 j := fun j hj => hI_sI_k hj
    have r6 : PreO (sI M5 152 (8 * i + 6) (nI c1)) i k t c1 D1 D2 := PreO_keep r5 f3.2.2.2.1 (fun w _ _ h => ce _ (by omega)) (Nat.le_refl _)
    obtain ⟨r1, r2, r3, r4, r5', r6'⟩ := r6
    rw [if_pos z, m258_240 F5 (by rw [e6]; exact v96 (by omega)), e6, n_cl (by omega), X5.2.2.2.1]
    refine H _ c1 (LF_trans fr5 f3 (Nat.le_refl _) hc) (XP_cell ha X5) ((hI_sI_a (by decide)).trans g21) hc ⟨r1, r2, r3, r4, r5', r6', ⟨c1, c1, (ce _ (by omega)).trans v5, hI_sI_s _ _ _ _, Nat.le_refl _, Nat.le_refl _, Or.inl ⟨rfl, rfl⟩⟩⟩
theorem PreO_7 {i k t len : Nat} {D1 D2 : Den} {v : Int32} {t' : Nat} (h : PreO M i k t len D1 D2) (hv : v = nI t') (ht : t' ≤ 20) : PreO (sI M 152 (8 * i + 7) v) i k t' len D1 D2 := by
  have e : ∀ w, w < 7 → hI (sI M 152 (8 * i + 7) v) 152 (8 * i + w) = hI M 152 (8 * i + w) := fun w hw => hI_sI_k (by omega)
  have hc : ∀ j, j < len → hI (sI M 152 (8 * i + 7) v) 137 j = hI M 137 j ∧ hI (sI M 152 (8 * i + 7) v) 138 j = hI M 138 j := fun j _ => ⟨hI_sI_a (by decide), hI_sI_a (by decide)⟩
  obtain ⟨h1, h2, h3, h4, h5, h6⟩ := h
  refine ⟨(e 0 (by omega)).trans h1, h2, by rw [hI_sI_s, hv], ht, ?_, ?_⟩
  · rcases h5 with ⟨a1, a2, a3⟩ | ⟨a1, a2⟩
    · exact Or.inl ⟨a1, by rw [e 1 (by omega), e 2 (by omega)]; exact a2, a3⟩
    · exact Or.inr ⟨a1, mSegO_keep a2 hc (e 1 (by omega)) (e 2 (by omega)) (Nat.le_refl _)⟩
  · rcases h6 with ⟨a1, a2, a3, a4⟩ | ⟨a1, a2⟩
    · exact Or.inl ⟨a1, a2, by rw [e 3 (by omega), e 4 (by omega)]; exact a3, a4⟩
    · exact Or.inr ⟨a1, mSegO_keep a2 hc (e 3 (by omega)) (e 4 (by omega)) (Nat.le_refl _)⟩
theorem PreO_tk {M' : hp} {i k t len : Nat} {D1 D2 : Den} (h : PreO M i k t len D1 D2) (f : tkS M M') : PreO M' i k t len D1 D2 := PreO_keep h (fun j _ => ⟨by rw [agr_I f.1 (by decide)], by rw [agr_I f.1 (by decide)]⟩) (fun w _ _ _ => by rw [agr_I f.1 (by decide)]) (Nat.le_refl _)
theorem ord_times {M0 : hp} {b : Nat → Nat} {L s1 n1 c c1 i k t0 : Nat} {x1 x3 : Int32} {D1 D2 : Den} (F0 : MF M0) (T0 : TR M0 b L) (W0 : MWd M0) (hi : i < 12) (fr : LF 152 M0 M i c) (X : XP M b L true s1 n1 c1) (h21 : hI M 126 21 = nI (i + 1)) (hc : c ≤ c1) (hr : PreO M i k t0 c1 D1 D2)
    (H : LRs 152 mOrdR M0 b L true i c Q (match timP b L s1 with
      | .inl q => .inl q
      | .inr (s3, t) => match ifP b L true s3 n1 with
        | .inl q => .inl q
        | .inr (s4, n4, D3) => .inr (s4, n4, (k, t, D1, D2, D3)))) : Wp none d 258 154 [(0, .ref 126), (1, .int x1), (2, .int (nI (8 * i))), (3, .int x3)] [] M Q := by
  have ha : cla 152 := Or.inr rfl
  have F := MF_LF F0 fr
  have e7 : nI (8 * i) + 7 = nI (8 * i + 7) := by rw [show (7 : Int32) = nI 7 from rfl, nI_add]
  have f7 : LF 152 M (sI M 152 (8 * i + 7) 1) i c1 := LF_cell ha (by omega)
  have X7 : XP (sI M 152 (8 * i + 7) 1) b L true s1 n1 c1 := XP_cell ha X
  have r7 : PreO (sI M 152 (8 * i + 7) 1) i k 1 c1 D1 D2 := PreO_7 hr rfl (by omega)
  have g21 : hI (sI M 152 (8 * i + 7) 1) 126 21 = nI (i + 1) := by rw [hI_sI_a (by decide)]; exact h21
  have fr7 := LF_trans fr f7 (Nat.le_refl _) hc
  rw [m258_154 F (by rw [e7]; exact v96 (by omega)), e7, n_cl (by omega)]
  generalize sI M 152 (8 * i + 7) 1 = M7 at *
  have F7 := MF_LF F0 fr7
  have T7 := TR_LF ha T0 fr7
  unfold timP at H
  rw [m258_164 F7, X7.2.1, k258_168, if_neg (by decide), k258_171, m258_175 F7, mIsWord F7 X7.1 (show kwOk kwTimes = true by decide) (show (21279923 : Int64) = lN (wcode kwTimes) by decide)]
  simp only [oN]
  rw [k258_178, bzi]
  by_cases z : wrd b L s1 = kwTimes
  · rw [if_pos z] at H
    have hsL := kw_lt (show lett kwTimes = true by decide) z
    have hnx := nx_gt (b := b) hsL
    rw [if_neg (fun w => w z), k258_181, m258_182 F7]
    refine next_ok F7 T7 X7.1.2.1 (tkE_le X7.1.2.2.2.2) ?_
    intro M1 t1 K1
    have K1 : NTk M1 b L (nx b L s1) := K1
    have F1 := MF_agr F7 t1.1
    have X1 := XP_tk X7 t1 K1 (Nat.le_of_lt hnx)
    have f1 : LF 152 M7 M1 i c1 := LF_tk ha t1
    have fr1 := LF_trans fr7 f1 (Nat.le_refl _) hc
    simp only [oZ]
    rw [m258_185 F1, e7, m258_198 F1, show (1 : Int64) = lN 1 from rfl, show (20 : Int64) = lN 20 from rfl]
    refine number_ok F1 (TR_LF ha T0 fr1) X1.1 X1.2.1 (by omega) (by omega) ?_
    cases hv : nmI b L (nx b L s1) 1 20 with
    | none =>
      rw [hv] at H
      intro v
      have F2 : MF (badM M1 (nx b L s1)) := F1
      simp only [oM]
      show Wp none d 258 201 [(0, .ref 126), (1, .int x1), (2, .int (nI (8 * i))), (3, .int x3)] [.int v, .int (nI (8 * i + 7)), .ref 152] (badM M1 (nx b L s1)) Q
      rw [m258_201 F2 (by rw [m_K152 F2]) (by rw [m_K152 F2]; exact v96 (by omega)), n_cl (by omega)]
      exact ord_bad202 F0 (LBd_cell ha (LBd_pre fr1 (LBd_X ha (badM_fr M1 _) (badM_19 M1 _) (by unfold badM; rw [hI_sI_s])))) hi H
    | some t =>
      rw [hv] at H
      obtain ⟨p1, p2, p3, p4⟩ := nmI_s hv
      have hnx2 := nx_gt (b := b) p1
      intro M2 t2 K2
      have F2 := MF_agr F1 t2.1
      simp only [oM]
      rw [m258_201 F2 (by rw [m_K152 F2]) (by rw [m_K152 F2]; exact v96 (by omega)), n_cl (by omega)]
      have f2 : LF 152 M1 M2 i c1 := LF_tk ha t2
      refine ord_if F0 T0 W0 hi (LF_trans fr1 (LF_trans f2 (LF_cell ha (by omega)) (Nat.le_refl _) (Nat.le_refl _)) (Nat.le_refl _) hc) (XP_cell ha (XP_tk X1 t2 K2 (Nat.le_of_lt hnx2))) ?_ hc (PreO_7 (PreO_tk (PreO_tk r7 t1) t2) rfl (by omega)) H
      rw [hI_sI_a (by decide), t2.2.1 21 (by decide) (by decide) (by decide), t1.2.1 21 (by decide) (by decide) (by decide)]
      exact g21
  · rw [if_neg z] at H
    rw [if_pos z]
    exact ord_if F0 T0 W0 hi fr7 X7 g21 hc r7 H
/-- behind the first sum -/
theorem ord_second {M0 : hp} {b : Nat → Nat} {L s1 n1 c c1 i k : Nat} {x3 : Int32} {D1 : Den} (F0 : MF M0) (T0 : TR M0 b L) (W0 : MWd M0) (hi : i < 12) (fr : LF 152 M0 M i c) (X : XP M b L true s1 n1 c1) (h21 : hI M 126 21 = nI (i + 1)) (hc : c ≤ c1) (hk : k < 4) (h0 : hI M 152 (8 * i) = nI k) (h7 : hI M 152 (8 * i + 7) = 0) (h34 : hI M 152 (8 * i + 3) = 0 ∧ hI M 152 (8 * i + 4) = 0) (hf : (k = 3 ∧ hI M 152 (8 * i + 1) = hI M 152 (8 * i + 2) ∧ D1 = oneD) ∨ (¬ k = 3 ∧ mSegO M (8 * i + 1) c1 D1))
    (H : LRs 152 mOrdR M0 b L true i c Q (match (if k = 0 then behP b L s1 n1 kwOn else if k = 2 then behP b L s1 n1 kwIn else .inr (s1, n1, oneD) : PR) with
      | .inl q => .inl q
      | .inr (s2, n2, D2) => match timP b L s2 with
        | .inl q => .inl q
        | .inr (s3, t) => match ifP b L true s3 n2 with
          | .inl q => .inl q
          | .inr (s4, n4, D3) => .inr (s4, n4, (k, t, D1, D2, D3)))) : Wp none d 258 125 [(0, .ref 126), (1, .int (nI k)), (2, .int (nI (8 * i))), (3, .int x3)] [] M Q := by
  have ha : cla 152 := Or.inr rfl
  have F := MF_LF F0 fr
  have T := TR_LF ha T0 fr
  have W := MWd_LF ha W0 fr
  have e3 : nI (8 * i) + 3 = nI (8 * i + 3) := by rw [show (3 : Int32) = nI 3 from rfl, nI_add]
  -- behind the second sum
  have fin : ∀ (Q' : Option Value → hp → Prop), (k = 0 ∨ k = 2) → (∀ M' q, LBd 152 M0 M' q → (∀ M2, LBd 152 M0 M2 q → Q none M2) → Q' none M') → (∀ M', Q' none M' = Wp none d 258 154 [(0, .ref 126), (1, .int (nI k)), (2, .int (nI (8 * i))), (3, .int x3)] [] M' Q ∨ True) → (∀ M', (Wp none d 258 154 [(0, .ref 126), (1, .int (nI k)), (2, .int (nI (8 * i))), (3, .int x3)] [] M' Q → Q' none M')) → SRX M b L i (8 * i + 3) c1 Q' (if k = 0 then behP b L s1 n1 kwOn else if k = 2 then behP b L s1 n1 kwIn else .inr (s1, n1, oneD) : PR) := by
    intro Q' hk2 hB _ hY
    cases hr : (if k = 0 then behP b L s1 n1 kwOn else if k = 2 then behP b L s1 n1 kwIn else .inr (s1, n1, oneD) : PR) with
    | inl q =>
      rw [hr] at H
      intro M' g
      exact hB M' q (LBd_pre fr g) H
    | inr y =>
      obtain ⟨s2, n2, D2⟩ := y
      rw [hr] at H
      intro M' c2 g1 X2 e21 ec e1 e2 sg
      have hlt := sg.1
      refine hY M' ?_
      refine ord_times (t0 := 0) F0 T0 W0 hi (LF_trans fr g1 (Nat.le_refl _) hc) X2 (e21.trans h21) (by omega) ⟨(ec _ (by omega) (by omega)).trans h0, hk, (ec _ (by omega) (by omega)).trans h7, by omega, ?_, Or.inr ⟨hk2, c1, c2, e1, by rw [show 8 * i + 3 + 1 = 8 * i + 4 by omega] at e2; exact e2, Nat.le_refl _, sg⟩⟩ H
      rcases hf with ⟨a1, a2, a3⟩ | ⟨a1, a2⟩
      · exact Or.inl ⟨a1, by rw [ec _ (by omega) (by omega), ec _ (by omega) (by omega)]; exact a2, a3⟩
      · exact Or.inr ⟨a1, mSegO_keep a2 g1.2.2.2.1 (ec _ (by omega) (by omega)) (ec _ (by omega) (by omega)) (by omega)⟩
  rw [k258_125, k258_126]
  by_cases c0 : k = 0
  · have ek : nI k = 0 := by rw [c0]; rfl
    have f := fin (fun r M1 => Wp none d 258 139 [(0, .ref 126), (1, .int (nI k)), (2, .int (nI (8 * i))), (3, .int x3)] (r.toList ++ []) M1 Q) (Or.inl c0) (fun M' q g h => by
      simp only [oZ]
      exact ord_bad139 F0 g hi h) (fun _ => Or.inr trivial) (fun M' h => by
      simp only [oZ]
      rw [k258_139, k258_141, if_pos (by rw [ek]; decide)]
      exact h)
    rw [if_pos c0] at f
    rw [if_neg (fun z => z ek), k258_129, m258_136 F, e3]
    exact mBehind F T W X (by omega) (by omega) (show kwOk kwOn = true by decide) (by decide) (show (494 : Int64) = lN (wcode kwOn) by decide) f
  · have ek : ¬ nI k = 0 := by rw [show (0 : Int32) = nI 0 from rfl, n_eq (by omega) (by omega)]; exact c0
    rw [if_pos ek, k258_139, k258_141]
    by_cases c2 : k = 2
    · have ek2 : nI k = 2 := by rw [c2]; rfl
      have f := fin (fun r M1 => Wp none d 258 154 [(0, .ref 126), (1, .int (nI k)), (2, .int (nI (8 * i))), (3, .int x3)] (r.toList ++ []) M1 Q) (Or.inr c2) (fun M' q g h => by
        simp only [oZ]
        exact ord_bad154 F0 g hi h) (fun _ => Or.inr trivial) (fun M' h => by
        simp only [oZ]
        exact h)
      rw [if_neg c0, if_pos c2] at f
      rw [if_neg (fun z => z ek2), k258_144, m258_151 F, e3]
      exact mBehind F T W X (by omega) (by omega) (show kwOk kwIn = true by decide) (by decide) (show (302 : Int64) = lN (wcode kwIn) by decide) f
    · have ek2 : ¬ nI k = 2 := by rw [show (2 : Int32) = nI 2 from rfl, n_eq (by omega) (by omega)]; exact c2
      rw [if_pos ek2]
      rw [if_neg c0, if_neg c2] at H
      exact ord_times (t0 := 0) F0 T0 W0 hi fr X h21 hc ⟨h0, hk, h7, by omega, hf, Or.inl ⟨c0, c2, by rw [h34.1, h34.2], rfl⟩⟩ H
/-- one that comes too many -/
theorem ord_13 {b : Nat → Nat} {L s n c i : Nat} (F : MF M) (W : MWd M) (X : XP M b L true s n c) (h21 : hI M 126 21 = nI i) (hi : i = 12 ∨ (i < 12 ∧ wix kwO (wrd b L s) = none)) : Wp none d 258 0 [(0, .ref 126)] [] M Q = Q none (badM M s) := by
  have F1 : MF (badM M s) := F
  have h0 : ∀ x : Int32, Wp none d 258 53 [(0, .ref 126), (1, .int x), (2, .int (nI 4))] [.ref 126] M Q = Q none (badM M s) := by
    intro x
    rw [k258_53, m258_54 F, must_n F X.1 X.2.1]
    simp only [oZ]
    show Wp none d 258 57 [(0, .ref 126), (1, .int x), (2, .int (nI 4))] [] (badM M s) Q = _
    rw [m258_57 F1, badM_19, k258_61, if_neg (by decide), k258_64]
  rw [pAt0_head F W X.1, k258_34, k258_37]
  by_cases c1 : ixI (wix kwO (wrd b L s)) = -1
  · rw [if_pos c1, h0]
  · rw [if_neg c1, m258_40 F, h21, k258_46, show (12 : Int32) = nI 12 from rfl, lei (by omega) (by omega), if_pos, h0]
    rcases hi with hi | hi
    · omega
    · exfalso
      apply c1
      rw [hi.2]
      rfl
theorem mOrder_ok {b : Nat → Nat} {L s n c i : Nat} (F : MF M) (T : TR M b L) (W : MWd M) (X : XP M b L true s n c) (h21 : hI M 126 21 = nI i) (hi : i < 12) (H : LRs 152 mOrdR M b L true i c Q (orderP b L s n)) : Wp none d 258 0 [(0, .ref 126)] [] M Q := by
  have L4 := T.2.1
  have ha : cla 152 := Or.inr rfl
  have e1 : nI (8 * i) + 1 = nI (8 * i + 1) := by rw [show (1 : Int32) = nI 1 from rfl, nI_add]
  unfold orderP at H
  cases hw : wix kwO (wrd b L s) with
  | none =>
    rw [hw] at H
    rw [ord_13 F W X h21 (Or.inr ⟨hi, hw⟩)]
    exact H (badM M s) (LBd_X ha (badM_fr M s) (badM_19 M s) (by unfold badM; rw [hI_sI_s]))
  | some k =>
    rw [hw] at H
    dsimp only at H
    have hk4 : k < 4 := wix_lt _ _ _ hw
    have hsL : s < L := wix_lt_L kd_l4 hw
    have hnx := nx_gt (b := b) hsL
    have hk1 : ¬ nI k = -1 := by rw [n_m1 (by omega)]; exact id
    rw [pAt0_head F W X.1, hw, show ixI (some k) = nI k from rfl, k258_34, k258_37, if_neg hk1, m258_40 F, h21, k258_46, show (12 : Int32) = nI 12 from rfl, lei (by omega) (by omega), if_neg (by omega), k258_49, m258_54 F]
    refine must_y F T X.1 X.2.1 (by decide) ?_
    intro M1 t1 K1
    have F1 := MF_agr F t1.1
    have X1 := XP_tk X t1 K1 (Nat.le_of_lt hnx)
    have e21 : hI M1 126 21 = nI i := (t1.2.1 21 (by decide) (by decide) (by decide)).trans h21
    have f1 : LF 152 M M1 i c := LF_tk ha t1
    have F2 : MF (sI M1 126 21 (nI (i + 1))) := F1
    simp only [oZ]
    rw [m258_57 F1, X1.2.1, k258_61, if_pos rfl, m258_65 F1, e21, nI_1, show (8 : Int32) = nI 8 from rfl, n_mul, k258_83, show (0 : Int32) = nI 0 from rfl]
    have f2 : LF 152 M (sI M1 126 21 (nI (i + 1))) i c := LF_trans f1 (LF_21 ha) (Nat.le_refl _) (Nat.le_refl _)
    have X2 : XP (sI M1 126 21 (nI (i + 1))) b L true (nx b L s) n c := XP_21 X1
    have g21 : hI (sI M1 126 21 (nI (i + 1))) 126 21 = nI (i + 1) := hI_sI_s _ _ _ _
    generalize sI M1 126 21 (nI (i + 1)) = M2 at *
    refine ord_clear (M := M2) hi 8 0 M2 (by omega) F2 ⟨agr_refl _ _, fun _ _ => rfl⟩ (fun w hw => absurd hw (by omega)) ?_
    intro M3 cl3 z3
    have X3 := XP_cL ha X2 cl3
    have f3 : LF 152 M M3 i c := LF_trans f2 (cL_LF (c := c) ha cl3) (Nat.le_refl _) (Nat.le_refl _)
    have F3 := MF_LF F f3
    have b21 : hI M3 126 21 = nI (i + 1) := by rw [agr_I cl3.1 (by decide)]; exact g21
    rw [m258_106 F3 (v96 (by omega)), n_cl (by omega)]
    have X4 : XP (sI M3 152 (8 * i) (nI k)) b L true (nx b L s) n c := XP_cell ha X3
    have f4 : LF 152 M (sI M3 152 (8 * i) (nI k)) i c := LF_trans f3 (LF_cell ha (by omega)) (Nat.le_refl _) (Nat.le_refl _)
    have c21 : hI (sI M3 152 (8 * i) (nI k)) 126 21 = nI (i + 1) := by rw [hI_sI_a (by decide)]; exact b21
    have c0 : hI (sI M3 152 (8 * i) (nI k)) 152 (8 * i) = nI k := hI_sI_s _ _ _ _
    have cz : ∀ w, 0 < w → w < 8 → hI (sI M3 152 (8 * i) (nI k)) 152 (8 * i + w) = 0 := fun w h1 h2 => by rw [hI_sI_k (by omega)]; exact z3 w h2
    generalize sI M3 152 (8 * i) (nI k) = M4 at *
    have F4 := MF_LF F f4
    rw [k258_113, k258_115]
    by_cases ck : k = 3
    · have ek : nI k = 3 := by rw [ck]; rfl
      rw [if_pos ck] at H
      rw [if_pos ek]
      exact ord_second (D1 := oneD) F T W hi f4 X4 c21 (Nat.le_refl _) hk4 c0 (cz 7 (by omega) (by omega)) ⟨cz 3 (by omega) (by omega), cz 4 (by omega) (by omega)⟩ (Or.inl ⟨ck, by rw [cz 1 (by omega) (by omega), cz 2 (by omega) (by omega)], rfl⟩) H
    · have ek : ¬ nI k = 3 := by rw [show (3 : Int32) = nI 3 from rfl, n_eq (by omega) (by omega)]; exact ck
      rw [if_neg ck] at H
      rw [if_neg ek, k258_118, m258_122 F4, e1]
      refine mReadSum (i := i) F4 (TR_LF ha T f4) (MWd_LF ha W f4) X4 (by omega) (by omega) ?_
      cases hp : sumP b L true (nx b L s) n with
      | inl q =>
        rw [hp] at H
        intro M' g
        simp only [oZ]
        exact ord_bad125 F (LBd_pre f4 g) hi H
      | inr y =>
        obtain ⟨s1, n1, D1⟩ := y
        rw [hp] at H
        intro M' c1 g1 X5 e21' ec v1 v2 sg
        have hlt := sg.1
        simp only [oZ]
        exact ord_second (D1 := D1) F T W hi (LF_trans f4 g1 (Nat.le_refl _) (Nat.le_refl _)) X5 (e21'.trans c21) (by omega) hk4 ((ec _ (by omega) (by omega)).trans c0) ((ec _ (by omega) (by omega)).trans (cz 7 (by omega) (by omega))) ⟨(ec _ (by omega) (by omega)).trans (cz 3 (by omega) (by omega)), (ec _ (by omega) (by omega)).trans (cz 4 (by omega) (by omega))⟩ (Or.inr ⟨ck, c, c1, v1, by rw [show 8 * i + 1 + 1 = 8 * i + 2 by omega] at v2; exact v2, Nat.le_refl _, sg⟩) H
