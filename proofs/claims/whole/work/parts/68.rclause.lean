variable {d : Nat} {M : hp} {Q : Option Value → hp → Prop}
theorem setCell_ok {i w : Nat} {v : Int32} (F : RXF M) (hi : i < 12) (hw : w < 8) : Wp none d 86 0 [(0, .ref 110), (1, .int (nI i)), (2, .int (nI w)), (3, .int v)] [] M Q = Q none (sI M 112 (8 * i + w) v) := by
  rw [k86_0 F.2.2.2.2.2.2.1 (by rw [F.2.2.2.2.2.2.2.2.1]; omega), F.2.2.2.2.2.2.2.2.1, k86_11, n_mull, nI_add, show i * 8 + w = 8 * i + w by omega, T_put F.2.2.2.2.2.2.2.2.2.2 (by omega) (by omega), pI_n (by omega) (by omega)]
  simp only [oZ]
  rw [k86_14]
/-- what the cells k, k + 1 of the rows tell is D -/
def Sg (M : hp) (N k len : Nat) (D : Den) : Prop := ∃ f g, hI M 112 k = nI f ∧ hI M 112 (k + 1) = nI g ∧ f ≤ g ∧ g ≤ len ∧ ((f = g ∧ D = oneD) ∨ ∃ w, w ≤ 50 ∧ SegC N (hI M 111) f g w D)
theorem Sg_keep {M M' : hp} {N k len len' : Nat} {D : Den} (h : Sg M N k len D) (h1 : ∀ j, j < len → hI M' 111 j = hI M 111 j) (h2 : hI M' 112 k = hI M 112 k) (h3 : hI M' 112 (k + 1) = hI M 112 (k + 1)) (h4 : len ≤ len') : Sg M' N k len' D := by
  obtain ⟨f, g, q1, q2, q3, q4, q5⟩ := h
  refine ⟨f, g, h2.trans q1, h3.trans q2, q3, by omega, ?_⟩
  rcases q5 with q5 | ⟨w, q5, q6⟩
  · exact Or.inl q5
  · exact Or.inr ⟨w, q5, SegC_cong q6 (fun j r1 r2 => (h1 j (by omega)).symm)⟩
/-- clause i is read on: from s, n, c to s1, n1, c1 -/
def TOk (M0 M' : hp) (b : Nat → Nat) (L : Nat) (o : Bool) (i s n c s1 n1 c1 : Nat) : Prop := agr [109, 110, 111, 112] M0 M' ∧ RS M' b L o s1 n1 0 c1 ∧ hI M' 109 2 = hI M0 109 2 ∧ hI M' 110 3 = hI M0 110 3 ∧ (∀ j, j < c → hI M' 111 j = hI M0 111 j) ∧ (∀ j, j < 8 * i ∨ 8 * i + 8 ≤ j → hI M' 112 j = hI M0 112 j) ∧ c ≤ c1 ∧ s ≤ s1 ∧ n ≤ n1
theorem TOk_trans {M0 M1 M2 : hp} {b : Nat → Nat} {L i s n c s1 n1 c1 s2 n2 c2 : Nat} {o : Bool} (h : TOk M0 M1 b L o i s n c s1 n1 c1) (h2 : TOk M1 M2 b L o i s1 n1 c1 s2 n2 c2) : TOk M0 M2 b L o i s n c s2 n2 c2 := by
  obtain ⟨a1, a2, a3, a4, a5, a6, a7, a8, a9⟩ := h
  obtain ⟨b1, b2, b3, b4, b5, b6, b7, b8, b9⟩ := h2
  exact ⟨agr_trans a1 b1, b2, b3.trans a3, b4.trans a4, fun j hj => (b5 j (by omega)).trans (a5 j hj), fun j hj => (b6 j hj).trans (a6 j hj), by omega, by omega, by omega⟩
theorem TOk_refl {b : Nat → Nat} {L i s n c : Nat} {o : Bool} (R : RS M b L o s n 0 c) : TOk M M b L o i s n c s n c := ⟨agr_refl _ _, R, rfl, rfl, fun _ _ => rfl, fun _ _ => rfl, Nat.le_refl _, Nat.le_refl _, Nat.le_refl _⟩
theorem RS_cell {b : Nat → Nat} {L s n k c a j : Nat} {o : Bool} {v : Int32} (R : RS M b L o s n k c) (ha : a = 111 ∨ a = 112) : RS (sI M a j v) b L o s n k c := by
  have z : ¬ 109 = a ∧ ¬ 110 = a := by omega
  obtain ⟨r1, r2, r3, r4, r5, r6, r7⟩ := R
  exact ⟨⟨(hI_sI_a z.1).trans r1.1, (hI_sI_a z.1).trans r1.2.1, r1.2.2⟩, (hI_sI_a z.1).trans r2, (hI_sI_a z.1).trans r3, (hI_sI_a z.1).trans r4, (hI_sI_a z.2).trans r5, r6, r7⟩
theorem TOk_cell {M0 : hp} {b : Nat → Nat} {L i s n c s1 n1 c1 w : Nat} {o : Bool} {v : Int32} (h : TOk M0 M b L o i s n c s1 n1 c1) (hw : w < 8) : TOk M0 (sI M 112 (8 * i + w) v) b L o i s n c s1 n1 c1 := by
  obtain ⟨a1, a2, a3, a4, a5, a6, a7, a8, a9⟩ := h
  exact ⟨agr_trans a1 (agr_sI (by decide)), RS_cell a2 (Or.inr rfl), (hI_sI_a (by decide)).trans a3, (hI_sI_a (by decide)).trans a4, fun j hj => (hI_sI_a (by decide)).trans (a5 j hj), fun j hj => (hI_sI_k (by omega)).trans (a6 j hj), a7, a8, a9⟩
theorem TOk_adv {M0 : hp} {b : Nat → Nat} {L i s n c s1 n1 c1 s2 : Nat} {o : Bool} (h : TOk M0 M b L o i s n c s1 n1 c1) (h1 : s1 ≤ s2) (h2 : s2 ≤ L) : TOk M0 (aSt M s2 (tkE b L s2)) b L o i s n c s2 n1 c1 := by
  obtain ⟨a1, a2, a3, a4, a5, a6, a7, a8, a9⟩ := h
  exact ⟨agr_trans a1 (E4 (agr_9 (aSt_agr _ _ _))), RS_adv a2 h1 h2, (hI_aSt_k (by decide) (by decide)).trans a3, (hI_aSt_a (by decide)).trans a4, fun j hj => (hI_aSt_a (by decide)).trans (a5 j hj), fun j hj => (hI_aSt_a (by decide)).trans (a6 j hj), a7, by omega, a9⟩
/-- a fault, or read on with D in the cells from w on -/
def SRes (M0 : hp) (b : Nat → Nat) (L : Nat) (o : Bool) (i w s n c : Nat) (Q : Option Value → hp → Prop) (r : PR) : Prop := match r with
  | .inl q => ∀ M', agr [109, 110, 111, 112] M0 M' → hI M' 109 2 = nI q → Q (some (.int 0)) M'
  | .inr (s1, n1, D) => ∀ M' c1, TOk M0 M' b L o i s n c s1 n1 c1 → (∀ j, ¬ j = 8 * i + w → ¬ j = 8 * i + w + 1 → hI M' 112 j = hI M0 112 j) → Sg M' (nW o) (8 * i + w) c1 D → Q (some (.int 1)) M'
theorem cells2 {b : Nat → Nat} {L s n c i w : Nat} {o : Bool} {v : Int32} (R : RS M b L o s n 0 c) (hw : w < 7) : TOk M (sI (sI M 112 (8 * i + w) v) 112 (8 * i + (w + 1)) (nI c)) b L o i s n c s n c ∧ ∀ j, ¬ j = 8 * i + w → ¬ j = 8 * i + w + 1 → hI (sI (sI M 112 (8 * i + w) v) 112 (8 * i + (w + 1)) (nI c)) 112 j = hI M 112 j := by
  refine ⟨TOk_cell (TOk_cell (TOk_refl R) (by omega)) (by omega), fun j h1 h2 => ?_⟩
  rw [hI_sI_k (by omega), hI_sI_k h1]
theorem readNothing_ok {b : Nat → Nat} {L s n c i w : Nat} {o : Bool} (F : RXF M) (R : RS M b L o s n 0 c) (hi : i < 12) (hw : w < 7) (H : SRes M b L o i w s n c Q (.inr (s, n, oneD))) : Wp none d 68 0 [(0, .ref 109), (1, .int (nI i)), (2, .int (nI w))] [] M Q := by
  have hc := R.2.2.2.2.1
  rw [k68_0 F.1 (by rw [F.2.2.1]; omega) (by rw [F.2.2.1]; exact F.2.2.2.2.2.2.1), F.2.2.1, hc, k68_13 F.2.2.2.2.2.2.1, setCell_ok F hi (by omega)]
  simp only [oZ]
  have F2 : RXF (sI M 112 (8 * i + w) (nI c)) := RXF_of F rfl rfl
  rw [k68_16 F2.1 (by rw [F2.2.2.1]; omega) (by rw [F2.2.2.1]; exact F2.2.2.2.2.2.2.1), F2.2.2.1, hI_sI_a (by decide), hc, nI_1, k68_31 F2.2.2.2.2.2.2.1, setCell_ok F2 hi (by omega)]
  simp only [oZ]
  rw [k68_34]
  have z := cells2 (i := i) (w := w) (v := nI c) R hw
  refine H _ c z.1 z.2 ⟨c, c, ?_, ?_, Nat.le_refl _, Nat.le_refl _, Or.inl ⟨rfl, rfl⟩⟩
  · rw [hI_sI_k (by omega), hI_sI_s]
  · rw [show 8 * i + w + 1 = 8 * i + (w + 1) by omega, hI_sI_s]
/-- behind the first of two cells something is read, then the second -/
theorem seg_fin {M2 : hp} {b : Nat → Nat} {L s n c i w s1 n1 c1 : Nat} {o : Bool} {D : Den} (R : RS M b L o s n 0 c) (hw : w < 7) (ok : ROk (sI M 112 (8 * i + w) (nI c)) M2 b L o s n 0 c s1 n1 c1 D) : TOk M (sI M2 112 (8 * i + (w + 1)) (nI c1)) b L o i s n c s1 n1 c1 ∧ (∀ j, ¬ j = 8 * i + w → ¬ j = 8 * i + w + 1 → hI (sI M2 112 (8 * i + (w + 1)) (nI c1)) 112 j = hI M 112 j) ∧ Sg (sI M2 112 (8 * i + (w + 1)) (nI c1)) (nW o) (8 * i + w) c1 D := by
  obtain ⟨b1, b2, b3, b4, b5, b6, b7, b8, b9⟩ := ok
  have e112 : hI M2 112 = hI (sI M 112 (8 * i + w) (nI c)) 112 := agr_I b1 (by decide)
  have c6 := b6.1
  have n50 := b2.2.2.2.2.2.1
  refine ⟨⟨agr_trans (agr_sI (by decide)) (agr_trans (E4 b1) (agr_sI (by decide))), RS_cell b2 (Or.inr rfl), ?_, ?_, ?_, ?_, by omega, by omega, by omega⟩, ?_, ⟨c, c1, ?_, ?_, by omega, by omega, Or.inr ⟨n1 - n, by omega, ?_⟩⟩⟩
  · rw [hI_sI_a (by decide), b3, hI_sI_a (by decide)]
  · rw [hI_sI_a (by decide), b4, hI_sI_a (by decide)]
  · intro j hj
    rw [hI_sI_a (by decide), b5 j hj, hI_sI_a (by decide)]
  · intro j hj
    rw [hI_sI_k (by omega), e112, hI_sI_k (by omega)]
  · intro j h1 h2
    rw [hI_sI_k (by omega), e112, hI_sI_k h1]
  · rw [hI_sI_k (by omega), e112, hI_sI_s]
  · rw [show 8 * i + w + 1 = 8 * i + (w + 1) by omega, hI_sI_s]
  · exact SegC_cong b6 (fun j _ _ => (hI_sI_a (by decide)).symm)
theorem readSumOf_ok {b : Nat → Nat} {L s n c i w e : Nat} {o : Bool} (F : RXF M) (T : TB M b L) (R : RS M b L o s n 0 c) (hi : i < 12) (hw : w < 7) (H : SRes M b L o i w s n c Q (sumP b L o s n)) : Wp none (8 + e) 69 0 [(0, .ref 109), (1, .int (nI i)), (2, .int (nI w))] [] M Q := by
  have hc := R.2.2.2.2.1
  rw [k69_0 F.1 (by rw [F.2.2.1]; omega) (by rw [F.2.2.1]; exact F.2.2.2.2.2.2.1), F.2.2.1, hc, k69_13 F.2.2.2.2.2.2.1, setCell_ok F hi (by omega)]
  simp only [oZ]
  have F2 : RXF (sI M 112 (8 * i + w) (nI c)) := RXF_of F rfl rfl
  have T2 : TB (sI M 112 (8 * i + w) (nI c)) b L := TB_of T rfl rfl
  rw [k69_16, k69_17 F2.1]
  refine sumOK (termOK (partOK 8 0 e (by omega))) _ s n c _ F2 T2 (RS_cell R (Or.inr rfl)) ?_
  have H : SRes M b L o i w s n c Q (chainP b L (addF b L) (pTerm b L (pPart b L o 8)) s n) := H
  cases hp : chainP b L (addF b L) (pTerm b L (pPart b L o 8)) s n with
  | inl q =>
    rw [hp] at H
    intro M' a1 a2
    have F3 := RXF_agr F2 a1
    simp only [oN]
    rw [k69_20 F3.1 (by rw [F3.2.2.1]; omega) (by rw [F3.2.2.1]; exact F3.2.2.2.2.2.2.1), F3.2.2.1, nI_1, k69_36 F3.2.2.2.2.2.2.1, setCell_ok F3 hi (by omega)]
    simp only [oZ]
    rw [k69_39 (Or.inl rfl)]
    exact H _ (agr_trans (agr_sI (by decide)) (agr_trans a1 (agr_sI (by decide)))) (by rw [hI_sI_a (by decide)]; exact a2)
  | inr x =>
    obtain ⟨s1, n1, D⟩ := x
    rw [hp] at H
    intro M' c1 ok
    have F3 := RXF_agr F2 ok.1
    simp only [oN]
    rw [k69_20 F3.1 (by rw [F3.2.2.1]; omega) (by rw [F3.2.2.1]; exact F3.2.2.2.2.2.2.1), F3.2.2.1, nI_1, ok.2.1.2.2.2.2.1, k69_36 F3.2.2.2.2.2.2.1, setCell_ok F3 hi (by omega)]
    simp only [oZ]
    rw [k69_39 (Or.inr rfl)]
    have z := seg_fin (i := i) (w := w) R hw ok
    exact H _ c1 z.1 z.2.1 z.2.2
theorem wordIf {b : Nat → Nat} {L s : Nat} (F : RXF M) (T : TB M b L) (K : RTk M b L s) : Wp none d 62 0 [(0, .ref 109), (1, .ref 9)] [] M Q = Q (some (.int (if wrd b L s = kwIf then 0 else -1))) M := by
  rw [wordIn_ok F T K (by omega) (by omega) (ss_ok 9 (by omega)).1 (ss_ok 9 (by omega)).2, ws_9]
theorem wordOn {b : Nat → Nat} {L s : Nat} (F : RXF M) (T : TB M b L) (K : RTk M b L s) : Wp none d 62 0 [(0, .ref 109), (1, .ref 5)] [] M Q = Q (some (.int (if wrd b L s = kwOn then 0 else -1))) M := by
  rw [wordIn_ok F T K (by omega) (by omega) (ss_ok 5 (by omega)).1 (ss_ok 5 (by omega)).2, ws_5]
theorem wordIn' {b : Nat → Nat} {L s : Nat} (F : RXF M) (T : TB M b L) (K : RTk M b L s) : Wp none d 62 0 [(0, .ref 109), (1, .ref 6)] [] M Q = Q (some (.int (if wrd b L s = kwIn then 0 else -1))) M := by
  rw [wordIn_ok F T K (by omega) (by omega) (ss_ok 6 (by omega)).1 (ss_ok 6 (by omega)).2, ws_6]
theorem wordTimes {b : Nat → Nat} {L s : Nat} (F : RXF M) (T : TB M b L) (K : RTk M b L s) : Wp none d 62 0 [(0, .ref 109), (1, .ref 7)] [] M Q = Q (some (.int (if wrd b L s = kwTimes then 0 else -1))) M := by
  rw [wordIn_ok F T K (by omega) (by omega) (ss_ok 7 (by omega)).1 (ss_ok 7 (by omega)).2, ws_7]
theorem wordLS {b : Nat → Nat} {L s : Nat} (F : RXF M) (T : TB M b L) (K : RTk M b L s) : Wp none d 62 0 [(0, .ref 109), (1, .ref 8)] [] M Q = Q (some (.int (ixI (wix kwL (wrd b L s))))) M := by
  rw [wordIn_ok F T K (by omega) (by omega) (ss_ok 8 (by omega)).1 (ss_ok 8 (by omega)).2, ws_8]
theorem wordOS {b : Nat → Nat} {L s : Nat} (F : RXF M) (T : TB M b L) (K : RTk M b L s) : Wp none d 62 0 [(0, .ref 109), (1, .ref 2)] [] M Q = Q (some (.int (ixI (wix kwO (wrd b L s))))) M := by
  rw [wordIn_ok F T K (by omega) (by omega) (ss_ok 2 (by omega)).1 (ss_ok 2 (by omega)).2, ws_2]
/-- what stands from s' on is read from there, after a next token -/
theorem SRes_from {M1 : hp} {b : Nat → Nat} {L s n c i w s' : Nat} {o : Bool} {r : PR} (h : TOk M M1 b L o i s n c s' n c) (hc : ∀ j, hI M1 112 j = hI M 112 j) (H : SRes M b L o i w s n c Q r) : SRes M1 b L o i w s' n c Q r := by
  cases r with
  | inl q => intro M' a1 a2; exact H M' (agr_trans h.1 a1) a2
  | inr x =>
    obtain ⟨s1, n1, D⟩ := x
    intro M' c1 a1 a2 a3
    exact H M' c1 (TOk_trans h a1) (fun j q1 q2 => (a2 j q1 q2).trans (hc j)) a3
theorem readIf_ok {b : Nat → Nat} {L s n c i e : Nat} {o : Bool} (F : RXF M) (T : TB M b L) (R : RS M b L o s n 0 c) (hi : i < 12) (H : SRes M b L o i 6 s n c Q (ifP b L o s n)) : Wp none (8 + e) 71 0 [(0, .ref 109), (1, .int (nI i))] [] M Q := by
  unfold ifP at H
  rw [k71_0, k71_3 F.1, wordIf F T R.1]
  simp only [oN]
  rw [k71_6, k71_7]
  by_cases z : wrd b L s = kwIf
  · rw [if_pos z] at H
    have hsL := kw_lt (show lett kwIf = true by decide) z
    have hnx := nx_gt (b := b) hsL
    have hnl := nx_le (b := b) (Nat.le_of_lt hsL)
    rw [if_pos z, if_pos (by decide), k71_18, k71_19 F.1, RTk_next F T R.1]
    simp only [oZ]
    have F1 : RXF (aSt M (nx b L s) (tkE b L (nx b L s))) := RXF_of F rfl rfl
    have R1 := RS_adv R (Nat.le_of_lt hnx) hnl
    have H1 := SRes_from (TOk_adv (TOk_refl (i := i) R) (Nat.le_of_lt hnx) hnl) (fun j => hI_aSt_a (by decide)) H
    have T1 : TB (aSt M (nx b L s) (tkE b L (nx b L s))) b L := TB_agr T (E4 (agr_9 (aSt_agr _ _ _)))
    generalize aSt M (nx b L s) (tkE b L (nx b L s)) = M1 at *
    have hc := R1.2.2.2.2.1
    rw [k71_22 F1.1 (by rw [F1.2.2.1]; omega) (by rw [F1.2.2.1]; exact F1.2.2.2.2.2.2.1), F1.2.2.1, hc, k71_36 F1.2.2.2.2.2.2.1, show (6 : Int32) = nI 6 from rfl, setCell_ok F1 hi (by omega)]
    simp only [oZ]
    have F2 : RXF (sI M1 112 (8 * i + 6) (nI c)) := RXF_of F1 rfl rfl
    have T2 : TB (sI M1 112 (8 * i + 6) (nI c)) b L := TB_of T1 rfl rfl
    rw [k71_39, k71_40 F2.1]
    refine testOK (bothOK (plainOK 8 0 e (by omega))) _ (nx b L s) n c _ F2 T2 (RS_cell R1 (Or.inr rfl)) ?_
    have H2 : SRes M1 b L o i 6 (nx b L s) n c Q (chainP b L (orF b L) (chainP b L (andF b L) (pPlain b L o 8)) (nx b L s) n) := H1
    cases hp : chainP b L (orF b L) (chainP b L (andF b L) (pPlain b L o 8)) (nx b L s) n with
    | inl q =>
      rw [hp] at H2
      intro M' a1 a2
      have F3 := RXF_agr F2 a1
      simp only [oN]
      rw [k71_43 F3.1 (by rw [F3.2.2.1]; omega) (by rw [F3.2.2.1]; exact F3.2.2.2.2.2.2.1), F3.2.2.1, k71_58 F3.2.2.2.2.2.2.1, show (7 : Int32) = nI 7 from rfl, setCell_ok F3 hi (by omega)]
      simp only [oZ]
      rw [k71_61 (Or.inl rfl)]
      exact H2 _ (agr_trans (agr_sI (by decide)) (agr_trans a1 (agr_sI (by decide)))) (by rw [hI_sI_a (by decide)]; exact a2)
    | inr x =>
      obtain ⟨s1, n1, D⟩ := x
      rw [hp] at H2
      intro M' c1 ok
      have F3 := RXF_agr F2 ok.1
      simp only [oN]
      rw [k71_43 F3.1 (by rw [F3.2.2.1]; omega) (by rw [F3.2.2.1]; exact F3.2.2.2.2.2.2.1), F3.2.2.1, ok.2.1.2.2.2.2.1, k71_58 F3.2.2.2.2.2.2.1, show (7 : Int32) = nI 7 from rfl, setCell_ok F3 hi (by omega)]
      simp only [oZ]
      rw [k71_61 (Or.inr rfl)]
      have z := seg_fin (i := i) (w := 6) R1 (by omega) ok
      exact H2 _ c1 z.1 z.2.1 z.2.2
  · rw [if_neg z] at H
    rw [if_neg z, if_neg (by decide), k71_10, k71_14 F.1, show (6 : Int32) = nI 6 from rfl]
    refine readNothing_ok F R hi (by omega) ?_
    intro M' c1 a1 a2 a3
    simp only [oN]
    rw [k71_17 (Or.inr rfl)]
    exact H M' c1 a1 a2 a3
/-- a clause of a law without its "if" -/
def rule1 (b : Nat → Nat) (L s n : Nat) : Sum Nat (Nat × PR) := match wix kwL (wrd b L s) with
  | none => .inl s
  | some k => .inr (k, if k = 2 then .inr (nx b L s, n, oneD) else sumP b L false (nx b L s) n)
def KRes (M0 : hp) (b : Nat → Nat) (L : Nat) (o : Bool) (i s n c : Nat) (Q : Option Value → hp → Prop) (r : Sum Nat (Nat × PR)) : Prop := match r with
  | .inl q => ∀ M', agr [109, 110, 111, 112] M0 M' → hI M' 109 2 = nI q → Q (some (.int 0)) M'
  | .inr (k, r) => match r with
    | .inl q => ∀ M', agr [109, 110, 111, 112] M0 M' → hI M' 109 2 = nI q → Q (some (.int 0)) M'
    | .inr (s1, n1, D) => ∀ M' c1, TOk M0 M' b L o i s n c s1 n1 c1 → hI M' 112 (8 * i) = nI k → Sg M' (nW o) (8 * i + 2) c1 D → s < s1 → Q (some (.int 1)) M'
theorem chain_ge {b : Nat → Nat} {L : Nat} : True := trivial
theorem head_ok {b : Nat → Nat} {L s n c i : Nat} {o : Bool} {k : Nat} (F : RXF M) (T : TB M b L) (R : RS M b L o s n 0 c) (hi : i < 12) (hsL : s < L) : RXF (sI (aSt M (nx b L s) (tkE b L (nx b L s))) 112 (8 * i) (nI k)) ∧ TB (sI (aSt M (nx b L s) (tkE b L (nx b L s))) 112 (8 * i) (nI k)) b L ∧ TOk M (sI (aSt M (nx b L s) (tkE b L (nx b L s))) 112 (8 * i) (nI k)) b L o i s n c (nx b L s) n c ∧ hI (sI (aSt M (nx b L s) (tkE b L (nx b L s))) 112 (8 * i) (nI k)) 112 (8 * i) = nI k := by
  have hnx := nx_gt (b := b) hsL
  have hnl := nx_le (b := b) (Nat.le_of_lt hsL)
  exact ⟨RXF_of F rfl rfl, TB_agr T (agr_trans (E4 (agr_9 (aSt_agr _ _ _))) (agr_sI (by decide))), TOk_cell (w := 0) (TOk_adv (TOk_refl R) (Nat.le_of_lt hnx) hnl) (by omega), hI_sI_s _ _ _ _⟩
theorem readRule_ok {b : Nat → Nat} {L s n c i e : Nat} (F : RXF M) (T : TB M b L) (R : RS M b L false s n 0 c) (hi : i < 12) (H : KRes M b L false i s n c Q (rule1 b L s n)) : Wp none (8 + e) 65 0 [(0, .ref 109), (1, .int (nI i))] [] M Q := by
  rw [k65_0, k65_3 F.1, wordLS F T R.1]
  simp only [oN]
  rw [k65_6, k65_9]
  unfold rule1 at H
  cases hw : wix kwL (wrd b L s) with
  | none =>
    rw [hw] at H
    rw [if_neg (fun z => z rfl), k65_12, k65_13 F.1, fails_ok F R.1]
    simp only [oN]
    rw [k65_16 (Or.inl rfl)]
    exact H _ (agr_f _ _ _) (hI_sI_s _ _ _ _)
  | some k =>
    rw [hw] at H
    have hk3 : k < 3 := wix_lt _ _ _ hw
    have hsL : s < L := wix_lt_L kd_l3 hw
    have hnx := nx_gt (b := b) hsL
    obtain ⟨F1, T1, ok1, e1⟩ := head_ok (i := i) (k := k) F T R hi hsL
    rw [if_pos (show ¬ ixI (some k) = -1 by show ¬ nI k = -1; rw [n_m1 (by omega)]; exact id), k65_17, k65_18 F.1, RTk_next F T R.1]
    simp only [oZ]
    have F0 : RXF (aSt M (nx b L s) (tkE b L (nx b L s))) := RXF_of F rfl rfl
    rw [k65_21 F0.1 (by rw [F0.2.2.1]; omega), F0.2.2.1, k65_28 F0.2.2.2.2.2.2.1, show (0 : Int32) = nI 0 from rfl, setCell_ok F0 hi (by omega), Nat.add_zero]
    simp only [oZ]
    rw [show ixI (some k) = nI k from rfl]
    generalize sI (aSt M (nx b L s) (tkE b L (nx b L s))) 112 (8 * i) (nI k) = M1 at *
    have R1 := ok1.2.1
    have fin : SRes M1 b L false i 2 (nx b L s) n c (fun r M1 => Wp none (8 + e) 65 51 [(0, .ref 109), (1, .int (nI i)), (2, .int (nI k))] (r.toList ++ []) M1 Q) (if k = 2 then .inr (nx b L s, n, oneD) else sumP b L false (nx b L s) n) := by
      have H : KRes M b L false i s n c Q (.inr (k, if k = 2 then .inr (nx b L s, n, oneD) else sumP b L false (nx b L s) n)) := H
      cases hr : (if k = 2 then .inr (nx b L s, n, oneD) else sumP b L false (nx b L s) n : PR) with
      | inl q =>
        rw [hr] at H
        intro M' a1 a2
        simp only [oN]
        rw [k65_51 (Or.inl rfl)]
        exact H M' (agr_trans ok1.1 a1) a2
      | inr x =>
        obtain ⟨s1, n1, D⟩ := x
        rw [hr] at H
        intro M' c1 a1 a2 a3
        simp only [oN]
        rw [k65_51 (Or.inr rfl)]
        exact H M' c1 (TOk_trans ok1 a1) (by rw [a2 (8 * i) (by omega) (by omega)]; exact e1) a3 (by have := a1.2.2.2.2.2.2.2.1; omega)
    rw [k65_31, k65_33]
    by_cases c2 : k = 2
    · rw [if_pos c2] at fin
      rw [if_neg (fun z => z (by rw [c2]; rfl)), k65_36, k65_39 F1.1, show (2 : Int32) = nI 2 from rfl]
      refine readNothing_ok F1 R1 hi (by omega) ?_
      intro M' c1 a1 a2 a3
      simp only [oN]
      rw [k65_42]
      have := fin M' c1 a1 a2 a3
      simp only [oN] at this
      exact this
    · rw [if_neg c2] at fin
      rw [if_pos (by rw [show (2 : Int32) = nI 2 from rfl, n_eq (by omega) (by omega)]; exact c2), k65_45, k65_48 F1.1, show (2 : Int32) = nI 2 from rfl]
      exact readSumOf_ok F1 T1 R1 hi (by omega) fin
