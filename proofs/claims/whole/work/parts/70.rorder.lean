variable {d : Nat} {M : hp} {Q : Option Value → hp → Prop}
theorem ro_bad {dd : Nat} {x1 x2 : Int32} : Wp none dd 66 134 [(0, .ref 109), (1, .int x1), (2, .int x2), (3, .int 0)] [] M Q = Q (some (.int 0)) M := by
  rw [k66_134, k66_135, if_pos rfl, k66_150, k66_151 (Or.inl rfl)]
theorem ro_bad51 {dd : Nat} {x1 x2 : Int32} : Wp none dd 66 51 [(0, .ref 109), (1, .int x1), (2, .int x2)] [.int 0] M Q = Q (some (.int 0)) M := by
  rw [k66_51, k66_53, if_pos rfl, k66_87, k66_88, if_pos rfl, k66_123, k66_124, if_pos rfl, ro_bad]
theorem ro_bad75 {dd : Nat} {x1 x2 : Int32} : Wp none dd 66 75 [(0, .ref 109), (1, .int x1), (2, .int x2), (3, .int 1)] [.int 0] M Q = Q (some (.int 0)) M := by
  rw [k66_75, if_pos rfl, k66_82, k66_83, ro_bad]
theorem ro_bad66 {dd : Nat} {x1 x2 : Int32} : Wp none dd 66 66 [(0, .ref 109), (1, .int x1), (2, .int x2), (3, .int 1)] [.int 0] M Q = Q (some (.int 0)) M := by
  rw [k66_66, if_pos rfl, k66_82, k66_83, ro_bad]
theorem ro_bad111 {dd : Nat} {x1 x2 : Int32} : Wp none dd 66 111 [(0, .ref 109), (1, .int x1), (2, .int x2), (3, .int 1)] [.int 0] M Q = Q (some (.int 0)) M := by
  rw [k66_111, if_pos rfl, k66_118, k66_119, ro_bad]
theorem ro_bad102 {dd : Nat} {x1 x2 : Int32} : Wp none dd 66 102 [(0, .ref 109), (1, .int x1), (2, .int x2), (3, .int 1)] [.int 0] M Q = Q (some (.int 0)) M := by
  rw [k66_102, if_pos rfl, k66_118, k66_119, ro_bad]
def ORes (M0 : hp) (b : Nat → Nat) (L i s n c : Nat) (Q : Option Value → hp → Prop) (r : Sum Nat (Nat × Nat × Nat × Nat × Den × Den)) : Prop := match r with
  | .inl q => ∀ M', agr [109, 110, 111, 112] M0 M' → hI M' 109 2 = nI q → Q (some (.int 0)) M'
  | .inr (s3, n2, k, t, D1, D2) => ∀ M' c3, TOk M0 M' b L true i s n c s3 n2 c3 → hI M' 112 (8 * i) = nI k → hI M' 112 (8 * i + 1) = nI t → Sg M' 18 (8 * i + 2) c3 D1 → Sg M' 18 (8 * i + 4) c3 D2 → Q (some (.int 1)) M'
theorem Sg_T {M M' : hp} {b : Nat → Nat} {L i s n c s1 n1 c1 N k : Nat} {o : Bool} {D : Den} (g : Sg M N k c D) (ok : TOk M M' b L o i s n c s1 n1 c1) (h1 : hI M' 112 k = hI M 112 k) (h2 : hI M' 112 (k + 1) = hI M 112 (k + 1)) : Sg M' N k c1 D := Sg_keep g ok.2.2.2.2.1 h1 h2 ok.2.2.2.2.2.2.1
/-- behind the sums -/
theorem ro_times {M0 : hp} {b : Nat → Nat} {L i s n c s2 n2 c2 e k : Nat} {D1 D2 : Den} {x2 : Int32} (F : RXF M0) (T : TB M0 b L) (hi : i < 12) (ok : TOk M0 M b L true i s n c s2 n2 c2) (hk : hI M 112 (8 * i) = nI k) (g1 : Sg M 18 (8 * i + 2) c2 D1) (g2 : Sg M 18 (8 * i + 4) c2 D2) (H : ORes M0 b L i s n c Q (match timP b L s2 with
    | .inl q => .inl q
    | .inr (s3, t) => .inr (s3, n2, k, t, D1, D2))) : Wp none (8 + e) 66 134 [(0, .ref 109), (1, .int (nI i)), (2, .int x2), (3, .int 1)] [] M Q := by
  have F1 := RXF_agr F ok.1
  have T1 := TB_agr T ok.1
  rw [k66_134, k66_135, if_neg (by decide), k66_138, k66_140 F1.1]
  refine readTimes_ok F1 T1 ok.2.1 hi ?_
  cases ht : timP b L s2 with
  | inl q =>
    rw [ht] at H
    intro M' a1 a2
    simp only [oN]
    rw [k66_143, if_pos rfl, k66_150, k66_151 (Or.inl rfl)]
    exact H M' (agr_trans ok.1 a1) a2
  | inr x =>
    obtain ⟨s3, t⟩ := x
    rw [ht] at H
    intro M' ok2 e1 e2
    simp only [oN]
    rw [k66_143, if_neg (by decide), k66_146, k66_151 (Or.inr rfl)]
    exact H M' c2 (TOk_trans ok ok2) ((e1 _ (by omega)).trans hk) e2 (Sg_T g1 ok2 (e1 _ (by omega)) (e1 _ (by omega))) (Sg_T g2 ok2 (e1 _ (by omega)) (e1 _ (by omega)))
/-- behind the first sum -/
theorem ro_second {M0 : hp} {b : Nat → Nat} {L i s n c s1 n1 c1 e k : Nat} {D1 : Den} (F : RXF M0) (T : TB M0 b L) (hi : i < 12) (hk4 : k < 4) (ok : TOk M0 M b L true i s n c s1 n1 c1) (hk : hI M 112 (8 * i) = nI k) (g1 : Sg M 18 (8 * i + 2) c1 D1) (H : ORes M0 b L i s n c Q (match (if k = 0 then behP b L s1 n1 kwOn else if k = 2 then behP b L s1 n1 kwIn else .inr (s1, n1, oneD) : PR) with
    | .inl q => .inl q
    | .inr (s2, n2, D2) => match timP b L s2 with
      | .inl q => .inl q
      | .inr (s3, t) => .inr (s3, n2, k, t, D1, D2))) : Wp none (8 + e) 66 51 [(0, .ref 109), (1, .int (nI i)), (2, .int (nI k))] [.int 1] M Q := by
  have F1 := RXF_agr F ok.1
  have T1 := TB_agr T ok.1
  have R1 := ok.2.1
  -- the second sum is read
  have fin : ∀ (Q' : Option Value → hp → Prop), (∀ M', Q' (some (.int 0)) M' = Q (some (.int 0)) M') → (∀ M', Q' (some (.int 1)) M' = Wp none (8 + e) 66 134 [(0, .ref 109), (1, .int (nI i)), (2, .int (nI k)), (3, .int 1)] [] M' Q) → SRes M b L true i 4 s1 n1 c1 Q' (if k = 0 then behP b L s1 n1 kwOn else if k = 2 then behP b L s1 n1 kwIn else .inr (s1, n1, oneD) : PR) := by
    intro Q' hN hY
    cases hr : (if k = 0 then behP b L s1 n1 kwOn else if k = 2 then behP b L s1 n1 kwIn else .inr (s1, n1, oneD) : PR) with
    | inl q =>
      rw [hr] at H
      intro M' a1 a2
      rw [hN]
      exact H M' (agr_trans ok.1 a1) a2
    | inr x =>
      obtain ⟨s2, n2, D2⟩ := x
      rw [hr] at H
      intro M' c2 ok2 e2 g2
      rw [hY]
      exact ro_times F T hi (TOk_trans ok ok2) ((e2 _ (by omega) (by omega)).trans hk) (Sg_T g1 ok2 (e2 _ (by omega) (by omega)) (e2 _ (by omega) (by omega))) g2 H
  rw [k66_51, k66_53, if_neg (by decide), k66_56, k66_57]
  by_cases c0 : k = 0
  · rw [if_pos c0] at fin
    have e0 : nI k = 0 := by rw [c0]; rfl
    rw [if_neg (fun z => z e0), k66_60, k66_63 F1.1]
    refine behind_ok (x3 := 0) (w := kwOn) (e := e) (i := i) (Q := fun r M1 => Wp none (8 + e) 66 75 [(0, .ref 109), (1, .int (nI i)), (2, .int (nI k)), (3, .int 1)] (r.toList ++ []) M1 Q) F1 T1 R1 hi (by decide) (fun d Q => wordOn F1 T1 R1.1) _ ?_ ?_ (fin _ ?_ ?_)
    · intro M'
      simp only [oN]
      rw [ro_bad66, ro_bad75]
    · intro M' F2
      simp only [oN]
      rw [k66_66, if_neg (by decide), k66_69, k66_72 F2.1, show (4 : Int32) = nI 4 from rfl]
    · intro M'
      simp only [oN]
      rw [ro_bad75]
    · intro M'
      simp only [oN]
      rw [k66_75, if_neg (by decide), k66_78, k66_83]
  · rw [if_neg c0] at fin
    have e0 : ¬ nI k = 0 := by rw [show (0 : Int32) = nI 0 from rfl, n_eq (by omega) (by omega)]; exact c0
    rw [if_pos e0, k66_87, k66_88, if_neg (by decide), k66_91, k66_93]
    by_cases c2 : k = 2
    · rw [if_pos c2] at fin
      have e2 : nI k = 2 := by rw [c2]; rfl
      rw [if_neg (fun z => z e2), k66_96, k66_99 F1.1]
      refine behind_ok (x3 := 0) (w := kwIn) (e := e) (i := i) (Q := fun r M1 => Wp none (8 + e) 66 111 [(0, .ref 109), (1, .int (nI i)), (2, .int (nI k)), (3, .int 1)] (r.toList ++ []) M1 Q) F1 T1 R1 hi (by decide) (fun d Q => wordIn' F1 T1 R1.1) _ ?_ ?_ (fin _ ?_ ?_)
      · intro M'
        simp only [oN]
        rw [ro_bad102, ro_bad111]
      · intro M' F2
        simp only [oN]
        rw [k66_102, if_neg (by decide), k66_105, k66_108 F2.1, show (4 : Int32) = nI 4 from rfl]
      · intro M'
        simp only [oN]
        rw [ro_bad111]
      · intro M'
        simp only [oN]
        rw [k66_111, if_neg (by decide), k66_114, k66_119]
    · rw [if_neg c2] at fin
      have e2 : ¬ nI k = 2 := by rw [show (2 : Int32) = nI 2 from rfl, n_eq (by omega) (by omega)]; exact c2
      rw [if_pos e2, k66_123, k66_124, if_neg (by decide), k66_127, k66_130 F1.1, show (4 : Int32) = nI 4 from rfl]
      refine readNothing_ok F1 R1 hi (by omega) (fin _ ?_ ?_)
      · intro M'
        simp only [oN]
        rw [k66_133, ro_bad]
      · intro M'
        simp only [oN]
        rw [k66_133]
theorem readOrder_ok {b : Nat → Nat} {L s n c i e : Nat} (F : RXF M) (T : TB M b L) (R : RS M b L true s n 0 c) (hi : i < 12) (H : ORes M b L i s n c Q (order1 b L s n)) : Wp none (8 + e) 66 0 [(0, .ref 109), (1, .int (nI i))] [] M Q := by
  rw [k66_0, k66_3 F.1, wordOS F T R.1]
  simp only [oN]
  rw [k66_6, k66_9]
  unfold order1 at H
  cases hw : wix kwO (wrd b L s) with
  | none =>
    rw [hw] at H
    rw [if_neg (fun z => z rfl), k66_12, k66_13 F.1, fails_ok F R.1]
    simp only [oN]
    rw [k66_16 (Or.inl rfl)]
    exact H _ (agr_f _ _ _) (hI_sI_s _ _ _ _)
  | some k =>
    rw [hw] at H
    have hk4 : k < 4 := wix_lt _ _ _ hw
    have hsL : s < L := wix_lt_L kd_l4 hw
    have hnx := nx_gt (b := b) hsL
    obtain ⟨F1, T1, ok1, e1⟩ := head_ok (i := i) (k := k) F T R hi hsL
    rw [if_pos (show ¬ ixI (some k) = -1 by show ¬ nI k = -1; rw [n_m1 (by omega)]; exact id), k66_17, k66_18 F.1, RTk_next F T R.1]
    simp only [oZ]
    have F0 : RXF (aSt M (nx b L s) (tkE b L (nx b L s))) := RXF_of F rfl rfl
    rw [k66_21 F0.1 (by rw [F0.2.2.1]; omega), F0.2.2.1, k66_28 F0.2.2.2.2.2.2.1, show (0 : Int32) = nI 0 from rfl, setCell_ok F0 hi (by omega), Nat.add_zero]
    simp only [oZ]
    rw [show ixI (some k) = nI k from rfl]
    generalize sI (aSt M (nx b L s) (tkE b L (nx b L s))) 112 (8 * i) (nI k) = M1 at *
    have R1 := ok1.2.1
    have fin : SRes M1 b L true i 2 (nx b L s) n c (fun r M1 => Wp none (8 + e) 66 51 [(0, .ref 109), (1, .int (nI i)), (2, .int (nI k))] (r.toList ++ []) M1 Q) (if k = 3 then .inr (nx b L s, n, oneD) else sumP b L true (nx b L s) n) := by
      have H : ORes M b L i s n c Q (match (if k = 3 then .inr (nx b L s, n, oneD) else sumP b L true (nx b L s) n : PR) with
        | .inl q => .inl q
        | .inr (s1, n1, D1) => match (if k = 0 then behP b L s1 n1 kwOn else if k = 2 then behP b L s1 n1 kwIn else .inr (s1, n1, oneD) : PR) with
          | .inl q => .inl q
          | .inr (s2, n2, D2) => match timP b L s2 with
            | .inl q => .inl q
            | .inr (s3, t) => .inr (s3, n2, k, t, D1, D2)) := H
      cases hr : (if k = 3 then .inr (nx b L s, n, oneD) else sumP b L true (nx b L s) n : PR) with
      | inl q =>
        rw [hr] at H
        intro M' a1 a2
        simp only [oN]
        rw [ro_bad51]
        exact H M' (agr_trans ok1.1 a1) a2
      | inr x =>
        obtain ⟨s1, n1, D⟩ := x
        rw [hr] at H
        intro M' c1 a1 a2 a3
        simp only [oN]
        exact ro_second F T hi hk4 (TOk_trans ok1 a1) (by rw [a2 (8 * i) (by omega) (by omega)]; exact e1) a3 H
    rw [k66_31, k66_33]
    by_cases c3 : k = 3
    · rw [if_pos c3] at fin
      rw [if_neg (fun z => z (by rw [c3]; rfl)), k66_36, k66_39 F1.1, show (2 : Int32) = nI 2 from rfl]
      refine readNothing_ok F1 R1 hi (by omega) ?_
      intro M' c1 a1 a2 a3
      simp only [oN]
      rw [k66_42]
      have := fin M' c1 a1 a2 a3
      simp only [oN] at this
      exact this
    · rw [if_neg c3] at fin
      rw [if_pos (by rw [show (3 : Int32) = nI 3 from rfl, n_eq (by omega) (by omega)]; exact c3), k66_45, k66_48 F1.1, show (2 : Int32) = nI 2 from rfl]
      exact readSumOf_ok F1 T1 R1 hi (by omega) fin
theorem orderOK {b : Nat → Nat} {L e : Nat} : ClOK b L true (8 + e) OrdR (orderP b L) := by
  intro M i s n c x1 Q F T R hi H
  rw [orderP_1] at H
  rw [k56_13 F.1, R.2.2.2.1, k56_17, bz_t (show true = true from rfl), if_neg (by decide), k56_20, k56_22 F.1]
  refine readOrder_ok F T R hi ?_
  cases hr : order1 b L s n with
  | inl q =>
    rw [hr] at H
    intro M' a1 a2
    simp only [oN]
    rw [k56_25, k56_33, k56_35, if_pos rfl, k56_46]
    exact H M' a1 a2
  | inr y =>
    obtain ⟨s3, n2, k, t, D1, D2⟩ := y
    rw [hr] at H
    intro M' c3 ok e1 e2 g1 g2
    have F1 := RXF_agr F ok.1
    have T1 := TB_agr T ok.1
    simp only [oN]
    rw [k56_25, k56_33, k56_35, if_neg (by decide), k56_38, k56_40 F1.1]
    refine readIf_ok F1 T1 ok.2.1 hi ?_
    cases hf : ifP b L true s3 n2 with
    | inl q =>
      simp only [hf] at H
      intro M2 a1 a2
      simp only [oN]
      rw [k56_43, if_neg (fun z => z rfl), k56_46]
      exact H M2 (agr_trans ok.1 a1) a2
    | inr w =>
      obtain ⟨s4, n4, D3⟩ := w
      simp only [hf] at H
      intro M2 c4 ok2 e3 g3
      simp only [oN]
      rw [k56_43, if_pos (by decide)]
      refine H M2 c4 (TOk_trans ok ok2) ⟨(e3 _ (by omega) (by omega)).trans e1, (e3 _ (by omega) (by omega)).trans e2, Sg_T g1 ok2 (e3 _ (by omega) (by omega)) (e3 _ (by omega) (by omega)), Sg_T g2 ok2 (e3 _ (by omega) (by omega)) (e3 _ (by omega) (by omega)), g3⟩
theorem read_ord {b : Nat → Nat} {L e : Nat} (F : RXF M) (T : TB M b L) (H : LRes M OrdR Q (ordP b L)) : Wp none (8 + e) 56 0 [(0, .ref 109), (1, .int 1)] [] M Q := by
  rw [k56_0, k56_2 F.1, show (1 : Int32) = bz (true = true) from rfl]
  refine begin_ok F T ?_
  intro M' a1 R f
  have a2 : agr [109, 110, 111, 112] M M' := agr_mono a1 (by intro x q; simp at q ⊢; omega)
  simp only [oZ]
  rw [k56_5, show (0 : Int32) = nI 0 from rfl]
  exact read_loop orderOK (fun M M' i j c c1 x h k hj => OrdR_keep h k hj) F T _ 12 0 _ 0 0 _ M' (by omega) a2 R f (fun j hj => absurd hj (by omega)) H
