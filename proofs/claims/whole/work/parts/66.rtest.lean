variable {d : Nat} {M : hp} {Q : Option Value → hp → Prop}
theorem RS_ema {b : Nat → Nat} {L s n k c s' : Nat} {o : Bool} {x : Int32} (R : RS M b L o s n k c) (h : s < s') (h2 : s' ≤ L) : RS (aSt (emM M c x) s' (tkE b L s')) b L o s' n k (c + 1) := by
  obtain ⟨r1, r2, r3, r4, r5, r6, r7⟩ := R
  refine ⟨aSt_tk h2, ?_, ?_, ?_, ?_, r6, by omega⟩
  · rw [hI_aSt_k (by decide) (by decide), hI_emM_9]; exact r2
  · rw [hI_aSt_k (by decide) (by decide), hI_emM_9]; exact r3
  · rw [hI_aSt_k (by decide) (by decide), hI_emM_9]; exact r4
  · rw [hI_aSt_a (by decide)]; unfold emM; rw [hI_sI_s]
theorem ROk_jmp {M0 M M2 : hp} {b : Nat → Nat} {L s n k c s1 n1 c1 s' s2 n2 c2 oo : Nat} {o : Bool} {D D1 : Den} {x : Int32} (h1 : ROk M0 M b L o s n k c s1 n1 c1 D) (hs : s1 < s') (h2 : ROk (aSt (emM M c1 x) s' (tkE b L s')) M2 b L o s' n1 k (c1 + 1) s2 n2 c2 D1) (hoo : oo = 11 ∨ oo = 12) (hL : L ≤ 400) : hI M2 110 2 = nI c2 ∧ c1 < 400 ∧ ROk M0 (sI M2 111 c1 (eItm (nI c2) (nI oo))) b L o s n k c s2 n2 c2 (if oo = 11 then andD D D1 else orD D D1) := by
  obtain ⟨a1, a2, a3, a4, a5, a6, a7, a8, a9⟩ := h1
  obtain ⟨b1, b2, b3, b4, b5, b6, b7, b8, b9⟩ := h2
  have hs2 := b2.1.2.2
  have hc1 := a6.1
  have hc2 := b6.1
  have hc3 := b2.2.2.2.2.2.2
  have de := dec_op (v := c2) (o := oo) (by omega) (by omega)
  refine ⟨b2.2.2.2.2.1, by omega, agr_trans a1 (agr_trans (emM_agr _ _ _) (agr_trans (agr_9 (aSt_agr _ _ _)) (agr_trans b1 (agr_sI (by decide))))), ?_, ?_, ?_, ?_, ?_, by omega, by omega, by omega⟩
  · obtain ⟨r1, r2, r3, r4, r5, r6, r7⟩ := b2
    exact ⟨⟨(hI_sI_a (by decide)).trans r1.1, (hI_sI_a (by decide)).trans r1.2.1, r1.2.2⟩, (hI_sI_a (by decide)).trans r2, (hI_sI_a (by decide)).trans r3, (hI_sI_a (by decide)).trans r4, (hI_sI_a (by decide)).trans r5, r6, r7⟩
  · rw [hI_sI_a (by decide), b3, hI_aSt_k (by decide) (by decide), hI_emM_9, a3]
  · rw [hI_sI_a (by decide), b4, hI_aSt_a (by decide)]
    unfold emM
    rw [hI_sI_k (by decide), hI_sI_a (by decide), a4]
  · intro i hi
    rw [hI_sI_k (by omega), b5 i (by omega), hI_aSt_a (by decide), hI_emM_o (by omega), a5 i hi]
  · have hA : SegC (nW o) (hI (sI M2 111 c1 (eItm (nI c2) (nI oo))) 111) c c1 (n1 - n) D := SegC_cong a6 (fun j q1 q2 => by
      rw [hI_sI_k (by omega), b5 j (by omega), hI_aSt_a (by decide), hI_emM_o (by omega)])
    have hB : SegC (nW o) (hI (sI M2 111 c1 (eItm (nI c2) (nI oo))) 111) (c1 + 1) c2 (n2 - n1) D1 := SegC_cong b6 (fun j q1 q2 => by
      rw [hI_sI_k (by omega)])
    rcases hoo with e | e
    · subst e
      rw [if_pos rfl]
      have := SegC_and hA hB (by rw [hI_sI_s]; exact de.1) (by rw [hI_sI_s]; exact de.2) (by omega)
      rw [show n1 - n + (n2 - n1) = n2 - n by omega] at this
      exact this
    · subst e
      rw [if_neg (by decide)]
      have := SegC_or hA hB (by rw [hI_sI_s]; exact de.1) (by rw [hI_sI_s]; exact de.2) (by omega)
      rw [show n1 - n + (n2 - n1) = n2 - n by omega] at this
      exact this
theorem kw_lt {b : Nat → Nat} {L s : Nat} {w : List Nat} (hw : lett w = true) (h : wrd b L s = w) : s < L := by
  apply Nat.lt_of_not_le
  intro c
  exact wrd_ne hw (fun z => absurd z.1 (by omega)) h
theorem wordAnd {b : Nat → Nat} {L s : Nat} (F : RXF M) (T : TB M b L) (K : RTk M b L s) : Wp none d 62 0 [(0, .ref 109), (1, .ref 11)] [] M Q = Q (some (.int (if wrd b L s = kwAnd then 0 else -1))) M := by
  rw [wordIn_ok F T K (by omega) (by omega) (ss_ok 11 (by omega)).1 (ss_ok 11 (by omega)).2, ws_11]
theorem wordOr {b : Nat → Nat} {L s : Nat} (F : RXF M) (T : TB M b L) (K : RTk M b L s) : Wp none d 62 0 [(0, .ref 109), (1, .ref 12)] [] M Q = Q (some (.int (if wrd b L s = kwOr then 0 else -1))) M := by
  rw [wordIn_ok F T K (by omega) (by omega) (ss_ok 12 (by omega)).1 (ss_ok 12 (by omega)).2, ws_12]
theorem wordNot {b : Nat → Nat} {L s : Nat} (F : RXF M) (T : TB M b L) (K : RTk M b L s) : Wp none d 62 0 [(0, .ref 109), (1, .ref 10)] [] M Q = Q (some (.int (if wrd b L s = kwNot then 0 else -1))) M := by
  rw [wordIn_ok F T K (by omega) (by omega) (ss_ok 10 (by omega)).1 (ss_ok 10 (by omega)).2, ws_10]
/-- what holds together -/
theorem bothOK {b : Nat → Nat} {L : Nat} {o : Bool} {dd k : Nat} {part : Nat → Nat → PR} (hP : PartOK b L o 74 dd k part) : PartOK b L o 73 dd k (chainP b L (andF b L) part) := by
  intro M0 s0 n0 c0 Q F0 T0 R0 H
  have L4 := T0.2.1
  have bad : ∀ (M : hp) (i q : Nat), agr [109, 110, 111, 112] M0 M → hI M 109 2 = nI q → (∀ M', agr [109, 110, 111, 112] M0 M' → hI M' 109 2 = nI q → Q (some (.int 0)) M') → Wp none dd 73 7 [(0, .ref 109), (1, .int 0), (2, .int (nI i))] [] M Q := by
    intro M i q a1 a2 a3
    rw [k73_7, k73_11, k73_14, k73_15, if_pos rfl, k73_71 (Or.inl rfl)]
    split
    · exact a3 M a1 a2
    · exact a3 M a1 a2
  have loop : ∀ (f i s n c : Nat) (D : Den) (M : hp), f + i = 400 → ROk M0 M b L o s0 n0 k c0 s n c D → RRes M0 b L o s0 n0 k c0 Q (loopP b L (andF b L) part f s n D) → Wp none dd 73 7 [(0, .ref 109), (1, .int 1), (2, .int (nI i))] [] M Q := by
    intro f
    induction f with
    | zero =>
      intro i s n c D M e ok hr
      have : i = 400 := by omega
      subst this
      rw [k73_7, k73_11, if_pos (by decide), k73_71 (Or.inr rfl)]
      exact hr M c ok
    | succ f ih =>
      intro i s n c D M e ok hr
      have F : RXF M := RXF_agr F0 ok.1
      have T : TB M b L := TB_agr T0 (E4 ok.1)
      have K := ok.2.1.1
      have hcs := ok.2.1.2.2.2.2.2.2
      rw [k73_7, k73_11, if_neg (by show ¬ nI 400 ≤ nI i; rw [n_le (by omega) (by omega)]; omega), k73_14, k73_15, if_neg (by decide), k73_18, k73_21 F.1, wordAnd F T K]
      simp only [oN]
      rw [k73_24, k73_25]
      by_cases z : wrd b L s = kwAnd
      · have hsL := kw_lt (show lett kwAnd = true by decide) z
        have hnx := nx_gt (b := b) hsL
        have hnl := nx_le (b := b) (Nat.le_of_lt hsL)
        rw [if_pos z, if_neg (by decide), k73_28 F.1 (by rw [F.2.2.1]; omega) (by rw [F.2.2.1]; exact F.2.2.2.2.2.2.1), F.2.2.1, ok.2.1.2.2.2.2.1, k73_43 F.2.2.2.2.2.2.1, emit_ok F ok.2.1.2.2.2.2.1 (by omega)]
        simp only [oZ]
        have K1 : RTk (emM M c (eItm 0 11)) b L s := by unfold RTk; rw [hI_emM_9]; exact K
        have F1 : RXF (emM M c (eItm 0 11)) := RXF_of F rfl rfl
        have T1 : TB (emM M c (eItm 0 11)) b L := TB_agr T (E4 (emM_agr _ _ _))
        rw [k73_46, k73_47 F1.1, RTk_next F1 T1 K1]
        simp only [oZ]
        have F2 : RXF (aSt (emM M c (eItm 0 11)) (nx b L s) (tkE b L (nx b L s))) := RXF_of F rfl rfl
        have a2 : agr [109, 110, 111, 112] M (aSt (emM M c (eItm 0 11)) (nx b L s) (tkE b L (nx b L s))) := agr_trans (E4 (emM_agr _ _ _)) (E4 (agr_9 (aSt_agr _ _ _)))
        rw [k73_50, k73_51 F2.1]
        refine hP _ (nx b L s) n (c + 1) _ F2 (TB_agr T a2) (RS_ema ok.2.1 hnx hnl) ?_
        have hr2 : RRes M0 b L o s0 n0 k c0 Q (match part (nx b L s) n with
          | .inl q => .inl q
          | .inr (s1, n1, D1) => loopP b L (andF b L) part f s1 n1 (andD D D1)) := by
          have : loopP b L (andF b L) part (f + 1) s n D = (match part (nx b L s) n with
            | .inl q => .inl q
            | .inr (s1, n1, D1) => loopP b L (andF b L) part f s1 n1 (andD D D1)) := by
            show (match andF b L s with | none => _ | some f' => _) = _
            unfold andF
            rw [if_pos z]
            rfl
          rw [← this]
          exact hr
        cases hp : part (nx b L s) n with
        | inl q =>
          rw [hp] at hr2
          intro M' b1 b2
          have F3 := RXF_agr F2 b1
          simp only [oN]
          rw [k73_54 F3.1 (by rw [F3.2.2.1]; omega), F3.2.2.1, k73_62 F3.2.2.2.2.2.2.1]
          refine jump_any F3 ?_
          intro M3 a4
          simp only [oZ]
          rw [k73_65, nI_1]
          exact bad M3 (i + 1) q (agr_trans (E4 ok.1) (agr_trans a2 (agr_trans b1 (E42 a4)))) (by rw [agr_I a4 (by decide)]; exact b2) hr2
        | inr x =>
          obtain ⟨s1, n1, D1⟩ := x
          rw [hp] at hr2
          intro M' c1 ok1
          have F3 := RXF_agr F2 ok1.1
          obtain ⟨q0, q1, q2⟩ := ROk_jmp ok hnx ok1 (oo := 11) (by omega) L4
          simp only [oN]
          rw [k73_54 F3.1 (by rw [F3.2.2.1]; omega), F3.2.2.1, k73_62 F3.2.2.2.2.2.2.1, jump_ok F3 q1, q0]
          simp only [oZ]
          rw [k73_65, nI_1]
          exact ih (i + 1) s1 n1 c1 _ _ (by omega) q2 hr2
      · rw [if_neg z, if_pos rfl, k73_71 (Or.inr rfl)]
        have hr2 : RRes M0 b L o s0 n0 k c0 Q (.inr (s, n, D)) := by
          have : loopP b L (andF b L) part (f + 1) s n D = .inr (s, n, D) := by
            show (match andF b L s with | none => _ | some f' => _) = _
            unfold andF
            rw [if_neg z]
          rw [← this]
          exact hr
        exact hr2 M c ok
  rw [k73_0, k73_1 F0.1]
  refine hP M0 s0 n0 c0 _ F0 T0 R0 ?_
  have H2 : RRes M0 b L o s0 n0 k c0 Q (match part s0 n0 with
    | .inl q => .inl q
    | .inr (s1, n1, D) => loopP b L (andF b L) part 400 s1 n1 D) := H
  cases hp : part s0 n0 with
  | inl q =>
    rw [hp] at H2
    intro M' a1 a2
    simp only [oN]
    rw [k73_4]
    exact bad M' 0 q a1 a2 H2
  | inr x =>
    obtain ⟨s1, n1, D⟩ := x
    rw [hp] at H2
    intro M' c1 ok
    simp only [oN]
    rw [k73_4]
    exact loop 400 0 s1 n1 c1 D M' (by omega) ok H2
/-- a test -/
theorem testOK {b : Nat → Nat} {L : Nat} {o : Bool} {dd k : Nat} {part : Nat → Nat → PR} (hP : PartOK b L o 73 dd k part) : PartOK b L o 72 dd k (chainP b L (orF b L) part) := by
  intro M0 s0 n0 c0 Q F0 T0 R0 H
  have L4 := T0.2.1
  have bad : ∀ (M : hp) (i q : Nat), agr [109, 110, 111, 112] M0 M → hI M 109 2 = nI q → (∀ M', agr [109, 110, 111, 112] M0 M' → hI M' 109 2 = nI q → Q (some (.int 0)) M') → Wp none dd 72 7 [(0, .ref 109), (1, .int 0), (2, .int (nI i))] [] M Q := by
    intro M i q a1 a2 a3
    rw [k72_7, k72_11, k72_14, k72_15, if_pos rfl, k72_71 (Or.inl rfl)]
    split
    · exact a3 M a1 a2
    · exact a3 M a1 a2
  have loop : ∀ (f i s n c : Nat) (D : Den) (M : hp), f + i = 400 → ROk M0 M b L o s0 n0 k c0 s n c D → RRes M0 b L o s0 n0 k c0 Q (loopP b L (orF b L) part f s n D) → Wp none dd 72 7 [(0, .ref 109), (1, .int 1), (2, .int (nI i))] [] M Q := by
    intro f
    induction f with
    | zero =>
      intro i s n c D M e ok hr
      have : i = 400 := by omega
      subst this
      rw [k72_7, k72_11, if_pos (by decide), k72_71 (Or.inr rfl)]
      exact hr M c ok
    | succ f ih =>
      intro i s n c D M e ok hr
      have F : RXF M := RXF_agr F0 ok.1
      have T : TB M b L := TB_agr T0 (E4 ok.1)
      have K := ok.2.1.1
      have hcs := ok.2.1.2.2.2.2.2.2
      rw [k72_7, k72_11, if_neg (by show ¬ nI 400 ≤ nI i; rw [n_le (by omega) (by omega)]; omega), k72_14, k72_15, if_neg (by decide), k72_18, k72_21 F.1, wordOr F T K]
      simp only [oN]
      rw [k72_24, k72_25]
      by_cases z : wrd b L s = kwOr
      · have hsL := kw_lt (show lett kwOr = true by decide) z
        have hnx := nx_gt (b := b) hsL
        have hnl := nx_le (b := b) (Nat.le_of_lt hsL)
        rw [if_pos z, if_neg (by decide), k72_28 F.1 (by rw [F.2.2.1]; omega) (by rw [F.2.2.1]; exact F.2.2.2.2.2.2.1), F.2.2.1, ok.2.1.2.2.2.2.1, k72_43 F.2.2.2.2.2.2.1, emit_ok F ok.2.1.2.2.2.2.1 (by omega)]
        simp only [oZ]
        have K1 : RTk (emM M c (eItm 0 12)) b L s := by unfold RTk; rw [hI_emM_9]; exact K
        have F1 : RXF (emM M c (eItm 0 12)) := RXF_of F rfl rfl
        have T1 : TB (emM M c (eItm 0 12)) b L := TB_agr T (E4 (emM_agr _ _ _))
        rw [k72_46, k72_47 F1.1, RTk_next F1 T1 K1]
        simp only [oZ]
        have F2 : RXF (aSt (emM M c (eItm 0 12)) (nx b L s) (tkE b L (nx b L s))) := RXF_of F rfl rfl
        have a2 : agr [109, 110, 111, 112] M (aSt (emM M c (eItm 0 12)) (nx b L s) (tkE b L (nx b L s))) := agr_trans (E4 (emM_agr _ _ _)) (E4 (agr_9 (aSt_agr _ _ _)))
        rw [k72_50, k72_51 F2.1]
        refine hP _ (nx b L s) n (c + 1) _ F2 (TB_agr T a2) (RS_ema ok.2.1 hnx hnl) ?_
        have hr2 : RRes M0 b L o s0 n0 k c0 Q (match part (nx b L s) n with
          | .inl q => .inl q
          | .inr (s1, n1, D1) => loopP b L (orF b L) part f s1 n1 (orD D D1)) := by
          have : loopP b L (orF b L) part (f + 1) s n D = (match part (nx b L s) n with
            | .inl q => .inl q
            | .inr (s1, n1, D1) => loopP b L (orF b L) part f s1 n1 (orD D D1)) := by
            show (match orF b L s with | none => _ | some f' => _) = _
            unfold orF
            rw [if_pos z]
            rfl
          rw [← this]
          exact hr
        cases hp : part (nx b L s) n with
        | inl q =>
          rw [hp] at hr2
          intro M' b1 b2
          have F3 := RXF_agr F2 b1
          simp only [oN]
          rw [k72_54 F3.1 (by rw [F3.2.2.1]; omega), F3.2.2.1, k72_62 F3.2.2.2.2.2.2.1]
          refine jump_any F3 ?_
          intro M3 a4
          simp only [oZ]
          rw [k72_65, nI_1]
          exact bad M3 (i + 1) q (agr_trans (E4 ok.1) (agr_trans a2 (agr_trans b1 (E42 a4)))) (by rw [agr_I a4 (by decide)]; exact b2) hr2
        | inr x =>
          obtain ⟨s1, n1, D1⟩ := x
          rw [hp] at hr2
          intro M' c1 ok1
          have F3 := RXF_agr F2 ok1.1
          obtain ⟨q0, q1, q2⟩ := ROk_jmp ok hnx ok1 (oo := 12) (by omega) L4
          simp only [oN]
          rw [k72_54 F3.1 (by rw [F3.2.2.1]; omega), F3.2.2.1, k72_62 F3.2.2.2.2.2.2.1, jump_ok F3 q1, q0]
          simp only [oZ]
          rw [k72_65, nI_1]
          exact ih (i + 1) s1 n1 c1 _ _ (by omega) q2 hr2
      · rw [if_neg z, if_pos rfl, k72_71 (Or.inr rfl)]
        have hr2 : RRes M0 b L o s0 n0 k c0 Q (.inr (s, n, D)) := by
          have : loopP b L (orF b L) part (f + 1) s n D = .inr (s, n, D) := by
            show (match orF b L s with | none => _ | some f' => _) = _
            unfold orF
            rw [if_neg z]
          rw [← this]
          exact hr
        exact hr2 M c ok
  rw [k72_0, k72_1 F0.1]
  refine hP M0 s0 n0 c0 _ F0 T0 R0 ?_
  have H2 : RRes M0 b L o s0 n0 k c0 Q (match part s0 n0 with
    | .inl q => .inl q
    | .inr (s1, n1, D) => loopP b L (orF b L) part 400 s1 n1 D) := H
  cases hp : part s0 n0 with
  | inl q =>
    rw [hp] at H2
    intro M' a1 a2
    simp only [oN]
    rw [k72_4]
    exact bad M' 0 q a1 a2 H2
  | inr x =>
    obtain ⟨s1, n1, D⟩ := x
    rw [hp] at H2
    intro M' c1 ok
    simp only [oN]
    rw [k72_4]
    exact loop 400 0 s1 n1 c1 D M' (by omega) ok H2
