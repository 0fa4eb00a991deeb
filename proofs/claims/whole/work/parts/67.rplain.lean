variable {d : Nat} {M : hp} {Q : Option Value → hp → Prop}
/-- a sign, wherever the reader stands -/
theorem isSign_any (c : Int32) (F : RXF M) : ∃ v : Int32, (v = 0 ∨ v = 1) ∧ ∀ (d : Nat) (Q : Option Value → hp → Prop), Wp none d 61 0 [(0, .ref 109), (1, .int c)] [] M Q = Q (some (.int v)) M := by
  by_cases c1 : hI M 109 7 - hI M 109 6 = 1
  · by_cases c2 : gI M 108 400 (hI M 109 6) = c
    · refine ⟨1, Or.inr rfl, fun d Q => ?_⟩
      rw [k61_0 F.1, k61_10, if_neg (fun z => z c1), k61_13 F.1 (by rw [F.2.1]; omega) (by rw [F.2.1]; exact F.2.2.2.1) (by rw [F.2.1, F.2.2.2.2.1]; omega), F.2.1, F.2.2.2.2.1, k61_24, T_at F.2.2.2.2.2.1 (by omega) (by omega)]
      simp only [oN]
      rw [k61_27, k61_28, if_neg (fun z => z c2), k61_31, k61_36 (Or.inr rfl)]
    · refine ⟨0, Or.inl rfl, fun d Q => ?_⟩
      rw [k61_0 F.1, k61_10, if_neg (fun z => z c1), k61_13 F.1 (by rw [F.2.1]; omega) (by rw [F.2.1]; exact F.2.2.2.1) (by rw [F.2.1, F.2.2.2.2.1]; omega), F.2.1, F.2.2.2.2.1, k61_24, T_at F.2.2.2.2.2.1 (by omega) (by omega)]
      simp only [oN]
      rw [k61_27, k61_28, if_pos c2, k61_35, k61_36 (Or.inl rfl)]
  · refine ⟨0, Or.inl rfl, fun d Q => ?_⟩
    rw [k61_0 F.1, k61_10, if_pos c1, k61_35, k61_36 (Or.inl rfl)]
/-- "not", as often as it stands -/
theorem nots_ok {b : Nat → Nat} {L : Nat} {o : Bool} {dd n k c : Nat} : ∀ (f i s : Nat) (t : Bool) (M : hp), f + i = 400 → RXF M → TB M b L → RS M b L o s n k c → (∀ M' , agr [109] M M' → hI M' 109 2 = hI M 109 2 → RS M' b L o (nots b L f s t).1 n k c → s ≤ (nots b L f s t).1 → (¬ (nots b L f s t).2 = t → s < (nots b L f s t).1) → ∀ x2, Wp none dd 74 41 [(0, .ref 109), (1, .int (bz ((nots b L f s t).2 = true))), (2, .int x2)] [] M' Q) → Wp none dd 74 4 [(0, .ref 109), (1, .int (bz (t = true))), (2, .int (nI i))] [] M Q := by
  intro f
  induction f with
  | zero =>
    intro i s t M e F T R hQ
    have : i = 400 := by omega
    subst this
    rw [k74_4, k74_8, if_pos (by decide)]
    exact hQ M (agr_refl _ _) rfl R (Nat.le_refl _) (fun z => absurd rfl z) _
  | succ f ih =>
    intro i s t M e F T R hQ
    rw [k74_4, k74_8, if_neg (by show ¬ nI 400 ≤ nI i; rw [n_le (by omega) (by omega)]; omega), k74_11, k74_14 F.1, wordNot F T R.1]
    simp only [oN]
    rw [k74_17, k74_18]
    unfold nots at hQ
    by_cases z : wrd b L s = kwNot
    · simp only [if_pos z] at hQ
      have hsL := kw_lt (show lett kwNot = true by decide) z
      have hnx := nx_gt (b := b) hsL
      have hnl := nx_le (b := b) (Nat.le_of_lt hsL)
      rw [if_pos z, if_neg (by decide), k74_21, k74_22, bzj, k74_25, k74_29, k74_30, k74_30]
      have e1 : (if ¬ ¬ (t = true) then Wp none dd 74 32 [(0, .ref 109), (1, .int 0), (2, .int (nI i))] [.ref 109] M Q else Wp none dd 74 32 [(0, .ref 109), (1, .int 1), (2, .int (nI i))] [.ref 109] M Q) = Wp none dd 74 32 [(0, .ref 109), (1, .int (bz ((!t) = true))), (2, .int (nI i))] [.ref 109] M Q := by
        cases t
        · rw [if_neg (by decide)]; rfl
        · rw [if_pos (by decide)]; rfl
      rw [e1, k74_32 F.1, RTk_next F T R.1]
      simp only [oZ]
      rw [k74_35, nI_1]
      refine ih (i + 1) (nx b L s) (!t) _ (by omega) (RXF_of F rfl rfl) (TB_agr T (E4 (agr_9 (aSt_agr _ _ _)))) (RS_adv R (by omega) hnl) ?_
      intro M' a1 a2 a3 a4 _ x2
      refine hQ M' (agr_trans (aSt_agr _ _ _) a1) ?_ a3 (by omega) (fun _ => by omega) x2
      rw [a2, hI_aSt_k (by decide) (by decide)]
    · simp only [if_neg z] at hQ
      rw [if_neg z, if_pos rfl]
      exact hQ M (agr_refl _ _) rfl R (Nat.le_refl _) (fun z => absurd trivial z) _
theorem ROk_pre {M' M2 : hp} {b : Nat → Nat} {L s n k c s' s1 n1 c1 : Nat} {o : Bool} {D : Den} (a : agr [109] M M') (e2 : hI M' 109 2 = hI M 109 2) (hs : s ≤ s') (h : ROk M' M2 b L o s' n k c s1 n1 c1 D) : ROk M M2 b L o s n k c s1 n1 c1 D := by
  obtain ⟨b1, b2, b3, b4, b5, b6, b7, b8, b9⟩ := h
  exact ⟨agr_trans (agr_9 a) b1, b2, b3.trans e2, by rw [b4, agr_I a (by decide)], fun i hi => by rw [b5 i hi, agr_I a (by decide)], b6, by omega, b8, by omega⟩
theorem ROk_not {M' M2 : hp} {b : Nat → Nat} {L s n k c s' s1 n1 c1 : Nat} {o : Bool} {D : Den} (a : agr [109] M M') (e2 : hI M' 109 2 = hI M 109 2) (hs : s < s') (h : ROk M' M2 b L o s' n k c s1 n1 c1 D) (hc : c ≤ s) (hL : L ≤ 400) : c1 + 1 ≤ 400 ∧ ROk M (emM M2 c1 (eItm 0 10)) b L o s n k c s1 n1 (c1 + 1) (notD D) := by
  obtain ⟨b1, b2, b3, b4, b5, b6, b7, b8, b9⟩ := h
  have h1 := b2.1.2.2
  have de := dec_op (v := 0) (o := 10) (by omega) (by omega)
  refine ⟨by omega, agr_trans (agr_9 a) (agr_trans b1 (emM_agr _ _ _)), RS_em b2 (by omega), ?_, ?_, ?_, ?_, by omega, b8, by omega⟩
  · rw [hI_emM_9]; exact b3.trans e2
  · unfold emM
    rw [hI_sI_k (by decide), hI_sI_a (by decide), b4, agr_I a (by decide)]
  · intro i hi
    rw [hI_emM_o (by have := b6.1; omega), b5 i hi, agr_I a (by decide)]
  · refine SegC_not (SegC_cong b6 (fun j q1 q2 => by rw [hI_emM_o (by omega)])) (by rw [hI_emM_c]; exact de.1) (by omega)
/-- the end of what may be turned -/
theorem turn_ok {M' M2 : hp} {b : Nat → Nat} {L s n k c s' s1 n1 c1 dd : Nat} {o t : Bool} {D : Den} (F : RXF M) (T : TB M b L) (R : RS M b L o s n k c) (a : agr [109] M M') (e2 : hI M' 109 2 = hI M 109 2) (hs : s ≤ s') (ht : t = true → s < s') (h : ROk M' M2 b L o s' n k c s1 n1 c1 D) (H : RRes M b L o s n k c Q (turn t (.inr (s1, n1, D)))) : Wp none dd 74 167 [(0, .ref 109), (1, .int (bz (t = true))), (2, .int 1)] [] M2 Q := by
  have F2 : RXF M2 := RXF_agr F (agr_trans (agr_9 a) h.1)
  rw [k74_167, k74_168, if_neg (by decide), k74_171, k74_172, bzi]
  by_cases ct : t = true
  · obtain ⟨q1, q2⟩ := ROk_not a e2 (ht ct) h R.2.2.2.2.2.2 T.2.1
    rw [if_neg (fun z => z ct), k74_175 F2.1 (by rw [F2.2.2.1]; omega), F2.2.2.1, k74_182 F2.2.2.2.2.2.2.1, emit_ok F2 h.2.1.2.2.2.2.1 q1]
    simp only [oZ]
    rw [k74_185 (Or.inr rfl)]
    have H2 : RRes M b L o s n k c Q (.inr (s1, n1, if t = true then notD D else D)) := H
    rw [if_pos ct] at H2
    exact H2 _ _ q2
  · rw [if_pos ct, k74_185 (Or.inr rfl)]
    have H2 : RRes M b L o s n k c Q (.inr (s1, n1, if t = true then notD D else D)) := H
    rw [if_neg ct] at H2
    exact H2 _ _ (ROk_pre a e2 hs h)
theorem turn_n {dd : Nat} {x1 : Int32} : Wp none dd 74 167 [(0, .ref 109), (1, .int x1), (2, .int 0)] [] M Q = Q (some (.int 0)) M := by
  rw [k74_167, k74_168, if_pos rfl, k74_185 (Or.inl rfl)]
theorem RRes_l {b : Nat → Nat} {L s n k c q : Nat} {o t : Bool} (H : RRes M b L o s n k c Q (turn t (.inl q))) : RRes M b L o s n k c Q (.inl q) := H
/-- a comparison -/
theorem cmpOK {M' : hp} {b : Nat → Nat} {L s n k c s' dd : Nat} {o t : Bool} {x2 : Int32} {sum : Nat → Nat → PR} (hP : PartOK b L o 77 dd k sum) (F : RXF M) (T : TB M b L) (R : RS M b L o s n k c) (a : agr [109] M M') (e2 : hI M' 109 2 = hI M 109 2) (R2 : RS M' b L o s' n k c) (hs : s ≤ s') (ht : t = true → s < s') (H : RRes M b L o s n k c Q (turn t (cmpP b L sum s' n))) : Wp none dd 74 82 [(0, .ref 109), (1, .int (bz (t = true))), (2, .int x2)] [] M' Q := by
  have L4 := T.2.1
  have F' : RXF M' := RXF_agr F a
  have T' : TB M' b L := TB_agr T (E4 (agr_9 a))
  have a9 := E4 (agr_9 a)
  rw [k74_82, k74_83 F'.1]
  refine hP M' s' n c _ F' T' R2 ?_
  unfold cmpP at H
  cases hp : sum s' n with
  | inl q =>
    rw [hp] at H
    have H := RRes_l H
    intro M2 b1 b2
    have F2 := RXF_agr F' b1
    have x := a9
    simp only [oN]
    obtain ⟨v1, w1, u1⟩ := isSign_any 60 F2
    obtain ⟨v2, w2, u2⟩ := isSign_any 62 F2
    obtain ⟨v3, w3, u3⟩ := isSign_any 61 F2
    have done : ∀ v : Int32, Wp none dd 74 130 [(0, .ref 109), (1, .int (bz (t = true))), (2, .int 0)] [.int v] M2 Q := by
      intro v
      rw [k74_130, k74_132, if_pos rfl, k74_145, k74_146, if_pos rfl, turn_n]
      exact H M2 (agr_trans x b1) b2
    rw [k74_86, k74_90 F2.1, u1]
    simp only [oN]
    rw [k74_93, k74_96, k74_101, k74_104 F2.1, u2]
    simp only [oN]
    rw [k74_107, k74_110, k74_115, k74_118 F2.1, u3]
    simp only [oN]
    rw [k74_121, k74_124, k74_129]
    split
    · split
      · split
        · exact done _
        · exact done _
      · exact done _
    · exact done _
  | inr y =>
    obtain ⟨s1, n1, D1⟩ := y
    rw [hp] at H
    intro M2 c1 ok
    have F2 := RXF_agr F' ok.1
    have T2 := TB_agr T' (E4 ok.1)
    have K2 := ok.2.1.1
    have H1 : RRes M b L o s n k c Q (turn t (match cmpO b L s1 with
      | none => .inl s1
      | some op => match sum (nx b L s1) n1 with
        | .inl q => .inl q
        | .inr (s2, n2, D2) => .inr (s2, n2, binD op D1 D2))) := H
    simp only [oN]
    rw [k74_86, k74_90 F2.1, show (60 : Int32) = nI 60 from rfl, sg1 (c := 60) F2 T2 K2 (by omega)]
    simp only [oN]
    rw [k74_93, k74_96, k74_101, k74_104 F2.1, show (62 : Int32) = nI 62 from rfl, sg1 (c := 62) F2 T2 K2 (by omega)]
    simp only [oN]
    rw [k74_107, k74_110, k74_115, k74_118 F2.1, show (61 : Int32) = nI 61 from rfl, sg1 (c := 61) F2 T2 K2 (by omega)]
    simp only [oN]
    rw [k74_121, k74_124, k74_129]
    have go : ∀ oo, 7 ≤ oo → oo ≤ 9 → cmpO b L s1 = some (nI oo) → s1 < L → Wp none dd 74 130 [(0, .ref 109), (1, .int (bz (t = true))), (2, .int 1)] [.int (nI oo)] M2 Q := by
      intro oo h1 h2 hm hsL
      have hnx := nx_gt (b := b) hsL
      have hnl := nx_le (b := b) (Nat.le_of_lt hsL)
      rw [hm] at H1
      rw [k74_130, k74_132, if_neg (by decide), k74_135, k74_137, if_pos (by rw [n_m1 (by omega)]; exact id), k74_145, k74_146, if_neg (by decide), k74_149, k74_150 F2.1, RTk_next F2 T2 K2]
      simp only [oZ]
      have F3 : RXF (aSt M2 (nx b L s1) (tkE b L (nx b L s1))) := RXF_of F2 rfl rfl
      have a3 : agr [109, 110, 111, 112] M2 (aSt M2 (nx b L s1) (tkE b L (nx b L s1))) := E4 (agr_9 (aSt_agr _ _ _))
      rw [k74_153, k74_154 F3.1]
      refine hP _ (nx b L s1) n1 c1 _ F3 (TB_agr T2 a3) (RS_adv ok.2.1 (by omega) hnl) ?_
      cases hp2 : sum (nx b L s1) n1 with
      | inl q =>
        have H2 : RRes M b L o s n k c Q (turn t (match sum (nx b L s1) n1 with
          | .inl q => .inl q
          | .inr (s2, n2, D2) => .inr (s2, n2, binD (nI oo) D1 D2))) := H1
        rw [hp2] at H2
        have H2 := RRes_l H2
        intro M4 b1 b2
        have F4 := RXF_agr F3 b1
        simp only [oN]
        rw [k74_157 F4.1 (by rw [F4.2.2.1]; omega), F4.2.2.1, k74_164 F4.2.2.2.2.2.2.1]
        refine emit_any F4 ?_
        intro M5 b3
        simp only [oZ]
        rw [turn_n]
        exact H2 M5 (agr_trans a9 (agr_trans (E4 ok.1) (agr_trans a3 (agr_trans b1 (E42 b3))))) (by rw [agr_I b3 (by decide)]; exact b2)
      | inr z =>
        obtain ⟨s2, n2, D2⟩ := z
        have H2 : RRes M b L o s n k c Q (turn t (match sum (nx b L s1) n1 with
          | .inl q => .inl q
          | .inr (s2, n2, D2) => .inr (s2, n2, binD (nI oo) D1 D2))) := H1
        rw [hp2] at H2
        intro M4 c4 ok4
        have F4 := RXF_agr F3 ok4.1
        obtain ⟨q1, q2⟩ := ROk_bin ok hnx ok4 (oo := oo) (by omega) L4
        simp only [oN]
        rw [k74_157 F4.1 (by rw [F4.2.2.1]; omega), F4.2.2.1, k74_164 F4.2.2.2.2.2.2.1, emit_ok F4 ok4.2.1.2.2.2.2.1 q1]
        simp only [oZ]
        exact turn_ok F T R a e2 hs ht q2 H2
    by_cases z1 : sg b L s1 60
    · rw [bz_t z1, if_neg (by decide)]
      exact go 7 (by omega) (by omega) (by unfold cmpO; rw [if_pos z1]; rfl) z1.1
    · rw [bz_f z1, if_pos rfl]
      by_cases z2 : sg b L s1 62
      · rw [bz_t z2, if_neg (by decide)]
        exact go 8 (by omega) (by omega) (by unfold cmpO; rw [if_neg z1, if_pos z2]; rfl) z2.1
      · rw [bz_f z2, if_pos rfl]
        by_cases z3 : sg b L s1 61
        · rw [bz_t z3, if_neg (by decide)]
          exact go 9 (by omega) (by omega) (by unfold cmpO; rw [if_neg z1, if_neg z2, if_pos z3]; rfl) z3.1
        · have e : cmpO b L s1 = none := by unfold cmpO; rw [if_neg z1, if_neg z2, if_neg z3]
          rw [e] at H1
          have H1 := RRes_l H1
          rw [bz_f z3, if_pos rfl, k74_130, k74_132, if_neg (by decide), k74_135, k74_137, if_neg (fun w => w rfl), k74_140, k74_141 F2.1, fails_ok F2 K2]
          simp only [oN]
          rw [k74_144 (Or.inl rfl)]
          exact RRes_f H1 (agr_trans a9 (E4 ok.1))
/-- what can be turned -/
theorem plainOK {b : Nat → Nat} {L : Nat} {o : Bool} : ∀ (g k e : Nat), k + g = 8 → PartOK b L o 74 (g + e) k (pPlain b L o g) := by
  intro g
  induction g with
  | zero =>
    intro k e hk M s n c Q F T R H
    have P : PartOK b L o 77 (0 + e) k (pSum b L (pPart b L o 0)) := sumOK (termOK (partOK 0 k e hk))
    rw [k74_0, show (0 : Int32) = nI 0 from rfl]
    refine nots_ok (b := b) (L := L) (o := o) (n := n) (k := k) (c := c) 400 0 s false M (by omega) F T R ?_
    intro M' a1 a2 a3 a4 a5 x2
    unfold pPlain at H
    generalize hN : nots b L 400 s false = r at *
    obtain ⟨s', t⟩ := r
    have F2 := RXF_agr F a1
    have T2 := TB_agr T (E4 (agr_9 a1))
    have ht : t = true → s < s' := fun z => a5 (by show ¬ t = false; rw [z]; decide)
    show Wp none (0 + e) 74 41 [(0, .ref 109), (1, .int (bz (t = true))), (2, .int x2)] [] M' Q
    have H : RRes M b L o s n k c Q (turn t (if sg b L s' 40 then .inl s' else cmpP b L (pSum b L (pPart b L o 0)) s' n)) := H
    have a3 : RS M' b L o s' n k c := a3
    rw [k74_41, k74_44 F2.1, show (40 : Int32) = nI 40 from rfl, sg1 F2 T2 a3.1 (by omega)]
    simp only [oN]
    rw [k74_47, bzi]
    by_cases c1 : sg b L s' 40
    · rw [if_pos c1] at H
      have H := RRes_l H
      rw [if_neg (fun z => z c1), k74_50, k74_51 F2.1, opens_n F2 a3 (by omega) (by omega)]
      simp only [oN]
      rw [k74_54, if_pos rfl, k74_77, k74_78, turn_n]
      exact RRes_f H (E4 (agr_9 a1))
    · rw [if_neg c1] at H
      rw [if_pos c1]
      exact cmpOK P F T R a1 a2 a3 a4 ht H
  | succ g ih =>
    intro k e hk M s n c Q F T R H
    have P : PartOK b L o 77 (g + 1 + e) k (pSum b L (pPart b L o (g + 1))) := sumOK (termOK (partOK (g + 1) k e hk))
    have PT : PartOK b L o 72 (g + e) (k + 1) (pTest b L (pPlain b L o g)) := testOK (bothOK (ih (k + 1) e (by omega)))
    rw [k74_0, show (0 : Int32) = nI 0 from rfl]
    refine nots_ok (b := b) (L := L) (o := o) (n := n) (k := k) (c := c) 400 0 s false M (by omega) F T R ?_
    intro M' a1 a2 a3 a4 a5 x2
    unfold pPlain at H
    generalize hN : nots b L 400 s false = r at *
    obtain ⟨s', t⟩ := r
    have F2 := RXF_agr F a1
    have T2 := TB_agr T (E4 (agr_9 a1))
    have ht : t = true → s < s' := fun z => a5 (by show ¬ t = false; rw [z]; decide)
    show Wp none (g + 1 + e) 74 41 [(0, .ref 109), (1, .int (bz (t = true))), (2, .int x2)] [] M' Q
    have H : RRes M b L o s n k c Q (turn t (if sg b L s' 40 then clos b L 41 (pTest b L (pPlain b L o g) (nx b L s') n) else cmpP b L (pSum b L (pPart b L o (g + 1))) s' n)) := H
    have a3 : RS M' b L o s' n k c := a3
    rw [k74_41, k74_44 F2.1, show (40 : Int32) = nI 40 from rfl, sg1 F2 T2 a3.1 (by omega)]
    simp only [oN]
    rw [k74_47, bzi]
    by_cases c1 : sg b L s' 40
    · rw [if_pos c1] at H
      have hnx := nx_gt (b := b) c1.1
      have hnl := nx_le (b := b) (L := L) (s := s') (Nat.le_of_lt c1.1)
      rw [if_neg (fun z => z c1), k74_50, k74_51 F2.1, opens_y F2 T2 a3 (by omega)]
      simp only [oN]
      have F3 : RXF (aSt (sI M' 109 5 (nI (k + 1))) (nx b L s') (tkE b L (nx b L s'))) := RXF_of F2 rfl rfl
      have b2 : agr [109, 110, 111, 112] M' (aSt (sI M' 109 5 (nI (k + 1))) (nx b L s') (tkE b L (nx b L s'))) := agr_trans (agr_f _ _ _) (E4 (agr_9 (aSt_agr _ _ _)))
      have b3 := agr_trans (E4 (agr_9 a1)) b2
      rw [k74_54, if_neg (by decide), k74_57, show g + 1 + e = (g + e) + 1 by omega, k74_58 F3.1]
      refine PT _ (nx b L s') n c _ F3 (TB_agr T2 b2) (RS_adv (RS_brk a3) (by omega) hnl) ?_
      cases hp : pTest b L (pPlain b L o g) (nx b L s') n with
      | inl q =>
        rw [hp] at H
        have H := RRes_l H
        intro M4 d1 d2
        simp only [oN]
        rw [k74_61, if_pos rfl, k74_77, k74_78, turn_n]
        exact H M4 (agr_trans b3 d1) d2
      | inr y =>
        obtain ⟨s1, n1, D⟩ := y
        rw [hp] at H
        have H : RRes M b L o s n k c Q (turn t (if sg b L s1 41 then .inr (nx b L s1, n1, D) else .inl s1)) := H
        intro M4 c4 ok
        have F4 := RXF_agr F3 ok.1
        have T4 := TB_agr (TB_agr T2 b2) (E4 ok.1)
        simp only [oN]
        rw [k74_61, if_neg (by decide), k74_64, k74_67 F4.1, show (41 : Int32) = nI 41 from rfl, closes_ok F4 T4 ok.2.1 (Or.inr rfl)]
        by_cases c2 : sg b L s1 41
        · rw [if_pos c2] at H
          rw [if_pos c2]
          simp only [oN]
          rw [k74_70, if_neg (by decide), k74_73, k74_78]
          exact turn_ok F T R a1 a2 a4 ht (ROk_brk ok hnx (nx_gt c2.1) (nx_le (Nat.le_of_lt c2.1))) H
        · rw [if_neg c2] at H
          have H := RRes_l H
          rw [if_neg c2]
          simp only [oN]
          rw [k74_70, if_pos rfl, k74_77, k74_78, turn_n]
          exact RRes_f H (agr_trans b3 (E4 ok.1))
    · rw [if_neg c1] at H
      rw [if_pos c1]
      exact cmpOK P F T R a1 a2 a3 a4 ht H
