variable {d : Nat} {M : hp} {Q : Option Value → hp → Prop}
theorem begin_ok {b : Nat → Nat} {L : Nat} {o : Bool} (F : RXF M) (T : TB M b L) (hQ : ∀ M', agr [109, 110] M M' → RS M' b L o (scn b L isB 0) 0 0 0 → hI M' 109 2 = -1 → Q none M') : Wp none d 57 0 [(0, .ref 109), (1, .int (bz (o = true)))] [] M Q := by
  have F1 : RXF (sI M 109 3 (bz (o = true))) := RXF_of F rfl rfl
  have F2 : RXF (sI (sI M 109 3 (bz (o = true))) 109 4 0) := RXF_of F rfl rfl
  have F3 : RXF (sI (sI (sI M 109 3 (bz (o = true))) 109 4 0) 109 5 0) := RXF_of F rfl rfl
  have F4 : RXF (sI (sI (sI (sI M 109 3 (bz (o = true))) 109 4 0) 109 5 0) 109 7 0) := RXF_of F rfl rfl
  have F5 : RXF (sI (sI (sI (sI (sI M 109 3 (bz (o = true))) 109 4 0) 109 5 0) 109 7 0) 109 2 (-1)) := RXF_of F rfl rfl
  have F6 : RXF (sI (sI (sI (sI (sI (sI M 109 3 (bz (o = true))) 109 4 0) 109 5 0) 109 7 0) 109 2 (-1)) 110 2 0) := RXF_of F rfl rfl
  rw [k57_0 F.1 (bz_or _), k57_5 F1.1, k57_10 F2.1, k57_15 F3.1, k57_20 F4.1, k57_25 F5.1 (by rw [F5.2.2.1]; omega) (by rw [F5.2.2.1]; exact F5.2.2.2.2.2.2.1), F5.2.2.1, k57_33 F6.1 (by rw [F6.2.2.1]; omega) (by rw [F6.2.2.1]; exact F6.2.2.2.2.2.2.1), F6.2.2.1]
  have a : agr [109, 110] M (sI (sI (sI (sI (sI (sI (sI M 109 3 (bz (o = true))) 109 4 0) 109 5 0) 109 7 0) 109 2 (-1)) 110 2 0) 110 3 0) := agr_trans (agr_sI (by decide)) (agr_trans (agr_sI (by decide)) (agr_trans (agr_sI (by decide)) (agr_trans (agr_sI (by decide)) (agr_trans (agr_sI (by decide)) (agr_trans (agr_sI (by decide)) (agr_sI (by decide)))))))
  have r3 : hI (sI (sI (sI (sI (sI (sI (sI M 109 3 (bz (o = true))) 109 4 0) 109 5 0) 109 7 0) 109 2 (-1)) 110 2 0) 110 3 0) 109 3 = bz (o = true) := rfl
  have r4 : hI (sI (sI (sI (sI (sI (sI (sI M 109 3 (bz (o = true))) 109 4 0) 109 5 0) 109 7 0) 109 2 (-1)) 110 2 0) 110 3 0) 109 4 = 0 := rfl
  have r5 : hI (sI (sI (sI (sI (sI (sI (sI M 109 3 (bz (o = true))) 109 4 0) 109 5 0) 109 7 0) 109 2 (-1)) 110 2 0) 110 3 0) 109 5 = 0 := rfl
  have r7 : hI (sI (sI (sI (sI (sI (sI (sI M 109 3 (bz (o = true))) 109 4 0) 109 5 0) 109 7 0) 109 2 (-1)) 110 2 0) 110 3 0) 109 7 = 0 := rfl
  have r2 : hI (sI (sI (sI (sI (sI (sI (sI M 109 3 (bz (o = true))) 109 4 0) 109 5 0) 109 7 0) 109 2 (-1)) 110 2 0) 110 3 0) 109 2 = -1 := rfl
  have rl : hI (sI (sI (sI (sI (sI (sI (sI M 109 3 (bz (o = true))) 109 4 0) 109 5 0) 109 7 0) 109 2 (-1)) 110 2 0) 110 3 0) 110 2 = 0 := rfl
  generalize sI (sI (sI (sI (sI (sI (sI M 109 3 (bz (o = true))) 109 4 0) 109 5 0) 109 7 0) 109 2 (-1)) 110 2 0) 110 3 0 = M1 at *
  have F7 : RXF M1 := RXF_agr F a
  have T7 : TB M1 b L := TB_of T (agr_I a (by decide)) (agr_I a (by decide))
  rw [k57_41, k57_42 F7.1, advance_ok F7 T7 (p := 0) r7 (Nat.zero_le _)]
  simp only [oZ]
  rw [k57_45]
  refine hQ _ (agr_trans a (agr_mono (aSt_agr _ _ _) (by intro x q; simp at q ⊢; omega))) ⟨aSt_tk (scn_le 0 (Nat.zero_le _)), ?_, ?_, ?_, ?_, by omega, by omega⟩ ?_
  · rw [hI_aSt_k (by decide) (by decide)]; exact r4
  · rw [hI_aSt_k (by decide) (by decide)]; exact r5
  · rw [hI_aSt_k (by decide) (by decide)]; exact r3
  · rw [hI_aSt_a (by decide)]; exact rl
  · rw [hI_aSt_k (by decide) (by decide)]; exact r2
/-- a clause of a law, of orders, in the rows -/
def ClsR (M : hp) (len i : Nat) (c : Cls) : Prop := hI M 112 (8 * i) = c.1 ∧ Sg M 9 (8 * i + 2) len c.2.1 ∧ Sg M 9 (8 * i + 6) len c.2.2
def OrdR (M : hp) (len i : Nat) (c : Ocl) : Prop := hI M 112 (8 * i) = nI c.1 ∧ hI M 112 (8 * i + 1) = nI c.2.1 ∧ Sg M 18 (8 * i + 2) len c.2.2.1 ∧ Sg M 18 (8 * i + 4) len c.2.2.2.1 ∧ Sg M 18 (8 * i + 6) len c.2.2.2.2
/-- what stands of earlier clauses stays -/
def Kept (M M' : hp) (i c c1 : Nat) : Prop := (∀ j, j < c → hI M' 111 j = hI M 111 j) ∧ (∀ j, j < 8 * i → hI M' 112 j = hI M 112 j) ∧ c ≤ c1
theorem ClsR_keep {M M' : hp} {i j c c1 : Nat} {x : Cls} (h : ClsR M c j x) (k : Kept M M' i c c1) (hj : j < i) : ClsR M' c1 j x := ⟨(k.2.1 _ (by omega)).trans h.1, Sg_keep h.2.1 k.1 (k.2.1 _ (by omega)) (k.2.1 _ (by omega)) k.2.2, Sg_keep h.2.2 k.1 (k.2.1 _ (by omega)) (k.2.1 _ (by omega)) k.2.2⟩
theorem OrdR_keep {M M' : hp} {i j c c1 : Nat} {x : Ocl} (h : OrdR M c j x) (k : Kept M M' i c c1) (hj : j < i) : OrdR M' c1 j x := ⟨(k.2.1 _ (by omega)).trans h.1, (k.2.1 _ (by omega)).trans h.2.1, Sg_keep h.2.2.1 k.1 (k.2.1 _ (by omega)) (k.2.1 _ (by omega)) k.2.2, Sg_keep h.2.2.2.1 k.1 (k.2.1 _ (by omega)) (k.2.1 _ (by omega)) k.2.2, Sg_keep h.2.2.2.2 k.1 (k.2.1 _ (by omega)) (k.2.1 _ (by omega)) k.2.2⟩
theorem TOk_kept {M M' : hp} {b : Nat → Nat} {L i s n c s1 n1 c1 : Nat} {o : Bool} (h : TOk M M' b L o i s n c s1 n1 c1) : Kept M M' i c c1 := ⟨h.2.2.2.2.1, fun j hj => h.2.2.2.2.2.1 j (Or.inl hj), h.2.2.2.2.2.2.1⟩
/-- a whole text: its clauses as the rows tell them -/
def LRes {γ : Type} (M0 : hp) (Cr : hp → Nat → Nat → γ → Prop) (Q : Option Value → hp → Prop) (r : Sum Nat (Nat × (Nat → γ))) : Prop := match r with
  | .inl q => ∀ M', agr [109, 110, 111, 112] M0 M' → hI M' 109 2 = nI q → Q (some (.int 0)) M'
  | .inr (n, cf) => ∀ M' len, agr [109, 110, 111, 112] M0 M' → hI M' 109 2 = -1 → hI M' 110 3 = nI n → hI M' 110 2 = nI len → len ≤ 400 → n ≤ 12 → (∀ j, j < n → Cr M' len j (cf j)) → Q (some (.int 1)) M'
/-- one clause, read by the method mi and readIf -/
def ClOK {γ : Type} (b : Nat → Nat) (L : Nat) (o : Bool) (dd : Nat) (Cr : hp → Nat → Nat → γ → Prop) (cl : Nat → Nat → Sum Nat (Nat × Nat × γ)) : Prop := ∀ (M : hp) (i s n c : Nat) (x1 : Int32) (Q : Option Value → hp → Prop), RXF M → TB M b L → RS M b L o s n 0 c → i < 12 → (match cl s n with
  | .inl q => ∀ M', agr [109, 110, 111, 112] M M' → hI M' 109 2 = nI q → Q (some (.int 0)) M'
  | .inr (s1, n1, x) => ∀ M' c1, TOk M M' b L o i s n c s1 n1 c1 → Cr M' c1 i x → Wp none dd 56 48 [(0, .ref 109), (1, .int x1), (2, .int (nI i)), (3, .int 1)] [] M' Q) → Wp none dd 56 13 [(0, .ref 109), (1, .int x1), (2, .int (nI i))] [] M Q
theorem ruleP_1 (b : Nat → Nat) (L s n : Nat) : ruleP b L s n = match rule1 b L s n with
  | .inl q => .inl q
  | .inr (k, r) => match r with
    | .inl q => .inl q
    | .inr (s1, n1, D1) => match ifP b L false s1 n1 with
      | .inl q => .inl q
      | .inr (s2, n2, D2) => .inr (s2, n2, (nI k, D1, D2)) := by
  unfold ruleP rule1
  cases wix kwL (wrd b L s) with
  | none => rfl
  | some k => rfl
theorem ruleOK {b : Nat → Nat} {L e : Nat} : ClOK b L false (8 + e) ClsR (ruleP b L) := by
  intro M i s n c x1 Q F T R hi H
  rw [ruleP_1] at H
  rw [k56_13 F.1, R.2.2.2.1, k56_17, bz_f (show ¬ false = true by decide), if_pos rfl, k56_28, k56_30 F.1]
  refine readRule_ok F T R hi ?_
  cases hr : rule1 b L s n with
  | inl q =>
    rw [hr] at H
    intro M' a1 a2
    simp only [oN]
    rw [k56_33, k56_35, if_pos rfl, k56_46]
    exact H M' a1 a2
  | inr y =>
    obtain ⟨k, r⟩ := y
    cases r with
    | inl q =>
      rw [hr] at H
      intro M' a1 a2
      simp only [oN]
      rw [k56_33, k56_35, if_pos rfl, k56_46]
      exact H M' a1 a2
    | inr z =>
      obtain ⟨s1, n1, D1⟩ := z
      rw [hr] at H
      intro M' c1 ok e1 g1 _
      have F1 := RXF_agr F ok.1
      have T1 := TB_agr T ok.1
      simp only [oN]
      rw [k56_33, k56_35, if_neg (by decide), k56_38, k56_40 F1.1]
      refine readIf_ok F1 T1 ok.2.1 hi ?_
      cases hf : ifP b L false s1 n1 with
      | inl q =>
        simp only [hf] at H
        intro M2 a1 a2
        simp only [oN]
        rw [k56_43, if_neg (fun z => z rfl), k56_46]
        exact H M2 (agr_trans ok.1 a1) a2
      | inr w =>
        obtain ⟨s2, n2, D2⟩ := w
        simp only [hf] at H
        intro M2 c2 ok2 e2 g2
        simp only [oN]
        rw [k56_43, if_pos (by decide)]
        refine H M2 c2 (TOk_trans ok ok2) ⟨?_, ?_, g2⟩
        · rw [e2 _ (by omega) (by omega)]; exact e1
        · exact Sg_keep g1 ok2.2.2.2.2.1 (e2 _ (by omega) (by omega)) (e2 _ (by omega) (by omega)) ok2.2.2.2.2.2.2.1
theorem read_loop {γ : Type} {b : Nat → Nat} {L dd : Nat} {o : Bool} {Cr : hp → Nat → Nat → γ → Prop} {cl : Nat → Nat → Sum Nat (Nat × Nat × γ)} (hC : ClOK b L o dd Cr cl) (hk : ∀ (M M' : hp) (i j c c1 : Nat) (x : γ), Cr M c j x → Kept M M' i c c1 → j < i → Cr M' c1 j x) {M0 : hp} (F0 : RXF M0) (T0 : TB M0 b L) (x1 : Int32) : ∀ (f i s n c : Nat) (cf : Nat → γ) (M : hp), f + i = 12 → agr [109, 110, 111, 112] M0 M → RS M b L o s n 0 c → hI M 109 2 = -1 → (∀ j, j < i → Cr M c j (cf j)) → LRes M0 Cr Q (textP b L cl f i s n cf) → Wp none dd 56 7 [(0, .ref 109), (1, .int x1), (2, .int (nI i))] [] M Q := by
  have L4 := T0.2.1
  intro f
  induction f with
  | zero =>
    intro i s n c cf M e a R hf hcl H
    have F := RXF_agr F0 a
    have : i = 12 := by omega
    subst this
    rw [k56_7, k56_10, if_pos (by decide), k56_98, k56_99 F.1, fails_ok F R.1]
    simp only [oN]
    rw [k56_102 (Or.inl rfl)]
    exact H _ (agr_trans a (agr_f _ _ _)) (hI_sI_s _ _ _ _)
  | succ f ih =>
    intro i s n c cf M e a R hf hcl H
    have F := RXF_agr F0 a
    have T := TB_agr T0 a
    rw [k56_7, k56_10, if_neg (by show ¬ nI 12 ≤ nI i; rw [n_le (by omega) (by omega)]; omega)]
    refine hC M i s n c x1 Q F T R (by omega) ?_
    have H : LRes M0 Cr Q (match cl s n with
      | .inl q => .inl q
      | .inr (s1, n1, x) => if L ≤ s1 then .inr (i + 1, fun j => if j = i then x else cf j) else if sg b L s1 59 then textP b L cl f (i + 1) (nx b L s1) n1 (fun j => if j = i then x else cf j) else .inl s1) := H
    cases hr : cl s n with
    | inl q =>
      rw [hr] at H
      intro M' a1 a2
      exact H M' (agr_trans a a1) a2
    | inr y =>
      obtain ⟨s1, n1, x⟩ := y
      rw [hr] at H
      have H : LRes M0 Cr Q (if L ≤ s1 then .inr (i + 1, fun j => if j = i then x else cf j) else if sg b L s1 59 then textP b L cl f (i + 1) (nx b L s1) n1 (fun j => if j = i then x else cf j) else .inl s1) := H
      intro M' c1 ok hx
      have F1 := RXF_agr F ok.1
      have hall : ∀ j, j < i + 1 → Cr M' c1 j (if j = i then x else cf j) := by
        intro j hj
        by_cases z : j = i
        · rw [if_pos z, z]; exact hx
        · rw [if_neg z]
          exact hk M M' i j c c1 _ (hcl j (by omega)) (TOk_kept ok) (by omega)
      rw [k56_48 F1.1 (by rw [F1.2.2.1]; omega) (by rw [F1.2.2.1]; exact F1.2.2.2.2.2.2.1), F1.2.2.1, nI_1]
      have a2 : agr [109, 110, 111, 112] M0 (sI M' 110 3 (nI (i + 1))) := agr_trans a (agr_trans ok.1 (agr_sI (by decide)))
      have R2 : RS (sI M' 110 3 (nI (i + 1))) b L o s1 n1 0 c1 := by
        obtain ⟨r1, r2, r3, r4, r5, r6, r7⟩ := ok.2.1
        exact ⟨⟨(hI_sI_a (by decide)).trans r1.1, (hI_sI_a (by decide)).trans r1.2.1, r1.2.2⟩, (hI_sI_a (by decide)).trans r2, (hI_sI_a (by decide)).trans r3, (hI_sI_a (by decide)).trans r4, (hI_sI_k (by decide)).trans r5, r6, r7⟩
      have f2 : hI (sI M' 110 3 (nI (i + 1))) 109 2 = -1 := by rw [hI_sI_a (by decide), ok.2.2.1]; exact hf
      have hall2 : ∀ j, j < i + 1 → Cr (sI M' 110 3 (nI (i + 1))) c1 j (if j = i then x else cf j) := fun j hj => hk M' _ (i + 1) j c1 c1 _ (hall j hj) ⟨fun k _ => hI_sI_a (by decide), fun k _ => hI_sI_a (by decide), Nat.le_refl _⟩ hj
      have f3 : hI (sI M' 110 3 (nI (i + 1))) 110 3 = nI (i + 1) := hI_sI_s _ _ _ _
      generalize sI M' 110 3 (nI (i + 1)) = M2 at *
      have F2 := RXF_agr F0 a2
      have T2 := TB_agr T0 a2
      have hs1 := R2.1.2.2
      have h7 := R2.2.2.2.2.2.2
      rw [k56_58 F2.1 (by rw [F2.2.1]; omega) (by rw [F2.2.1]; exact F2.2.2.2.1), F2.2.1, T2.1, R2.1.1, k56_69]
      by_cases c2 : s1 < L
      · rw [if_neg (by omega)] at H
        rw [if_pos (by rw [n_lt (by omega) (by omega)]; exact c2), k56_74, k56_77 F2.1, show (59 : Int32) = nI 59 from rfl, sg1 F2 T2 R2.1 (by omega)]
        simp only [oN]
        rw [k56_80, bzj]
        by_cases c3 : sg b L s1 59
        · rw [if_pos c3] at H
          have hnx := nx_gt (b := b) c2
          have hnl := nx_le (b := b) (Nat.le_of_lt c2)
          rw [if_pos (fun z => z c3), k56_88, k56_89 F2.1, RTk_next F2 T2 R2.1]
          simp only [oZ]
          rw [k56_92, nI_1]
          refine ih (i + 1) (nx b L s1) n1 c1 _ _ (by omega) (agr_trans a2 (E4 (agr_9 (aSt_agr _ _ _)))) (RS_adv R2 (Nat.le_of_lt hnx) hnl) ?_ ?_ H
          · rw [hI_aSt_k (by decide) (by decide)]; exact f2
          · intro j hj
            exact hk M2 _ (i + 1) j c1 c1 _ (hall2 j hj) ⟨fun k _ => hI_aSt_a (by decide), fun k _ => hI_aSt_a (by decide), Nat.le_refl _⟩ hj
        · rw [if_neg c3] at H
          rw [if_neg (fun z => z c3), k56_83, k56_84 F2.1, fails_ok F2 R2.1]
          simp only [oN]
          rw [k56_87 (Or.inl rfl)]
          exact H _ (agr_trans a2 (agr_f _ _ _)) (hI_sI_s _ _ _ _)
      · rw [if_pos (by omega)] at H
        rw [if_neg (by rw [n_lt (by omega) (by omega)]; exact c2), k56_72]
        exact H M2 c1 a2 f2 f3 R2.2.2.2.2.1 (by omega) (by omega) hall2
theorem read_law {b : Nat → Nat} {L e : Nat} (F : RXF M) (T : TB M b L) (H : LRes M ClsR Q (lawP b L)) : Wp none (8 + e) 56 0 [(0, .ref 109), (1, .int 0)] [] M Q := by
  rw [k56_0, k56_2 F.1, show (0 : Int32) = bz (false = true) from rfl]
  refine begin_ok F T ?_
  intro M' a1 R f
  have a2 : agr [109, 110, 111, 112] M M' := agr_mono a1 (by intro x q; simp at q ⊢; omega)
  simp only [oZ]
  rw [k56_5, show (0 : Int32) = nI 0 from rfl]
  exact read_loop ruleOK (fun M M' i j c c1 x h k hj => ClsR_keep h k hj) F T _ 12 0 _ 0 0 _ M' (by omega) a2 R f (fun j hj => absurd hj (by omega)) H
/-! orders -/
def order1 (b : Nat → Nat) (L s n : Nat) : Sum Nat (Nat × Nat × Nat × Nat × Den × Den) := match wix kwO (wrd b L s) with
  | none => .inl s
  | some k => match (if k = 3 then .inr (nx b L s, n, oneD) else sumP b L true (nx b L s) n : PR) with
    | .inl q => .inl q
    | .inr (s1, n1, D1) => match (if k = 0 then behP b L s1 n1 kwOn else if k = 2 then behP b L s1 n1 kwIn else .inr (s1, n1, oneD) : PR) with
      | .inl q => .inl q
      | .inr (s2, n2, D2) => match timP b L s2 with
        | .inl q => .inl q
        | .inr (s3, t) => .inr (s3, n2, k, t, D1, D2)
theorem orderP_1 (b : Nat → Nat) (L s n : Nat) : orderP b L s n = match order1 b L s n with
  | .inl q => .inl q
  | .inr (s3, n2, k, t, D1, D2) => match ifP b L true s3 n2 with
    | .inl q => .inl q
    | .inr (s4, n4, D3) => .inr (s4, n4, (k, t, D1, D2, D3)) := by
  unfold orderP order1
  cases wix kwO (wrd b L s) with
  | none => rfl
  | some k =>
    dsimp only
    generalize (if k = 3 then Sum.inr (nx b L s, n, oneD) else sumP b L true (nx b L s) n : PR) = r1
    cases r1 with
    | inl q => rfl
    | inr x =>
      obtain ⟨s1, n1, D1⟩ := x
      dsimp only
      generalize (if k = 0 then behP b L s1 n1 kwOn else if k = 2 then behP b L s1 n1 kwIn else Sum.inr (s1, n1, oneD) : PR) = r2
      cases r2 with
      | inl q => rfl
      | inr y =>
        obtain ⟨s2, n2, D2⟩ := y
        dsimp only
        cases timP b L s2 with
        | inl q => rfl
        | inr z =>
          obtain ⟨s3, t⟩ := z
          rfl
theorem readTimes_ok {b : Nat → Nat} {L s n c i : Nat} {o : Bool} (F : RXF M) (T : TB M b L) (R : RS M b L o s n 0 c) (hi : i < 12) (H : match timP b L s with
    | .inl q => ∀ M', agr [109, 110, 111, 112] M M' → hI M' 109 2 = nI q → Q (some (.int 0)) M'
    | .inr (s1, t) => ∀ M', TOk M M' b L o i s n c s1 n c → (∀ j, ¬ j = 8 * i + 1 → hI M' 112 j = hI M 112 j) → hI M' 112 (8 * i + 1) = nI t → Q (some (.int 1)) M') : Wp none d 70 0 [(0, .ref 109), (1, .int (nI i))] [] M Q := by
  rw [k70_0 F.1 (by rw [F.2.2.1]; omega), F.2.2.1, k70_7 F.2.2.2.2.2.2.1, show (1 : Int32) = nI 1 from rfl, setCell_ok F hi (by omega)]
  simp only [oZ]
  have F1 : RXF (sI M 112 (8 * i + 1) (nI 1)) := RXF_of F rfl rfl
  have T1 : TB (sI M 112 (8 * i + 1) (nI 1)) b L := TB_of T rfl rfl
  have ok1 : TOk M (sI M 112 (8 * i + 1) (nI 1)) b L o i s n c s n c := TOk_cell (TOk_refl R) (by omega)
  have e1 : ∀ j, ¬ j = 8 * i + 1 → hI (sI M 112 (8 * i + 1) (nI 1)) 112 j = hI M 112 j := fun j hj => hI_sI_k hj
  have v1 : hI (sI M 112 (8 * i + 1) (nI 1)) 112 (8 * i + 1) = nI 1 := hI_sI_s _ _ _ _
  generalize sI M 112 (8 * i + 1) (nI 1) = M1 at *
  have R1 := ok1.2.1
  rw [k70_10, k70_13 F1.1, wordTimes F1 T1 R1.1]
  simp only [oN]
  rw [k70_16, k70_17]
  unfold timP at H
  by_cases z : wrd b L s = kwTimes
  · rw [if_pos z] at H
    have hsL := kw_lt (show lett kwTimes = true by decide) z
    have hnx := nx_gt (b := b) hsL
    have hnl := nx_le (b := b) (Nat.le_of_lt hsL)
    rw [if_pos z, if_pos (by decide), k70_22, k70_23 F1.1, RTk_next F1 T1 R1.1]
    simp only [oZ]
    have ok2 := TOk_adv ok1 (Nat.le_of_lt hnx) hnl
    have F2 : RXF (aSt M1 (nx b L s) (tkE b L (nx b L s))) := RXF_of F1 rfl rfl
    have T2 : TB (aSt M1 (nx b L s) (tkE b L (nx b L s))) b L := TB_agr T1 (E4 (agr_9 (aSt_agr _ _ _)))
    have e2 : ∀ j, ¬ j = 8 * i + 1 → hI (aSt M1 (nx b L s) (tkE b L (nx b L s))) 112 j = hI M 112 j := fun j hj => (hI_aSt_a (by decide)).trans (e1 j hj)
    generalize aSt M1 (nx b L s) (tkE b L (nx b L s)) = M2 at *
    have R2 := ok2.2.1
    rw [k70_26, k70_30 F2.1, show (1 : Int32) = nI 1 from rfl, show (20 : Int32) = nI 20 from rfl, numberIn_ok F2 T2 R2.1 (by omega) (by omega)]
    simp only [oN]
    rw [k70_33, k70_36]
    cases hv : nmI b L (nx b L s) 1 20 with
    | none =>
      rw [hv] at H
      rw [if_neg (fun z => z rfl), k70_39, k70_40 F2.1, fails_ok F2 R2.1]
      simp only [oN]
      rw [k70_43 (Or.inl rfl)]
      exact H _ (agr_trans ok2.1 (agr_f _ _ _)) (hI_sI_s _ _ _ _)
    | some t =>
      rw [hv] at H
      obtain ⟨p1, p2, p3, p4⟩ := nmI_s hv
      have hnx2 := nx_gt (b := b) p1
      have hnl2 := nx_le (b := b) (Nat.le_of_lt p1)
      rw [if_pos (show ¬ ixI (some t) = -1 by show ¬ nI t = -1; rw [n_m1 (by omega)]; exact id), k70_44, k70_45 F2.1, RTk_next F2 T2 R2.1]
      simp only [oZ]
      have ok3 := TOk_adv ok2 (Nat.le_of_lt hnx2) hnl2
      have F3 : RXF (aSt M2 (nx b L (nx b L s)) (tkE b L (nx b L (nx b L s)))) := RXF_of F2 rfl rfl
      have e3 : ∀ j, ¬ j = 8 * i + 1 → hI (aSt M2 (nx b L (nx b L s)) (tkE b L (nx b L (nx b L s)))) 112 j = hI M 112 j := fun j hj => (hI_aSt_a (by decide)).trans (e2 j hj)
      generalize aSt M2 (nx b L (nx b L s)) (tkE b L (nx b L (nx b L s))) = M3 at *
      rw [k70_48 F3.1 (by rw [F3.2.2.1]; omega), F3.2.2.1, k70_55 F3.2.2.2.2.2.2.1, show (1 : Int32) = nI 1 from rfl, setCell_ok F3 hi (by omega)]
      simp only [oZ]
      rw [k70_58]
      exact H _ (TOk_cell ok3 (by omega)) (fun j hj => (hI_sI_k hj).trans (e3 j hj)) (hI_sI_s _ _ _ _)
  · rw [if_neg z] at H
    rw [if_neg z, if_neg (by decide), k70_20]
    exact H M1 ok1 e1 v1
/-- a word, then a sum -/
theorem behind_ok {b : Nat → Nat} {L s n c i e q : Nat} {w : List Nat} {x3 : Int32} (F : RXF M) (T : TB M b L) (R : RS M b L true s n 0 c) (hi : i < 12) (hw : lett w = true) (hq : ∀ (d : Nat) (Q : Option Value → hp → Prop), Wp none d 62 0 [(0, .ref 109), (1, .ref q)] [] M Q = Q (some (.int (if wrd b L s = w then 0 else -1))) M)
    (QW : Option Value → hp → Prop) (hN : ∀ M', QW (some (.int 0)) M' = Q (some (.int 0)) M') (hY : ∀ M', RXF M' → QW (some (.int 1)) M' = Wp none (8 + e) 69 0 [(0, .ref 109), (1, .int (nI i)), (2, .int (nI 4))] [] M' Q)
    (H : SRes M b L true i 4 s n c Q (behP b L s n w)) : Wp none (8 + e) 67 0 [(0, .ref 109), (1, .ref q)] [] M QW := by
  unfold behP at H
  rw [k67_0, k67_2 F.1, hq]
  simp only [oN]
  rw [k67_5, k67_6]
  by_cases z : wrd b L s = w
  · rw [if_pos z] at H
    have hsL := kw_lt hw z
    have hnx := nx_gt (b := b) hsL
    have hnl := nx_le (b := b) (Nat.le_of_lt hsL)
    rw [if_pos z, if_pos (by decide), k67_14, k67_15 F.1, RTk_next F T R.1]
    simp only [oZ]
    have F1 : RXF (aSt M (nx b L s) (tkE b L (nx b L s))) := RXF_of F rfl rfl
    rw [k67_18, hY _ F1]
    exact readSumOf_ok F1 (TB_agr T (E4 (agr_9 (aSt_agr _ _ _)))) (RS_adv R (Nat.le_of_lt hnx) hnl) hi (by omega) (SRes_from (TOk_adv (TOk_refl (i := i) R) (Nat.le_of_lt hnx) hnl) (fun j => hI_aSt_a (by decide)) H)
  · rw [if_neg z] at H
    rw [if_neg z, if_neg (fun w => w rfl), k67_9, k67_10 F.1, fails_ok F R.1]
    simp only [oN]
    rw [k67_13 (Or.inl rfl), hN]
    exact H _ (agr_f _ _ _) (hI_sI_s _ _ _ _)
