variable {d : Nat} {M : hp} {Q : Option Value → hp → Prop}
/-! row() -/
abbrev RSt : Type := HSt × Nat × Nat
def rwSt (B : Nat → Int32) (L i : Nat) (q : RSt) : RSt := if i + 2 < L ∧ htOk (B i) (B (i + 1)) ∧ q.1.1 < 7 then (addS (B i) (B (i + 1)) (B (i + 2)) q.1, q.2.1 + 1, q.2.2) else (q.1, q.2.1, q.2.2 + 1)
def rwIt (B : Nat → Int32) (L : Nat) : Nat → Nat → RSt → RSt
  | 0, _, q => q
  | k + 1, i, q => rwIt B L k (i + 3) (rwSt B L i q)
theorem rw_WF {B : Nat → Int32} {L : Nat} (hB : ∀ i, i < L → sm (B i)) : ∀ (k i : Nat) (q : RSt), WFs q.1 → WFs (rwIt B L k i q).1
  | 0, _, _, h => h
  | k + 1, i, q, h => by
    refine rw_WF hB k (i + 3) _ ?_
    unfold rwSt
    by_cases c : i + 2 < L ∧ htOk (B i) (B (i + 1)) ∧ q.1.1 < 7
    · rw [if_pos c]
      exact WF_add h c.2.2 (hB _ (by omega))
    · rw [if_neg c]
      exact h
/-- the class's side of a row -/
def ClQ (M0 M : hp) (q : RSt) : Prop := ClS M0 M q.1 ∧ hI M 64 16 = nI q.2.2 ∧ (∀ k, ¬ k = 16 → hI M 64 k = hI M0 64 k) ∧ hI M 107 = hI M0 107 ∧ hI M 103 = hI M0 103
theorem bring_ok {M0 : hp} {B : Nat → Int32} {L i : Nat} {q : RSt} (X : XS M) (C : ClQ M0 M q) (hL : L ≤ 400) (hi : i < L) (h107 : hI M 107 1 = nI L) (hB : ∀ j, j < L → hI M 108 j = B j) (W : WFs q.1) (H0 : ¬ (i + 2 < L ∧ htOk (B i) (B (i + 1)) ∧ q.1.1 < 7) → Q (some (.int 0)) M) (H1 : ∀ M', (i + 2 < L ∧ htOk (B i) (B (i + 1)) ∧ q.1.1 < 7) → XS M' → ClQ M0 M' (addS (B i) (B (i + 1)) (B (i + 2)) q.1, q.2.1 + 1, q.2.2) → hI M' 108 = hI M 108 → Q (some (.int 1)) M') : Wp none d 137 0 [(0, .ref 64), (1, .int (nI i))] [] M Q := by
  obtain ⟨C1, C2, C3, C4, C5⟩ := C
  have w7 := W.1
  rw [x137_0 X, k137_8, T_at (x_K108 X) (by decide) (by omega)]
  simp only [oN]
  rw [x137_11 X, nI_1, k137_22, T_at (x_K108 X) (by decide) (by omega)]
  simp only [oN]
  have e2 : nI i + 2 = nI (i + 2) := n_addl i 2
  rw [x137_25 X, h107, e2, k137_36]
  by_cases c1 : i + 2 < L
  case neg =>
    rw [if_pos (by rw [n_le (by omega) (by omega)]; omega), k137_59]
    exact H0 (fun z => c1 z.1)
  rw [if_neg (by rw [n_le (by omega) (by omega)]; omega), k137_39, gI_n (by omega) (by omega), gI_n (by omega) (by omega), hB i hi, hB (i + 1) (by omega), k137_41, T_isHat]
  simp only [oN]
  rw [k137_44]
  by_cases c2 : htOk (B i) (B (i + 1))
  case neg =>
    rw [if_pos (T_isHat_b.mpr c2), k137_59]
    exact H0 (fun z => c2 z.2.1)
  rw [if_neg (fun z => (T_isHat_b.mp z) c2), x137_47 X, C1.2.1, k137_56]
  by_cases c3 : q.1.1 < 7
  case neg =>
    rw [if_neg (by show ¬ nI q.1.1 < nI 7; rw [n_lt (by omega) (by omega)]; exact c3), k137_59]
    exact H0 (fun z => c3 z.2.2)
  rw [if_pos (by show nI q.1.1 < nI 7; rw [n_lt (by omega) (by omega)]; exact c3), x137_61 X, e2, k137_77, T_at (x_K108 X) (by decide) (by omega), gI_n (by omega) (by omega), hB (i + 2) c1]
  simp only [oM]
  rw [k137_80 (x_K65 X)]
  refine cl_add X C1 c3 (fun M' C' f1 f2 f3 => ?_)
  have X' : XS M' := by
    have a : agr [65, 66, 67, 68, 69] M M' ∨ True := Or.inr trivial
    refine XS_same ⟨fun x _ => ?_, fun x _ _ => ?_⟩ X
    · rw [agr_K C'.1, agr_K C1.1]
    · rw [agr_R C'.1, agr_R C1.1]
  simp only [oZ]
  rw [k137_83]
  refine H1 M' ⟨c1, c2, c3⟩ X' ⟨C', by rw [f1]; exact C2, fun k q' => by rw [f1]; exact C3 k q', f2.trans C4, f3.trans C5⟩ ?_
  rw [agr_I C'.1 (a := 108) (by decide), agr_I C1.1 (a := 108) (by decide)]
theorem cr_loop {M0 : hp} {B : Nat → Int32} {L : Nat} (hL : L ≤ 400) (h107 : hI M0 107 1 = nI L) (hB : ∀ j, j < L → hI M0 108 j = B j) (hsm : ∀ j, j < L → sm (B j)) (r : RSt) (K : ∀ M', XS M' → ClQ M0 M' r → Wp none d 98 74 [(0, .ref 64), (1, .int (nI r.2.1)), (2, .int (nI (3 * ((L + 2) / 3))))] [] M' Q) : ∀ (k i : Nat) (q : RSt) (M : hp), L ≤ i + 3 * k → i + 3 * k = 3 * ((L + 2) / 3) → XS M → ClQ M0 M q → WFs q.1 → rwIt B L k i q = r → Wp none d 98 33 [(0, .ref 64), (1, .int (nI q.2.1)), (2, .int (nI i))] [] M Q := by
  intro k
  induction k with
  | zero =>
    intro i q M h1 h2 X C W hr
    have hr : q = r := hr
    have hi : i = 3 * ((L + 2) / 3) := by omega
    have e107 : hI M 107 1 = nI L := by rw [C.2.2.2.1]; exact h107
    rw [x98_33 X, e107, k98_41, if_pos (by rw [n_le (by omega) (by omega)]; omega), hi, hr]
    exact K M X (hr ▸ C)
  | succ k ih =>
    intro i q M h1 h2 X C W hr
    have hi : i < L := by omega
    have e107 : hI M 107 1 = nI L := by rw [C.2.2.2.1]; exact h107
    have e108 : hI M 108 = hI M0 108 := agr_I C.1.1 (by decide)
    have e3 : nI i + 3 = nI (i + 3) := n_addl i 3
    have hr : rwIt B L k (i + 3) (rwSt B L i q) = r := hr
    rw [x98_33 X, e107, k98_41, if_neg (by rw [n_le (by omega) (by omega)]; omega), k98_44, x98_46 X]
    refine bring_ok (B := B) X C hL hi e107 (fun j hj => by rw [e108]; exact hB j hj) W (fun c => ?_) (fun M' c X' C' f => ?_)
    · simp only [oN]
      have es : rwSt B L i q = (q.1, q.2.1, q.2.2 + 1) := if_neg c
      rw [es] at hr
      have X1 : XS (sI M 64 16 (nI (q.2.2 + 1))) := X
      rw [k98_49, if_pos rfl, x98_58 X, C.2.1, nI_1, k98_68, e3]
      refine ih (i + 3) (q.1, q.2.1, q.2.2 + 1) _ (by omega) (by omega) X1 ?_ W hr
      obtain ⟨⟨d1, d2, d3, d4, d5, d6, d7⟩, C2, C3, C4, C5⟩ := C
      refine ⟨⟨agr_trans d1 (agr_sI (by decide)), by rw [hI_sI_a (by decide)]; exact d2, fun k q => by rw [hI_sI_a (by decide)]; exact d3 k q, ?_, ?_, ?_, ?_⟩, hI_sI_s _ _ _ _, fun k q' => by rw [hI_sI_k q']; exact C3 k q', ?_, ?_⟩
      · rw [← d4]; funext k; exact hI_sI_a (by decide)
      · rw [← d5]; funext k; exact hI_sI_a (by decide)
      · rw [← d6]; funext k; exact hI_sI_a (by decide)
      · rw [← d7]; funext k; exact hI_sI_a (by decide)
      · rw [← C4]; funext k; exact hI_sI_a (by decide)
      · rw [← C5]; funext k; exact hI_sI_a (by decide)
    · simp only [oN]
      have es : rwSt B L i q = (addS (B i) (B (i + 1)) (B (i + 2)) q.1, q.2.1 + 1, q.2.2) := if_pos c
      rw [es] at hr
      rw [k98_49, if_neg (by decide), k98_52, nI_1, k98_68, e3]
      exact ih (i + 3) _ M' (by omega) (by omega) X' C' (WF_add W c.2.2 (hsm _ c.1)) hr
/-- the reference's side -/
def RfQ (M0 M : hp) (q : RSt) : Prop := RfS M0 M q.1 ∧ hI M 126 11 = nI q.2.2 ∧ ∀ k, ¬ k = 11 → hI M 126 k = hI M0 126 k
theorem mr_loop {M0 : hp} {B : Nat → Int32} {L : Nat} (hL : L ≤ 400) (hB : ∀ j, j < L → hI M0 135 j = B j) (hsm : ∀ j, j < L → sm (B j)) (r : RSt) (K : ∀ M', MF M' → RfQ M0 M' r → Wp none d 181 98 [(0, .ref 126), (1, .int (nI L)), (2, .int (nI r.2.1)), (3, .int (nI (3 * ((L + 2) / 3))))] [] M' Q) : ∀ (k i : Nat) (q : RSt) (M : hp), L ≤ i + 3 * k → i + 3 * k = 3 * ((L + 2) / 3) → MF M → RfQ M0 M q → WFs q.1 → rwIt B L k i q = r → Wp none d 181 35 [(0, .ref 126), (1, .int (nI L)), (2, .int (nI q.2.1)), (3, .int (nI i))] [] M Q := by
  intro k
  induction k with
  | zero =>
    intro i q M h1 h2 F C W hr
    have hr : q = r := hr
    have hi : i = 3 * ((L + 2) / 3) := by omega
    rw [k181_35, k181_37, if_pos (by rw [n_le (by omega) (by omega)]; omega), hi, hr]
    exact K M F (hr ▸ C)
  | succ k ih =>
    intro i q M h1 h2 F C W hr
    have hi : i < L := by omega
    have w7 := W.1
    have e135 : hI M 135 = hI M0 135 := agr_I C.1.1 (by decide)
    have e3 : nI i + 3 = nI (i + 3) := n_addl i 3
    have e2 : nI i + 2 = nI (i + 2) := n_addl i 2
    have hr : rwIt B L k (i + 3) (rwSt B L i q) = r := hr
    have no : ∀ (M1 : hp), MF M1 → RfQ M0 M1 q → ¬ (i + 2 < L ∧ htOk (B i) (B (i + 1)) ∧ q.1.1 < 7) → Wp none d 181 82 [(0, .ref 126), (1, .int (nI L)), (2, .int (nI q.2.1)), (3, .int (nI i))] [] M1 Q := by
      intro M1 F1 C1 c
      have es : rwSt B L i q = (q.1, q.2.1, q.2.2 + 1) := if_neg c
      rw [es] at hr
      have F2 : MF (sI M1 126 11 (nI (q.2.2 + 1))) := F1
      rw [k181_82 (m_9 F1), C1.2.1, nI_1, k181_92, e3]
      refine ih (i + 3) (q.1, q.2.1, q.2.2 + 1) _ (by omega) (by omega) F2 ⟨⟨agr_trans C1.1.1 (agr_sI (by decide)), by rw [hI_sI_a (by decide)]; exact C1.1.2.1, fun j hj => by rw [hI_sI_a (by decide), hI_sI_a (by decide), hI_sI_a (by decide), hI_sI_a (by decide)]; exact C1.1.2.2.1 j hj, fun l hl => by rw [hI_sI_a (by decide)]; exact C1.1.2.2.2 l hl⟩, hI_sI_s _ _ _ _, fun k q' => by rw [hI_sI_k q']; exact C1.2.2 k q'⟩ W hr
    have v400 : ∀ j, j < 400 → vin (nI j) 400 = true := fun j q => by rw [vin_n (by omega)]; exact decide_eq_true q
    rw [k181_35, k181_37, if_neg (by rw [n_le (by omega) (by omega)]; omega), k181_40, e2, k181_44]
    by_cases c1 : i + 2 < L
    case neg =>
      rw [if_pos (by rw [n_le (by omega) (by omega)]; omega)]
      exact no M F C (fun z => c1 z.1)
    rw [if_neg (by rw [n_le (by omega) (by omega)]; omega), m181_47 F (v400 i (by omega)) (by rw [nI_1]; exact v400 _ (by omega)) (by rw [e2]; exact v400 _ (by omega)), nI_1, e2, n_cl (by omega), n_cl (by omega), n_cl (by omega), e135, hB i hi, hB (i + 1) (by omega), hB (i + 2) c1, k181_70 (m_9 F)]
    refine mComes F C.1 w7 (fun c => ?_) (fun c c7 => ?_) (fun M' c c7 F' C' e126 => ?_)
    · simp only [oN]
      rw [k181_73, if_pos (by decide)]
      exact no M F C (fun z => c z.2.1)
    · simp only [oN]
      rw [k181_73, if_pos (by decide)]
      exact no M F C (fun z => by have := z.2.2; omega)
    · simp only [oN]
      have es : rwSt B L i q = (addS (B i) (B (i + 1)) (B (i + 2)) q.1, q.2.1 + 1, q.2.2) := if_pos ⟨c1, c, c7⟩
      rw [es] at hr
      rw [k181_73, if_neg (nI_pos (by omega)), k181_76, nI_1, k181_92, e3]
      exact ih (i + 3) _ M' (by omega) (by omega) F' ⟨C', by rw [e126]; exact C.2.1, fun k q' => by rw [e126]; exact C.2.2 k q'⟩ (WF_add W c7 (hsm _ c1)) hr
theorem rw_came (B : Nat → Int32) (L : Nat) : ∀ (k i : Nat) (q : RSt), (rwIt B L k i q).2.1 ≤ q.2.1 + k
  | 0, _, _ => by show _ ≤ _; exact Nat.le_refl _
  | k + 1, i, q => by
    have := rw_came B L k (i + 3) (rwSt B L i q)
    have h2 : (rwSt B L i q).2.1 ≤ q.2.1 + 1 := by
      unfold rwSt
      split
      · exact Nat.le_refl _
      · exact Nat.le_succ _
    show (rwIt B L k (i + 3) (rwSt B L i q)).2.1 ≤ q.2.1 + (k + 1)
    omega
theorem p_row (S : Sim M) (K : Alk d 181 [(0, .ref 126)] M Q) : Wp none d 98 0 [(0, .ref 64)] [] M Q := by
  obtain ⟨n, nl, lw, X, H, HO, Y⟩ := Sim_get S
  obtain ⟨L, L4, t1, t2, t3⟩ := Tpe_get S.2.2.2.1
  have n7 := Y.n7
  have start : ∀ (M1 : hp) (Q2 : Option Value → hp → Prop) (n' : Nat) (D T P W : Nat → Int32) (hr rn : Int32) (L' : Law), RP M1 n' D T P W hr rn L' → hI M1 126 13 = nI L → Wp none d 181 16 [(0, .ref 126), (1, .int (nI L))] [.int (nI L)] (sI M1 126 13 0) Q2 → Wp none d 181 0 [(0, .ref 126)] [] M1 Q2 := by
    intro M1 Q2 n' D T P W hr rn L' Y1 e h
    rw [k181_0 (m_9 Y1.F), o0_id Y1, k181_5 (m_9 Y1.F), e, k181_15]
    exact h
  rw [x98_0 X, t1, k98_7]
  by_cases c0 : L = 0
  · rw [if_neg (by rw [c0]; exact fun q => q rfl), k98_10, x98_13 X, T_refused X]
    simp only [oN]
    rw [k98_16]
    refine p_refused (v := 6) (Or.inr (Or.inr (Or.inr (Or.inr rfl)))) S K (fun Q2 a h => ?_)
    have Y1 := RP_64 Y a (by decide)
    have e13 : hI (refM M (-(nI 6))) 126 13 = nI L := by rw [agr_I a (a := 126) (by decide)]; exact t2
    have eid : sI (refM M (-(nI 6))) 126 13 0 = refM M (-(nI 6)) := by
      have := sI_id (refM M (-(nI 6))) 126 13
      rw [e13, c0] at this
      exact this
    refine start _ Q2 _ _ _ _ _ _ _ _ Y1 e13 ?_
    rw [eid, k181_16, if_neg (by rw [c0]; exact fun q => q rfl), k181_19, k181_22 (m_9 Y1.F), show (-6 : Int32) = -(nI 6) from by decide, mTell_n Y1.F (by omega) (by omega)]
    simp only [oN]
    rw [k181_25]
    exact h
  have ne0 : ¬ nI L = 0 := by show ¬ nI L = nI 0; rw [n_eq (by omega) (by omega)]; exact c0
  have X1 : XS (sI M 103 2 0) := X
  have X2 : XS (sI (sI M 103 2 0) 64 16 0) := X
  have M0a : agr [64, 103] M (sI (sI M 103 2 0) 64 16 0) := agr_trans (agr_sI (by decide)) (agr_sI (by decide))
  rw [if_pos ne0, x98_17 X, x98_21 X (x_K103 X), Past_clear X.2.2.2.2.2.2.2.1]
  simp only [oZ]
  rw [x98_24 X1, k98_29]
  have b107 : hI (sI (sI M 103 2 0) 64 16 0) 107 = hI M 107 := agr_I M0a (by decide)
  have b108 : hI (sI (sI M 103 2 0) 64 16 0) 108 = hI M 108 := agr_I M0a (by decide)
  have hB1 : ∀ j, j < L → hI (sI (sI M 103 2 0) 64 16 0) 108 j = hI M 135 j := fun j hj => by rw [b108]; exact (t3 j hj).1
  have hsm : ∀ j, j < L → sm (hI M 135 j) := fun j hj => (t3 j hj).2
  have h0 : ∀ x, x = 65 ∨ x = 66 ∨ x = 67 ∨ x = 68 ∨ x = 69 → hI (sI (sI M 103 2 0) 64 16 0) x = hI M x := fun x q => agr_I M0a (by simp; omega)
  have C0 : ClQ (sI (sI M 103 2 0) 64 16 0) (sI (sI M 103 2 0) 64 16 0) (hst M n, 0, 0) := ⟨⟨agr_refl _ _, by rw [h0 65 (by omega)]; exact HO.2.1.1, fun _ _ => rfl, h0 66 (by omega), h0 67 (by omega), h0 68 (by omega), h0 69 (by omega)⟩, hI_sI_s _ _ _ _, fun _ _ => rfl, rfl, rfl⟩
  obtain ⟨r, hr⟩ : ∃ r, r = rwIt (hI M 135) L ((L + 2) / 3) 0 (hst M n, 0, 0) := ⟨_, rfl⟩
  have Wr : WFs r.1 := by rw [hr]; exact rw_WF hsm _ _ _ (hst_WF H)
  have cr : r.2.1 ≤ 200 := by
    have := rw_came (hI M 135) L ((L + 2) / 3) 0 (hst M n, 0, 0)
    rw [← hr] at this
    have h2 : r.2.1 ≤ 0 + (L + 2) / 3 := this
    omega
  refine cr_loop (M0 := sI (sI M 103 2 0) 64 16 0) L4 (by rw [b107]; exact t1) hB1 hsm r (fun M3 X3 C3 => ?_) ((L + 2) / 3) 0 (hst M n, 0, 0) _ (by omega) (by omega) X2 C0 (hst_WF H) hr.symm
  obtain ⟨⟨d1, d2, d3, d4, d5, d6, d7⟩, e2, e3, e4, e5⟩ := C3
  have X4 : XS (sI M3 107 1 0) := X3
  rw [x98_74 X3, k98_82, x98_84 X4, T_accepted X4]
  simp only [oN]
  rw [k98_87]
  refine K _ _ (fun Q2 h => ?_)
  have a3 : agr [64, 65, 66, 67, 68, 69, 103, 107] M (sI (sI M3 107 1 0) 64 19 0) := agr_trans (agr_mono M0a (by intro x q; simp at q ⊢; omega)) (agr_trans d1 (agr_trans (agr_sI (by decide)) (agr_sI (by decide))))
  have Y3 := RP_64 Y a3 (by decide)
  have f128 : hI (sI (sI M3 107 1 0) 64 19 0) 128 = hI M 128 := agr_I a3 (by decide)
  have f126 : hI (sI (sI M3 107 1 0) 64 19 0) 126 = hI M 126 := agr_I a3 (by decide)
  have f135 : hI (sI (sI M3 107 1 0) 64 19 0) 135 = hI M 135 := agr_I a3 (by decide)
  have f64 : ∀ k, ¬ k = 16 → ¬ k = 19 → hI (sI (sI M3 107 1 0) 64 19 0) 64 k = hI M 64 k := fun k q q2 => by rw [hI_sI_k q2, hI_sI_a (by decide), e3 k q, hI_sI_k q, hI_sI_a (by decide)]
  have f16 : hI (sI (sI M3 107 1 0) 64 19 0) 64 16 = nI r.2.2 := by rw [hI_sI_k (by decide), hI_sI_a (by decide)]; exact e2
  have f19 : hI (sI (sI M3 107 1 0) 64 19 0) 64 19 = 0 := hI_sI_s _ _ _ _
  have f107 : hI (sI (sI M3 107 1 0) 64 19 0) 107 1 = 0 := by rw [hI_sI_a (by decide), hI_sI_s]
  have f103 : hI (sI (sI M3 107 1 0) 64 19 0) 103 2 = 0 ∧ hI (sI (sI M3 107 1 0) 64 19 0) 103 1 = hI M 103 1 := by
    constructor
    · rw [hI_sI_a (by decide), hI_sI_a (by decide), e5, hI_sI_a (by decide), hI_sI_s]
    · rw [hI_sI_a (by decide), hI_sI_a (by decide), e5, hI_sI_a (by decide), hI_sI_k (by decide)]
  have fc : ∀ x, x = 65 ∨ x = 66 ∨ x = 67 ∨ x = 68 ∨ x = 69 → hI (sI (sI M3 107 1 0) 64 19 0) x = hI M3 x := fun x q => by
    funext k
    rw [hI_sI_a (by omega), hI_sI_a (by omega)]
  have f65 : ∀ k, ¬ k = 8 → hI (sI (sI M3 107 1 0) 64 19 0) 65 k = hI M 65 k := fun k q => by rw [fc 65 (by omega), d3 k q, h0 65 (by omega)]
  have g8 : hI (sI (sI M3 107 1 0) 64 19 0) 65 8 = nI r.1.1 := by rw [fc 65 (by omega)]; exact d2
  have g66 := (fc 66 (by omega)).trans d4
  have g67 := (fc 67 (by omega)).trans d5
  have g68 := (fc 68 (by omega)).trans d6
  have g69 := (fc 69 (by omega)).trans d7
  generalize sI (sI M3 107 1 0) 64 19 0 = Ma at *
  have F1 : MF (sI Ma 126 13 0) := Y3.F
  have F2 : MF (sI (sI Ma 126 13 0) 126 11 0) := Y3.F
  refine start Ma Q2 _ _ _ _ _ _ _ _ Y3 (by rw [f126]; exact t2) ?_
  rw [k181_16, if_pos ne0, k181_26 (m_9 F1), k181_31]
  have R0 : RfQ (sI (sI Ma 126 13 0) 126 11 0) (sI (sI Ma 126 13 0) 126 11 0) (hst M n, 0, 0) := by
    have e : hI (sI (sI Ma 126 13 0) 126 11 0) 128 = hI M 128 := by
      rw [← f128]
      funext k
      rw [hI_sI_a (by decide), hI_sI_a (by decide)]
    have := hst_Rf H
    exact ⟨⟨agr_refl _ _, by rw [e]; exact this.2.1, by rw [e]; exact this.2.2.1, fun _ _ => rfl⟩, hI_sI_s _ _ _ _, fun _ _ => rfl⟩
  refine mr_loop (M0 := sI (sI Ma 126 13 0) 126 11 0) L4 (B := hI M 135) (fun j _ => by rw [hI_sI_a (by decide), hI_sI_a (by decide), f135]) hsm r (fun M5 F5 R5 => ?_) ((L + 2) / 3) 0 (hst M n, 0, 0) _ (by omega) (by omega) F2 R0 (hst_WF H) hr.symm
  obtain ⟨⟨p1, p2, p3, p4⟩, p5, p6⟩ := R5
  rw [k181_98, k181_100 (m_9 F5), mLast_p F5 (by show nI 0 ≤ nI r.2.1; rw [n_le (by omega) (by omega)]; omega)]
  simp only [oN]
  rw [k181_103]
  have b5 : agr [126, 128] Ma (sI (sI M5 126 8 0) 126 1 0) := agr_trans (agr_trans (agr_sI (by decide)) (agr_sI (by decide))) (agr_trans p1 (agr_trans (agr_sI (by decide)) (agr_sI (by decide))))
  have aa : agr [64, 65, 66, 67, 68, 69, 103, 107, 126, 128] M (sI (sI M5 126 8 0) 126 1 0) := agr_trans (agr_mono a3 (by intro x q; simp at q ⊢; omega)) (agr_mono b5 (by intro x q; simp at q ⊢; omega))
  have q128 : hI (sI (sI M5 126 8 0) 126 1 0) 128 = hI M5 128 := by funext k; rw [hI_sI_a (by decide), hI_sI_a (by decide)]
  have qc : ∀ x, ¬ x = 126 → ¬ x = 128 → hI (sI (sI M5 126 8 0) 126 1 0) x = hI Ma x := fun x q q2 => agr_I b5 (by simp; omega)
  have q126 : ∀ k, ¬ k = 1 → ¬ k = 8 → ¬ k = 11 → ¬ k = 13 → hI (sI (sI M5 126 8 0) 126 1 0) 126 k = hI M 126 k := fun k q q2 q3 q4 => by rw [hI_sI_k q, hI_sI_k q2, p6 k q3, hI_sI_k q3, hI_sI_k q4, f126]
  have q13 : hI (sI (sI M5 126 8 0) 126 1 0) 126 13 = 0 := by rw [hI_sI_k (by decide), hI_sI_k (by decide), p6 13 (by decide), hI_sI_k (by decide), hI_sI_s]
  have q11 : hI (sI (sI M5 126 8 0) 126 1 0) 126 11 = nI r.2.2 := by rw [hI_sI_k (by decide), hI_sI_k (by decide)]; exact p5
  refine h _ (Sim_come S Wr aa (by rw [qc 65 (by decide) (by decide)]; exact g8) (fun k q => by rw [qc 65 (by decide) (by decide)]; exact f65 k q) (by rw [qc 66 (by decide) (by decide)]; exact g66) (by rw [qc 67 (by decide) (by decide)]; exact g67) (by rw [qc 68 (by decide) (by decide)]; exact g68) (by rw [qc 69 (by decide) (by decide)]; exact g69) (by rw [q128]; exact p2) (by rw [q128]; exact p3) (fun l hl => by rw [q128, p4 l hl, hI_sI_a (by decide), hI_sI_a (by decide), f128]) (by rw [qc 103 (by decide) (by decide)]; exact f103.1) (by rw [qc 103 (by decide) (by decide)]; exact f103.2) (by rw [hI_sI_k (by decide), hI_sI_s]) (by rw [qc 64 (by decide) (by decide)]; exact f64 15 (by decide) (by decide)) (fun k q => q126 k (by omega) (by omega) (by omega) (by omega)) ?_ ?_) (by rw [aa.1]; omega) (by rw [aa.2.1]; omega)
  · exact Tpe_of (L := 0) (by omega) (by rw [qc 107 (by decide) (by decide)]; exact f107) q13 (fun i hi => absurd hi (by omega))
  · obtain ⟨s1, s2, s3, s4, s5⟩ := S.2.2.2.2.1
    refine ⟨?_, ?_, ?_, ?_, ?_⟩
    · rw [qc 64 (by decide) (by decide), f16, q11]
    · rw [qc 64 (by decide) (by decide), f64 17 (by decide) (by decide), q126 18 (by decide) (by decide) (by decide) (by decide)]; exact s2
    · rw [qc 64 (by decide) (by decide), f64 18 (by decide) (by decide), q126 49 (by decide) (by decide) (by decide) (by decide)]; exact s3
    · rw [qc 64 (by decide) (by decide), f19, hI_sI_s]
    · rw [agr_I aa (a := 125) (by decide), agr_I aa (a := 127) (by decide)]; exact s5
