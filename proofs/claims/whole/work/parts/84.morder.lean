variable {d : Nat} {M : hp} {Q : Option Value → hp → Prop}
/-! orders, as the reference reads them -/
theorem pAt0_head {b : Nat → Nat} {L s : Nat} (F : MF M) (W : MWd M) (K : NTk M b L s) : Wp none d 258 0 [(0, .ref 126)] [] M Q = Wp none d 258 34 [(0, .ref 126), (1, .int (ixI (wix kwO (wrd b L s)))), (2, .int (nI 4))] [] M Q := by
  have key := for_up (W := fun i a => Wp none d 258 4 [(0, .ref 126), (1, .int a), (2, .int (nI i))] [] M Q) (f := fun j x => if wrd b L s = kwO.getD j [] then nI j else x) (n := 4) (fun i a hi => by
    have hv : vin (nI i) 4 = true := by rw [vin_n (by omega)]; exact decide_eq_true hi
    show Wp none d 258 4 [(0, .ref 126), (1, .int a), (2, .int (nI i))] [] M Q = Wp none d 258 4 [(0, .ref 126), (1, .int (if wrd b L s = kwO.getD i [] then nI i else a)), (2, .int (nI (i + 1)))] [] M Q
    rw [k258_4, k258_6, show (4 : Int32) = nI 4 from rfl, lei (by omega) (by omega), if_neg (by omega), m258_9 F hv, n_cl (by omega), m258_16 F, mIsWord F K (kwOk_get (l := kwO) (by decide) hi) (W.2.2.2 i hi)]
    simp only [oN]
    rw [k258_19, bzi]
    by_cases c : wrd b L s = kwO.getD i []
    · rw [if_neg (fun z => z c), k258_22, k258_27, if_pos c, nI_1]
    · rw [if_pos c, k258_26, k258_27, if_neg c, nI_1]) 4 0 (-1) (by omega)
  rw [k258_0]
  refine (show _ = _ from key).trans ?_
  show Wp none d 258 4 [(0, .ref 126), (1, .int (pAt0 kwO (wrd b L s) 4)), (2, .int (nI 4))] [] M Q = _
  have e : pAt0 kwO (wrd b L s) 4 = ixI (wix kwO (wrd b L s)) := pAt0_ix (l := kwO) (by decide)
  rw [e, k258_4, k258_6, if_pos (by decide)]
theorem ord_clear {i : Nat} {x1 : Int32} (hi : i < 12) : ∀ (k j : Nat) (M1 : hp), j + k = 8 → MF M1 → cL 152 M M1 i → (∀ w, w < j → hI M1 152 (8 * i + w) = 0) → (∀ M', cL 152 M M' i → (∀ w, w < 8 → hI M' 152 (8 * i + w) = 0) → Wp none d 258 106 [(0, .ref 126), (1, .int x1), (2, .int (nI (8 * i))), (3, .int (nI 8))] [] M' Q) → Wp none d 258 85 [(0, .ref 126), (1, .int x1), (2, .int (nI (8 * i))), (3, .int (nI j))] [] M1 Q := by
  intro k
  induction k with
  | zero =>
    intro j M1 e F fr hz hk
    have : j = 8 := by omega
    subst this
    rw [k258_85, k258_88, if_pos (by decide)]
    exact hk M1 fr hz
  | succ k ih =>
    intro j M1 e F fr hz hk
    have hv : vin (nI (8 * i + j)) 96 = true := by rw [vin_n (by omega)]; exact decide_eq_true (by omega)
    rw [k258_85, k258_88, show (8 : Int32) = nI 8 from rfl, lei (by omega) (by omega), if_neg (by omega), m258_91 F (by rw [nI_add]; exact hv), nI_add, n_cl (by omega), k258_100, nI_1]
    refine ih (j + 1) _ (by omega) F ⟨agr_trans fr.1 (agr_sI (by decide)), fun l hl => (hI_sI_k (by omega)).trans (fr.2 l hl)⟩ ?_ hk
    intro w hw
    rw [hI_sI]
    by_cases c : 8 * i + w = 8 * i + j
    · rw [if_pos ⟨rfl, c⟩]
    · rw [if_neg (fun z => c z.2)]
      exact hz w (by omega)
/-- a sum of orders, in the cells at, at + 1 -/
def SRX (M0 : hp) (b : Nat → Nat) (L i t c : Nat) (Q : Option Value → hp → Prop) (r : PR) : Prop := match r with
  | .inl q => ∀ M', LBd 152 M0 M' q → Q none M'
  | .inr (s1, n1, D) => ∀ M' c1, LF 152 M0 M' i c → XP M' b L true s1 n1 c1 → hI M' 126 21 = hI M0 126 21 → (∀ j, ¬ j = t → ¬ j = t + 1 → hI M' 152 j = hI M0 152 j) → hI M' 152 t = nI c → hI M' 152 (t + 1) = nI c1 → SegR true (hI M' 137) (hI M' 138) c c1 D → Q none M'
theorem mReadSum {b : Nat → Nat} {L s n c i t : Nat} (F : MF M) (T : TR M b L) (W : MWd M) (X : XP M b L true s n c) (ht : 8 * i ≤ t) (ht2 : t + 1 < 96) (H : SRX M b L i t c Q (sumP b L true s n)) : Wp none d 256 0 [(0, .ref 126), (1, .int (nI t))] [] M Q := by
  have ha : cla 152 := Or.inr rfl
  have F1 : MF (sI M 152 t (nI c)) := F
  have X1 : XP (sI M 152 t (nI c)) b L true s n c := XP_cell ha X
  have f1 : LF 152 M (sI M 152 t (nI c)) i c := LF_cell ha ht
  rw [m256_0 F (v96 (by omega)), n_cl (by omega), X.2.2.2.1, m256_10 F1, X1.2.1, k256_14, if_neg (by decide), k256_17, m256_19 F1]
  refine mSumX F1 (TR_LF ha T f1) (MWd_LF ha W f1) X1 ?_
  cases hp : sumP b L true s n with
  | inl q =>
    rw [hp] at H
    intro M' g1 g2 g3
    have F2 := MF_pFr F1 g1
    simp only [oZ]
    rw [m256_22 F2 (by rw [nI_1]; exact v96 (by omega)), nI_1, n_cl (by omega)]
    exact H _ (LBd_cell ha (LBd_pre f1 (LBd_X ha g1 g2 g3)))
  | inr y =>
    obtain ⟨s1, n1, D⟩ := y
    rw [hp] at H
    intro M' c1 g1 X2 ec sg
    have F2 := MF_pFr F1 g1
    have ea : hI M' 152 = hI (sI M 152 t (nI c)) 152 := agr_I g1.1 (by decide)
    simp only [oZ]
    rw [m256_22 F2 (by rw [nI_1]; exact v96 (by omega)), nI_1, n_cl (by omega), X2.2.2.2.1]
    refine H _ c1 (LF_trans f1 (LF_trans (LF_pFr ha g1 ec) (LF_cell ha (by omega)) (Nat.le_refl _) (Nat.le_refl _)) (Nat.le_refl _) (Nat.le_refl _)) (XP_cell ha X2) ?_ ?_ ?_ (hI_sI_s _ _ _ _) (SegR_cong sg (fun j _ _ => ⟨(hI_sI_a (by decide)).symm, (hI_sI_a (by decide)).symm⟩))
    · rw [hI_sI_a (by decide), g1.2.1 21 (by decide), hI_sI_a (by decide)]
    · intro j h1 h2
      rw [hI_sI_k h2, ea, hI_sI_k h1]
    · rw [hI_sI_k (by omega), ea, hI_sI_s]
/-- a sum, once a fault stands -/
theorem mReadSum_bad {M0 : hp} {q t : Nat} (F : MF M) (h : LBd 152 M0 M q) (ht : t + 1 < 96) (hQ : ∀ M', LBd 152 M0 M' q → Q none M') : Wp none d 256 0 [(0, .ref 126), (1, .int (nI t))] [] M Q := by
  have ha : cla 152 := Or.inr rfl
  have F1 : MF (sI M 152 t (hI M 126 23)) := F
  have h1 : LBd 152 M0 (sI M 152 t (hI M 126 23)) q := LBd_cell ha h
  rw [m256_0 F (v96 (by omega)), n_cl (by omega), m256_10 F1, h1.2.1, k256_14, if_pos (by decide), m256_22 F1 (by rw [nI_1]; exact v96 (by omega)), nI_1, n_cl (by omega)]
  exact hQ _ (LBd_cell ha h1)
/-- a word, then a sum -/
theorem mBehind {b : Nat → Nat} {L s n c i t : Nat} {w : Int64} {x : List Nat} (F : MF M) (T : TR M b L) (W : MWd M) (X : XP M b L true s n c) (ht : 8 * i ≤ t) (ht2 : t + 1 < 96) (hx : kwOk x = true) (hl : lett x = true) (hw : w = lN (wcode x)) (H : SRX M b L i t c Q (behP b L s n x)) : Wp none d 257 0 [(0, .ref 126), (1, .long w), (3, .int (nI t))] [] M Q := by
  have ha : cla 152 := Or.inr rfl
  unfold behP at H
  rw [m257_0 F, X.2.1, k257_4, if_neg (by decide), k257_7, m257_10 F, mIsWord F X.1 hx hw]
  simp only [oM]
  rw [m257_13 F]
  by_cases z : wrd b L s = x
  · rw [if_pos z] at H
    have hsL := kw_lt hl z
    have hnx := nx_gt (b := b) hsL
    rw [bz_t z]
    refine must_y F T X.1 X.2.1 (by decide) ?_
    intro M1 t1 K1
    have F1 := MF_agr F t1.1
    have X1 := XP_tk X t1 K1 (Nat.le_of_lt hnx)
    have f1 : LF 152 M M1 i c := LF_tk ha t1
    simp only [oZ]
    rw [k257_16, m257_18 F1]
    refine mReadSum F1 (TR_LF ha T f1) (MWd_LF ha W f1) X1 ht ht2 ?_
    cases hp : sumP b L true (nx b L s) n with
    | inl q =>
      rw [hp] at H
      intro M' g
      simp only [oZ]
      rw [k257_21]
      exact H M' (LBd_pre f1 g)
    | inr y =>
      obtain ⟨s1, n1, D⟩ := y
      rw [hp] at H
      intro M' c1 g1 X2 e21 ec e1 e2 sg
      have ea : hI M1 152 = hI M 152 := agr_I t1.1 (by decide)
      simp only [oZ]
      rw [k257_21]
      exact H M' c1 (LF_trans f1 g1 (Nat.le_refl _) (Nat.le_refl _)) X2 (e21.trans (t1.2.1 21 (by decide) (by decide) (by decide))) (fun j h1 h2 => (ec j h1 h2).trans (by rw [ea])) e1 e2 sg
  · rw [if_neg z] at H
    have F1 : MF (badM M s) := F
    rw [bz_f z, must_n F X.1 X.2.1]
    simp only [oZ]
    show Wp none d 257 16 [(0, .ref 126), (1, .long w), (3, .int (nI t))] [] (badM M s) Q
    rw [k257_16, m257_18 F1]
    refine mReadSum_bad (M0 := M) F1 (LBd_X ha (badM_fr M s) (badM_19 M s) (by unfold badM; rw [hI_sI_s])) ht2 ?_
    intro M' g
    simp only [oZ]
    rw [k257_21]
    exact H M' g
theorem mBehind_bad {M0 : hp} {q t : Nat} {w : Int64} (F : MF M) (h : LBd 152 M0 M q) (ht : t + 1 < 96) (hQ : ∀ M', LBd 152 M0 M' q → Q none M') : Wp none d 257 0 [(0, .ref 126), (1, .long w), (3, .int (nI t))] [] M Q := by
  rw [m257_0 F, h.2.1, k257_4, if_pos (by decide), k257_16, m257_18 F]
  refine mReadSum_bad F h ht ?_
  intro M' g
  simp only [oZ]
  rw [k257_21]
  exact hQ M' g
/-- the end of an order, once a fault stands -/
theorem ord_bad202 {M0 : hp} {q i : Nat} {x1 x3 : Int32} (F0 : MF M0) (h : LBd 152 M0 M q) (hi : i < 12) (hQ : ∀ M', LBd 152 M0 M' q → Q none M') : Wp none d 258 202 [(0, .ref 126), (1, .int x1), (2, .int (nI (8 * i))), (3, .int x3)] [] M Q := by
  have ha : cla 152 := Or.inr rfl
  have F := MF_LF F0 h.1
  have e5 : nI (8 * i) + 5 = nI (8 * i + 5) := by rw [show (5 : Int32) = nI 5 from rfl, nI_add]
  have e6 : nI (8 * i) + 6 = nI (8 * i + 6) := by rw [show (6 : Int32) = nI 6 from rfl, nI_add]
  have F1 : MF (sI M 152 (8 * i + 5) (hI M 126 23)) := F
  have h1 : LBd 152 M0 (sI M 152 (8 * i + 5) (hI M 126 23)) q := LBd_cell ha h
  rw [m258_202 F (by rw [e5]; exact v96 (by omega)), e5, n_cl (by omega), m258_214 F1, h1.2.1, k258_218, if_pos (by decide), m258_240 F1 (by rw [e6]; exact v96 (by omega)), e6, n_cl (by omega)]
  exact hQ _ (LBd_cell ha h1)
theorem ord_bad154 {M0 : hp} {q i : Nat} {x1 x3 : Int32} (F0 : MF M0) (h : LBd 152 M0 M q) (hi : i < 12) (hQ : ∀ M', LBd 152 M0 M' q → Q none M') : Wp none d 258 154 [(0, .ref 126), (1, .int x1), (2, .int (nI (8 * i))), (3, .int x3)] [] M Q := by
  have ha : cla 152 := Or.inr rfl
  have F := MF_LF F0 h.1
  have e7 : nI (8 * i) + 7 = nI (8 * i + 7) := by rw [show (7 : Int32) = nI 7 from rfl, nI_add]
  have F1 : MF (sI M 152 (8 * i + 7) 1) := F
  have h1 : LBd 152 M0 (sI M 152 (8 * i + 7) 1) q := LBd_cell ha h
  rw [m258_154 F (by rw [e7]; exact v96 (by omega)), e7, n_cl (by omega), m258_164 F1, h1.2.1, k258_168, if_pos (by decide)]
  exact ord_bad202 F0 h1 hi hQ
theorem ord_bad139 {M0 : hp} {q i k : Nat} {x3 : Int32} (F0 : MF M0) (h : LBd 152 M0 M q) (hi : i < 12) (hQ : ∀ M', LBd 152 M0 M' q → Q none M') : Wp none d 258 139 [(0, .ref 126), (1, .int (nI k)), (2, .int (nI (8 * i))), (3, .int x3)] [] M Q := by
  have F := MF_LF F0 h.1
  have e3 : nI (8 * i) + 3 = nI (8 * i + 3) := by rw [show (3 : Int32) = nI 3 from rfl, nI_add]
  rw [k258_139, k258_141]
  split
  · exact ord_bad154 F0 h hi hQ
  · rw [k258_144, m258_151 F, e3]
    refine mBehind_bad F h (by omega) ?_
    intro M' g
    simp only [oZ]
    exact ord_bad154 F0 g hi hQ
theorem ord_bad125 {M0 : hp} {q i k : Nat} {x3 : Int32} (F0 : MF M0) (h : LBd 152 M0 M q) (hi : i < 12) (hQ : ∀ M', LBd 152 M0 M' q → Q none M') : Wp none d 258 125 [(0, .ref 126), (1, .int (nI k)), (2, .int (nI (8 * i))), (3, .int x3)] [] M Q := by
  have F := MF_LF F0 h.1
  have e3 : nI (8 * i) + 3 = nI (8 * i + 3) := by rw [show (3 : Int32) = nI 3 from rfl, nI_add]
  rw [k258_125, k258_126]
  split
  · exact ord_bad139 F0 h hi hQ
  · rw [k258_129, m258_136 F, e3]
    refine mBehind_bad F h (by omega) ?_
    intro M' g
    simp only [oZ]
    exact ord_bad139 F0 g hi hQ
/-- an order in the reference's cells: what stands in cells t, t + 1 -/
def mSegO (M : hp) (t len : Nat) (D : Den) : Prop := ∃ f g, hI M 152 t = nI f ∧ hI M 152 (t + 1) = nI g ∧ g ≤ len ∧ SegR true (hI M 137) (hI M 138) f g D
def mOrdR (M : hp) (len i : Nat) (x : Ocl) : Prop := hI M 152 (8 * i) = nI x.1 ∧ x.1 < 4 ∧ hI M 152 (8 * i + 7) = nI x.2.1 ∧ x.2.1 ≤ 20 ∧ ((x.1 = 3 ∧ hI M 152 (8 * i + 1) = hI M 152 (8 * i + 2) ∧ x.2.2.1 = oneD) ∨ (¬ x.1 = 3 ∧ mSegO M (8 * i + 1) len x.2.2.1)) ∧ ((¬ x.1 = 0 ∧ ¬ x.1 = 2 ∧ hI M 152 (8 * i + 3) = hI M 152 (8 * i + 4) ∧ x.2.2.2.1 = oneD) ∨ ((x.1 = 0 ∨ x.1 = 2) ∧ mSegO M (8 * i + 3) len x.2.2.2.1)) ∧ Rg M true (hI M 152 (8 * i + 5)) (hI M 152 (8 * i + 6)) len x.2.2.2.2
theorem mSegO_keep {M M' : hp} {t len len' : Nat} {D : Den} (h : mSegO M t len D) (hc : ∀ j, j < len → hI M' 137 j = hI M 137 j ∧ hI M' 138 j = hI M 138 j) (h1 : hI M' 152 t = hI M 152 t) (h2 : hI M' 152 (t + 1) = hI M 152 (t + 1)) (hl : len ≤ len') : mSegO M' t len' D := by
  obtain ⟨f, g, q1, q2, q3, q4⟩ := h
  exact ⟨f, g, h1.trans q1, h2.trans q2, by omega, SegR_cong q4 (fun j r1 r2 => ⟨((hc j (by omega)).1).symm, ((hc j (by omega)).2).symm⟩)⟩
theorem mOrdR_keep {M M' : hp} {i j c c1 : Nat} {x : Ocl} (h : mOrdR M c j x) (k : LF 152 M M' i c) (hj : j < i) (hc : c ≤ c1) : mOrdR M' c1 j x := by
  have cell : ∀ w, w < 8 → hI M' 152 (8 * j + w) = hI M 152 (8 * j + w) := fun w hw => k.2.2.2.2 _ (by omega)
  obtain ⟨h1, h2, h3, h4, h5, h6, h7⟩ := h
  refine ⟨(cell 0 (by omega)).trans h1, h2, (cell 7 (by omega)).trans h3, h4, ?_, ?_, Rg_keep h7 k.2.2.2.1 (cell 5 (by omega)) (cell 6 (by omega)) hc⟩
  · rcases h5 with ⟨a1, a2, a3⟩ | ⟨a1, a2⟩
    · exact Or.inl ⟨a1, by rw [cell 1 (by omega), cell 2 (by omega)]; exact a2, a3⟩
    · exact Or.inr ⟨a1, mSegO_keep a2 k.2.2.2.1 (cell 1 (by omega)) (cell 2 (by omega)) hc⟩
  · rcases h6 with ⟨a1, a2, a3, a4⟩ | ⟨a1, a2⟩
    · exact Or.inl ⟨a1, a2, by rw [cell 3 (by omega), cell 4 (by omega)]; exact a3, a4⟩
    · exact Or.inr ⟨a1, mSegO_keep a2 k.2.2.2.1 (cell 3 (by omega)) (cell 4 (by omega)) hc⟩
