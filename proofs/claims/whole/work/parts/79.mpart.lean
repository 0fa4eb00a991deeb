variable {d : Nat} {M : hp} {Q : Option Value → hp → Prop}
/-! brackets, as the reference reads them -/
theorem open_n {b : Nat → Nat} {L s n k c p : Nat} {o : Bool} {op : Int32} (F : MF M) (P : PS M b L o s n k c p) (hk : ¬ k < 8) (hk2 : k < 100) : Wp none d 203 0 [(0, .ref 126), (1, .int op)] [] M Q = Q none (badM M s) := by
  have F1 : MF (badM M s) := F
  rw [m203_0 F, P.2.2.2.1, k203_7, show (8 : Int32) = nI 8 from rfl, lei (by omega) (by omega), if_pos (by omega), k203_14, m203_15 F, must_n F P.1 P.2.1]
  simp only [oZ]
  show Wp none d 203 18 [(0, .ref 126), (1, .int op)] [] (badM M s) Q = _
  rw [m203_18 F1, badM_19, k203_22, if_pos (by decide), k203_41]
def opnM (M1 : hp) (k p : Nat) (v : Nat) : hp := mpush (sI M1 126 30 (nI (k + 1))) p (nI v) (nI 0)
theorem open_y {b : Nat → Nat} {L s n k c p v : Nat} {o : Bool} (F : MF M) (T : TR M b L) (P : PS M b L o s n k c p) (hk : k < 8) (hp4 : p < 400) (hQ : ∀ M1, tkS M M1 → NTk M1 b L (nx b L s) → Q none (opnM M1 k p v)) : Wp none d 203 0 [(0, .ref 126), (1, .int (nI v))] [] M Q := by
  rw [m203_0 F, P.2.2.2.1, k203_7, show (8 : Int32) = nI 8 from rfl, lei (by omega) (by omega), if_neg (by omega), k203_10, m203_15 F]
  refine must_y F T P.1 P.2.1 (by decide) ?_
  intro M1 t1 K1
  have F1 : MF M1 := MF_agr F t1.1
  have e : ∀ j, ¬ j = 14 → ¬ j = 15 → ¬ j = 16 → hI M1 126 j = hI M 126 j := t1.2.1
  have F2 : MF (sI M1 126 30 (nI (k + 1))) := F1
  simp only [oZ]
  rw [m203_18 F1, (e 19 (by decide) (by decide) (by decide)), P.2.1, k203_22, if_neg (by decide), m203_25 F1, (e 30 (by decide) (by decide) (by decide)), P.2.2.2.1, nI_1, k203_35, m203_38 F2, show (0 : Int32) = nI 0 from rfl, mpush_ok F2 (by rw [hI_sI_k (by decide), e 29 (by decide) (by decide) (by decide)]; exact P.2.2.2.2.2.1) hp4]
  simp only [oZ]
  rw [k203_41]
  exact hQ M1 t1 K1
theorem opnM_fr {M1 : hp} (t : tkS M M1) (k p v : Nat) : pFr M (opnM M1 k p v) := pFr_trans (tkS_pFr t) (pFr_trans (pFr_f (pFr_refl M1) (by decide)) (mpush_fr _ _ _ _))
theorem PS_open {M1 : hp} {b : Nat → Nat} {L s n k c p s' v : Nat} {o : Bool} (P : PS M b L o s n k c p) (t : tkS M M1) (K : NTk M1 b L s') (hs : s < s') (hv : 20 ≤ v ∧ v ≤ 32) : PS (opnM M1 k p v) b L o s' n (k + 1) c (p + 1) := by
  have P1 := PS_tk P t K (Nat.le_of_lt hs)
  have hcp := P.2.2.2.2.2.2.2.2.1
  obtain ⟨p1, p2, p3, p4, p5, p6, p7, p8, p9, p10⟩ := P1
  have ef : ∀ j, ¬ j = 29 → ¬ j = 30 → hI (opnM M1 k p v) 126 j = hI M1 126 j := fun j h1 h2 => by unfold opnM; rw [mpush_f h1, hI_sI_k h2]
  refine ⟨NTk_fr p1 (ef _ (by decide) (by decide)) (ef _ (by decide) (by decide)) (ef _ (by decide) (by decide)) rfl, (ef _ (by decide) (by decide)).trans p2, (ef _ (by decide) (by decide)).trans p3, ?_, (ef _ (by decide) (by decide)).trans p5, ?_, (ef _ (by decide) (by decide)).trans p7, p8, by omega, ?_⟩
  · unfold opnM; rw [mpush_f (by decide), hI_sI_s]
  · unfold opnM; exact mpush_29 _ _ _ _
  · exact PV_push (PV_cong p10 (fun j _ => ⟨hI_sI_a (by decide), hI_sI_a (by decide)⟩)) hv (by omega)
theorem opnM_op (M1 : hp) (k p v j : Nat) : hI (opnM M1 k p v) 139 j = if j = p then nI v else hI M1 139 j := by
  unfold opnM
  rw [mpush_op, hI_sI_a (by decide)]
theorem opnM_at (M1 : hp) (k p v j : Nat) : hI (opnM M1 k p v) 140 j = if j = p then nI 0 else hI M1 140 j := by
  unfold opnM
  rw [mpush_at, hI_sI_a (by decide)]
theorem opnM_code (M1 : hp) (k p v : Nat) : hI (opnM M1 k p v) 137 = hI M1 137 ∧ hI (opnM M1 k p v) 138 = hI M1 138 := by
  unfold opnM
  rw [(mpush_code _ _ _ _).1, (mpush_code _ _ _ _).2]
  exact ⟨by funext j; exact hI_sI_a (by decide), by funext j; exact hI_sI_a (by decide)⟩
/-- a bracket is closed -/
def clsM (M3 : hp) (k p : Nat) : hp := sI (sI M3 126 29 (nI p)) 126 30 (nI k)
theorem MOk_close {M1 M3 : hp} {b : Nat → Nat} {L s n k c p s' s1 n1 c1 v : Nat} {o : Bool} {D : Den} (P : PS M b L o s n k c p) (t : tkS M M1) (hs : s < s') (h : MOk (opnM M1 k p v) M3 b L o s' n (k + 1) c (p + 1) s1 n1 c1 D) : MOk M (clsM M3 k p) b L o s n k c p s1 n1 c1 D := by
  obtain ⟨b1, b2, b3, b4, b5, b6, b7⟩ := h
  have hcp := P.2.2.2.2.2.2.2.2.1
  obtain ⟨p1, p2, p3, p4, p5, p6, p7, p8, p9, p10⟩ := b2
  have ef : ∀ j, ¬ j = 29 → ¬ j = 30 → hI (clsM M3 k p) 126 j = hI M3 126 j := fun j h1 h2 => by unfold clsM; rw [hI_sI_k h2, hI_sI_k h1]
  have ea : ∀ a, ¬ a = 126 → hI (clsM M3 k p) a = hI M3 a := fun a ha => by funext j; unfold clsM; rw [hI_sI_a ha, hI_sI_a ha]
  have n139 : ([126] : List Nat).contains 139 = false := by decide
  have n140 : ([126] : List Nat).contains 140 = false := by decide
  have n137 : ([126] : List Nat).contains 137 = false := by decide
  have n138 : ([126] : List Nat).contains 138 = false := by decide
  have ep : ∀ j, j < p → hI (clsM M3 k p) 139 j = hI M 139 j ∧ hI (clsM M3 k p) 140 j = hI M 140 j := fun j hj => by
    have := b4 j (by omega)
    rw [ea 139 (by decide), ea 140 (by decide), this.1, this.2, opnM_op, opnM_at, if_neg (by omega), if_neg (by omega), agr_I t.1 n139, agr_I t.1 n140]
    exact ⟨rfl, rfl⟩
  refine ⟨pFr_trans (opnM_fr t k p v) (pFr_trans b1 (pFr_f (pFr_f (pFr_refl M3) (by decide)) (by decide))), ⟨NTk_fr p1 (ef _ (by decide) (by decide)) (ef _ (by decide) (by decide)) (ef _ (by decide) (by decide)) rfl, (ef _ (by decide) (by decide)).trans p2, (ef _ (by decide) (by decide)).trans p3, hI_sI_s _ _ _ _, (ef _ (by decide) (by decide)).trans p5, ?_, (ef _ (by decide) (by decide)).trans p7, p8, by omega, PV_cong P.2.2.2.2.2.2.2.2.2 ep⟩, ?_, ep, ?_, by omega, by omega⟩
  · unfold clsM; rw [hI_sI_k (by decide), hI_sI_s]
  · intro j hj
    have := b3 j hj
    rw [ea 137 (by decide), ea 138 (by decide), this.1, this.2, (opnM_code _ _ _ _).1, (opnM_code _ _ _ _).2, agr_I t.1 n137, agr_I t.1 n138]
    exact ⟨rfl, rfl⟩
  · rw [ea 137 (by decide), ea 138 (by decide)]
    exact b5
theorem MSet_in {l : Nat} {M0 M' M1 : hp} {b : Nat → Nat} {L s n k c p s1 n1 p1 c1 : Nat} {o : Bool} {D : Den} (h : MSet l M0 M' M1 b L o s n k c p s1 n1 p1 c1 D) : inF (hI M' 139) p1 = inF (hI M0 139) p ∧ cmF (hI M' 139) p1 = cmF (hI M0 139) p := by
  obtain ⟨_, h2, _, _, _, ar, pb⟩ := h
  have e : p1 = p + (p1 - p) := by omega
  constructor
  · rw [e, inF_ar (p1 - p) (fun j q1 q2 => ar j q1 (by omega))]
    exact inF_cong p pb
  · rw [e, cmF_ar (p1 - p) (fun j q1 q2 => ar j q1 (by omega))]
    have : ∀ (P P' : Nat → Int32) (p : Nat), (∀ j, j < p → P j = P' j) → cmF P p = cmF P' p := by
      intro P P' p
      induction p with
      | zero => intro _; rfl
      | succ p ih =>
        intro q
        show (if 20 ≤ P p ∧ P p ≤ 24 then cmF P p else 25 ≤ P p ∧ P p ≤ 27) = (if 20 ≤ P' p ∧ P' p ≤ 24 then cmF P' p else 25 ≤ P' p ∧ P' p ≤ 27)
        rw [q p (by omega), ih (fun j hj => q j (by omega))]
    exact this _ _ p pb
/-- the square bracket's end -/
theorem bs_sq {M0 M' M1 : hp} {b : Nat → Nat} {L s n k c p s1 n1 p1 c1 : Nat} {o : Bool} {D : Den} {ts : Int32} (F : MF M0) (T : TR M0 b L) (h : MSet 5 M0 M' M1 b L o s n (k + 1) c (p + 1) s1 n1 p1 c1 D) (ex : exS b L s1) (h32 : hI M0 139 p = nI 32) (hN : ¬ sg b L s1 93 → ∀ t, WL d ts Q t (badM M' s1)) (hY : sg b L s1 93 → ∀ M3, MOk M0 M3 b L o s n (k + 1) c (p + 1) (nx b L s1) n1 c1 D → WL d ts Q 3 (clsM M3 k p)) : WL d ts Q 3 M' := by
  have L4 := T.2.1
  have hin := (MSet_in h).1
  have hin2 : inF (hI M' 139) p1 = nI 32 := by
    rw [hin]
    show (if 31 ≤ hI M0 139 p then hI M0 139 p else _) = _
    rw [h32, if_pos (by decide)]
  obtain ⟨⟨c', P'⟩, h2, ok, fr, pn, ar, pb⟩ := h
  have F' := MF_pFr F fr
  have T' := TR_pFr T fr
  have hcp := P'.2.2.2.2.2.2.2.2.1
  have hs1 := P'.1.2.2.2.2
  refine WL_3 F' P'.2.1 ?_
  rw [bs_head F' T' P'.1, ex]
  show Wp none d 207 97 [(0, .ref 126), (1, .int ts), (2, .int (-1))] [] M' (WR d ts Q)
  rw [k207_97, m207_98 F', inner_ok F' P'.2.2.2.2.2.1 (by omega), hin2]
  simp only [oN]
  rw [k207_101, k207_105, if_neg (fun z => z rfl), k207_108, m207_112 F', show (93 : Int32) = nI 93 from rfl, mS F' T' P'.1 (by omega)]
  simp only [oM]
  rw [m207_115 F']
  by_cases z : sg b L s1 93
  · rw [bz_t z]
    refine must_y F' T' P'.1 P'.2.1 (by decide) ?_
    intro M2 t2 K2
    have F2 := MF_agr F' t2.1
    have hnx := nx_gt (b := b) z.1
    simp only [oZ]
    rw [m207_118 F2, t2.2.1 19 (by decide) (by decide) (by decide), P'.2.1, k207_122, if_neg (by decide), k207_125, m207_127 F2, show (5 : Int32) = nI 5 from rfl]
    obtain ⟨M3, t3, te, st⟩ := pn M2 t2
    refine st 5 d _ (by omega) ?_
    have ok3 := MOk_tk ok t3 (NTk_tokE K2 te) (Nat.le_of_lt hnx)
    have F3 := MF_pFr F ok3.1
    have P3 := ok3.2.1
    have tb3 : Tb M3 (p + 1) 5 := Or.inr ⟨32, by omega, by omega, by rw [(ok3.2.2.2.1 (p + 1 - 1) (by omega)).1]; exact h32, by decide⟩
    rw [settle_stop F3 P3.2.2.2.2.2.1 (by have := P3.2.2.2.2.2.2.2.2.1; have := P3.1.2.2.2.2; omega) (by omega) tb3]
    simp only [oZ]
    have F4 : MF (sI M3 126 29 (nI p)) := F3
    rw [m207_130 F3, P3.2.2.2.2.2.1, nI_pred, m207_140 F4, hI_sI_k (by decide), P3.2.2.2.1, nI_pred, k207_150]
    exact hY z M3 ok3
  · have F1 : MF (badM M' s1) := F'
    rw [bz_f z, must_n F' P'.1 P'.2.1]
    simp only [oZ]
    show Wp none d 207 118 [(0, .ref 126), (1, .int ts), (2, .int (-1)), (3, .int (nI 32))] [] (badM M' s1) (WR d ts Q)
    rw [m207_118 F1, badM_19, k207_122, if_pos (by decide), k207_150]
    exact hN z 3
/-- a part, as the reference reads it -/
theorem partR {b : Nat → Nat} {L : Nat} {o : Bool} {ts : Int32} : ∀ (g k : Nat), k + g = 8 → PartR b L o k d ts Q (pPart b L o g) := by
  intro g
  induction g with
  | zero =>
    intro k hk M s n c p F T W P H
    have L4 := T.2.1
    have hcp := P.2.2.2.2.2.2.2.2.1
    rw [k205_0, m205_3 F, show (91 : Int32) = nI 91 from rfl, mS F T P.1 (by omega)]
    simp only [oN]
    rw [k205_6, bzi]
    unfold pPart at H
    by_cases c1 : sg b L s 91
    · rw [if_pos c1] at H
      rw [if_neg (fun z => z c1), k205_9, m205_12 F, open_n F P (by omega) (by omega)]
      simp only [oZ]
      rw [k205_15]
      exact H (badM M s) 1 (badM_Bd P L4)
    · rw [if_neg c1] at H
      rw [if_pos c1]
      exact leafR F T W P H
  | succ g ih =>
    intro k hk M s n c p F T W P H
    have L4 := T.2.1
    have hcp := P.2.2.2.2.2.2.2.2.1
    have hsL := P.1.2.2.2.2
    rw [k205_0, m205_3 F, show (91 : Int32) = nI 91 from rfl, mS F T P.1 (by omega)]
    simp only [oN]
    rw [k205_6, bzi]
    unfold pPart at H
    by_cases c1 : sg b L s 91
    · rw [if_pos c1] at H
      have hnx := nx_gt (b := b) c1.1
      have S := sumR (termR (ih (k + 1) (by omega)))
      rw [if_neg (fun z => z c1), k205_9, m205_12 F, show (32 : Int32) = nI 32 from rfl]
      refine open_y F T P (by omega) (by have := c1.1; omega) ?_
      intro M1 t1 K1
      simp only [oZ]
      rw [k205_15]
      have fr := opnM_fr t1 k p 32
      have F2 := MF_pFr F fr
      have T2 := TR_pFr T fr
      show WL d ts Q 1 (opnM M1 k p 32)
      have h32 : hI (opnM M1 k p 32) 139 p = nI 32 := by rw [opnM_op, if_pos rfl]
      have P2 := PS_open (v := 32) P t1 K1 hnx (by omega)
      refine WL_1 F2 P2.2.1 ?_
      refine S _ (nx b L s) n c (p + 1) F2 T2 (MWd_pFr W fr) P2 (Or.inr ⟨32, by omega, by omega, by rw [Nat.add_sub_cancel]; exact h32, by decide⟩) ?_
      have H2 : PK M b L o s n k c p d ts Q (clos b L 93 (chainP b L (addF b L) (pTerm b L (pPart b L o g)) (nx b L s) n)) := H
      cases hp : chainP b L (addF b L) (pTerm b L (pPart b L o g)) (nx b L s) n with
      | inl q =>
        rw [hp] at H2
        intro M4 t bd
        exact H2 M4 t (Bd_pre fr bd)
      | inr x =>
        obtain ⟨s1, n1, D⟩ := x
        rw [hp] at H2
        have H2 : PK M b L o s n k c p d ts Q (if sg b L s1 93 then .inr (nx b L s1, n1, D) else .inl s1) := H2
        intro M' M5 p1 c5 hset ex
        refine bs_sq F2 T2 hset ex h32 ?_ ?_
        · intro z t
          rw [if_neg z] at H2
          obtain ⟨⟨c', P'⟩, _, _, fr', _⟩ := hset
          exact H2 _ t (Bd_pre (pFr_trans fr fr') (badM_Bd P' L4))
        · intro z M3 ok3
          rw [if_pos z] at H2
          exact H2 _ _ (MOk_close P t1 hnx ok3)
    · rw [if_neg c1] at H
      rw [if_pos c1]
      exact leafR F T W P H
