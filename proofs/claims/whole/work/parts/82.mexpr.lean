variable {d : Nat} {M : hp} {Q : Option Value → hp → Prop}
/-! an expression, as the reference reads it -/
def XP (M : hp) (b : Nat → Nat) (L : Nat) (o : Bool) (s n c : Nat) : Prop := NTk M b L s ∧ hI M 126 19 = 0 ∧ hI M 126 26 = nI n ∧ hI M 126 23 = nI c ∧ hI M 126 20 = bz (o = true) ∧ n ≤ 50 ∧ c ≤ s
/-- what waits on the pile behind a fault -/
theorem settle_bad {M0 : hp} {q : Nat} (F0 : MF M0) : ∀ (p c : Nat) (M : hp), pFr M0 M → hI M 126 19 = 1 → hI M 126 18 = nI q → hI M 126 23 = nI c → hI M 126 29 = nI p → c + p ≤ 400 → PV M p → (∀ M', pFr M0 M' → hI M' 126 19 = 1 → hI M' 126 18 = nI q → Q none M') → Wp none d 198 0 [(0, .ref 126), (1, .int (nI 1))] [] M Q := by
  intro p
  induction p with
  | zero =>
    intro c M fr h9 h8 hc hp1 hcp pv hQ
    rw [settle_stop (MF_pFr F0 fr) hp1 (by omega) (by omega) (Or.inl rfl)]
    exact hQ M fr h9 h8
  | succ p ih =>
    intro c M fr h9 h8 hc hp1 hcp pv hQ
    have F := MF_pFr F0 fr
    obtain ⟨⟨v, v1, v2, v3⟩, a, a1, a2⟩ := pv p (by omega)
    have pv2 : PV M p := fun j hj => pv j (by omega)
    by_cases cb : bnF v < 1
    · rw [settle_stop F hp1 (by omega) (by omega) (Or.inr ⟨v, v1, v2, by rw [Nat.add_sub_cancel]; exact v3, cb⟩)]
      exact hQ M fr h9 h8
    · by_cases cj : v = 29 ∨ v = 30
      · rw [settle_jmp F hp1 (by omega) (by omega) cj v3 (by omega) hc a2 a1]
        have ef : ∀ j, ¬ j = 29 → hI (popJ M c p a) 126 j = hI M 126 j := fun j h1 => by unfold popJ; rw [hI_sI_a (by decide), hI_sI_k h1]
        refine ih c _ (pFr_trans fr (pFr_a (pFr_f (pFr_refl M) (by decide)) (Or.inr (Or.inl rfl)))) ((ef _ (by decide)).trans h9) ((ef _ (by decide)).trans h8) ((ef _ (by decide)).trans hc) ?_ (by omega) (PV_cong pv2 (fun j _ => ?_)) hQ
        · unfold popJ; rw [hI_sI_a (by decide), hI_sI_s]
        · unfold popJ; rw [hI_sI_a (by decide), hI_sI_a (by decide), hI_sI_a (by decide), hI_sI_a (by decide)]; exact ⟨rfl, rfl⟩
      · have hv : 20 ≤ v ∧ v ≤ 28 := by
          refine ⟨v1, ?_⟩
          rcases Nat.lt_or_ge 28 v with z | z
          · exfalso
            apply cb
            have : v = 31 ∨ v = 32 := by omega
            rcases this with rfl | rfl <;> decide
          · exact z
        rw [settle_pop F hp1 (by omega) (by omega) hv v3 (by omega) hc (by omega)]
        have ef : ∀ j, ¬ j = 23 → ¬ j = 29 → hI (popE M c p v) 126 j = hI M 126 j := fun j h1 h2 => by
          unfold popE
          rw [memit_f h1, hI_sI_k h2]
        have pp := memit_pile (sI M 126 29 (nI p)) c (nI v) 0
        refine ih (c + 1) _ (pFr_trans fr (pFr_trans (pFr_f (pFr_refl M) (by decide)) (memit_fr _ _ _ _))) ((ef _ (by decide) (by decide)).trans h9) ((ef _ (by decide) (by decide)).trans h8) ?_ ?_ (by omega) (PV_cong pv2 (fun j _ => ?_)) hQ
        · unfold popE; exact memit_23 _ _ _ _
        · unfold popE; rw [memit_f (by decide), hI_sI_s]
        · unfold popE; rw [pp.1, pp.2, hI_sI_a (by decide), hI_sI_a (by decide)]; exact ⟨rfl, rfl⟩
/-- what is left to do at the loop's end -/
def XQ (Q : Option Value → hp → Prop) (M0 : hp) (q : Nat) : Prop := ∀ M', pFr M0 M' → hI M' 126 19 = 1 → hI M' 126 18 = nI q → Q none M'
theorem WL_bad {M0 : hp} {ts t : Int32} {q : Nat} (F0 : MF M0) (h : Bd M0 M q) (hQ : XQ Q M0 q) : WL d ts Q t M := by
  obtain ⟨fr, h9, h8, c, p, hc, hp1, hcp, pv⟩ := h
  have F := MF_pFr F0 fr
  unfold WL
  rw [m209_20 F, h9, k209_24, if_pos (by decide), k209_76, m209_78 F, show (1 : Int32) = nI 1 from rfl]
  refine settle_bad F0 p c M fr h9 h8 hc hp1 hcp pv ?_
  intro M' e1 e2 e3
  simp only [oZ]
  rw [k209_81]
  exact hQ M' e1 e2 e3
def WX (d : Nat) (ts : Int32) (Q : Option Value → hp → Prop) : Option Value → hp → Prop := fun r M1 => Wp none d 209 81 [(0, .ref 126), (1, .int ts), (2, .int 4)] (r.toList ++ []) M1 Q
theorem WX_n {ts : Int32} : WX d ts Q none M = Q none M := by
  unfold WX
  simp only [oZ]
  rw [k209_81]
theorem WL_4 {ts : Int32} (F : MF M) (hb : hI M 126 19 = 0) (h : Wp none d 198 0 [(0, .ref 126), (1, .int (nI 1))] [] M (WX d ts Q)) : WL d ts Q 4 M := by
  unfold WL
  rw [m209_20 F, hb, k209_24, if_neg (by decide), k209_27, k209_29, if_pos rfl, k209_76, m209_78 F, show (1 : Int32) = nI 1 from rfl]
  exact h
def XRes (M0 : hp) (b : Nat → Nat) (L : Nat) (o : Bool) (c : Nat) (Q : Option Value → hp → Prop) (r : PR) : Prop := match r with
  | .inl q => XQ Q M0 q
  | .inr (s1, n1, D) => ∀ M' c1, pFr M0 M' → XP M' b L o s1 n1 c1 → (∀ j, j < c → hI M' 137 j = hI M0 137 j ∧ hI M' 138 j = hI M0 138 j) → SegR o (hI M' 137) (hI M' 138) c c1 D → Q none M'
theorem XP_of {b : Nat → Nat} {L s n k c p : Nat} {o : Bool} (P : PS M b L o s n k c p) : XP M b L o s n c := ⟨P.1, P.2.1, P.2.2.1, P.2.2.2.2.1, P.2.2.2.2.2.2.1, P.2.2.2.2.2.2.2.1, by have := P.2.2.2.2.2.2.2.2.1; omega⟩
theorem XQ_pre {M0 M1 : hp} {q : Nat} (h : pFr M0 M1) (H : XQ Q M0 q) : XQ Q M1 q := fun M' f e1 e2 => H M' (pFr_trans h f) e1 e2
/-- the pile is empty -/
theorem start_X {b : Nat → Nat} {L s n c : Nat} {o : Bool} (X : XP M b L o s n c) : PS (sI (sI M 126 29 0) 126 30 0) b L o s n 0 c 0 := by
  obtain ⟨a1, a2, a3, a4, a5, a6, a7⟩ := X
  have e : ∀ j, ¬ j = 29 → ¬ j = 30 → hI (sI (sI M 126 29 0) 126 30 0) 126 j = hI M 126 j := fun j h1 h2 => by rw [hI_sI_k h2, hI_sI_k h1]
  exact ⟨NTk_fr a1 (e _ (by decide) (by decide)) (e _ (by decide) (by decide)) (e _ (by decide) (by decide)) rfl, (e _ (by decide) (by decide)).trans a2, (e _ (by decide) (by decide)).trans a3, hI_sI_s _ _ _ _, (e _ (by decide) (by decide)).trans a4, (hI_sI_k (by decide)).trans (hI_sI_s _ _ _ _), (e _ (by decide) (by decide)).trans a5, a6, by omega, fun j hj => absurd hj (by omega)⟩
theorem expr_fin {M0 M1 M3 : hp} {b : Nat → Nat} {L s n c s1 n1 c1 : Nat} {o : Bool} {D : Den} (fr : pFr M0 M1) (e37 : hI M1 137 = hI M0 137) (e38 : hI M1 138 = hI M0 138) (ok : MOk M1 M3 b L o s n 0 c 0 s1 n1 c1 D) (H : XRes M0 b L o c Q (.inr (s1, n1, D))) : Q none M3 := by
  refine H M3 c1 (pFr_trans fr ok.1) (XP_of ok.2.1) (fun j hj => ?_) ok.2.2.2.2.1
  have := ok.2.2.1 j hj
  rw [this.1, this.2, e37, e38]
  exact ⟨rfl, rfl⟩
/-- a sum -/
theorem mSumX {b : Nat → Nat} {L s n c : Nat} {o : Bool} (F : MF M) (T : TR M b L) (W : MWd M) (X : XP M b L o s n c) (H : XRes M b L o c Q (sumP b L o s n)) : Wp none d 209 0 [(0, .ref 126), (1, .int 0)] [] M Q := by
  have L4 := T.2.1
  have F1 : MF (sI M 126 29 0) := F
  have P := start_X X
  have fr : pFr M (sI (sI M 126 29 0) 126 30 0) := pFr_f (pFr_f (pFr_refl M) (by decide)) (by decide)
  have e37 : hI (sI (sI M 126 29 0) 126 30 0) 137 = hI M 137 := by funext j; rw [hI_sI_a (by decide), hI_sI_a (by decide)]
  have e38 : hI (sI (sI M 126 29 0) 126 30 0) 138 = hI M 138 := by funext j; rw [hI_sI_a (by decide), hI_sI_a (by decide)]
  rw [m209_0 F, m209_5 F1, k209_10, k209_11, if_pos rfl, k209_18, k209_19]
  generalize sI (sI M 126 29 0) 126 30 0 = M1 at *
  have F2 := MF_pFr F fr
  have T2 := TR_pFr T fr
  show WL d 0 Q 1 M1
  refine WL_1 F2 P.2.1 ?_
  refine sumR (termR (partR 8 0 (by omega))) M1 s n c 0 F2 T2 (MWd_pFr W fr) P (Or.inl rfl) ?_
  have H2 : XRes M b L o c Q (chainP b L (addF b L) (pTerm b L (pPart b L o 8)) s n) := H
  cases hp : chainP b L (addF b L) (pTerm b L (pPart b L o 8)) s n with
  | inl q =>
    rw [hp] at H2
    intro M' t bd
    exact WL_bad F2 bd (XQ_pre fr H2)
  | inr x =>
    obtain ⟨s1, n1, D⟩ := x
    rw [hp] at H2
    intro M' M3 p1 c1 hset ex
    have hin := (MSet_in hset).1
    obtain ⟨⟨c', P'⟩, h2, ok, fr', pn, ar, pb⟩ := hset
    have F' := MF_pFr F2 fr'
    have T' := TR_pFr T2 fr'
    have hcp := P'.2.2.2.2.2.2.2.2.1
    have hs1 := P'.1.2.2.2.2
    refine WL_3 F' P'.2.1 ?_
    rw [bs_head F' T' P'.1, ex]
    show Wp none d 207 97 [(0, .ref 126), (1, .int 0), (2, .int (-1))] [] M' (WR d 0 Q)
    rw [k207_97, m207_98 F', inner_ok F' P'.2.2.2.2.2.1 (by omega), hin]
    simp only [oN]
    rw [k207_101, k207_105, if_pos (show ¬ inF (hI M1 139) 0 = 32 by show ¬ (-1 : Int32) = 32; decide), k207_152, k207_154, if_neg (fun z => z rfl), k207_157, k207_158, if_neg (fun z => z rfl), k207_161]
    show WL d 0 Q 4 M'
    refine WL_4 F' P'.2.1 ?_
    obtain ⟨M4, t4, te, st⟩ := pn M' (tkS_refl M')
    refine st 1 d _ (by omega) ?_
    have ok4 := MOk_tk ok t4 (NTk_tokE P'.1 te) (Nat.le_refl s1)
    rw [settle_stop (MF_pFr F2 ok4.1) ok4.2.1.2.2.2.2.2.1 (by omega) (by omega) (Or.inl rfl), WX_n]
    exact expr_fin fr e37 e38 ok4 H2
/-- a test -/
theorem mTestX {b : Nat → Nat} {L s n c : Nat} {o : Bool} (F : MF M) (T : TR M b L) (W : MWd M) (X : XP M b L o s n c) (H : XRes M b L o c Q (testP b L o s n)) : Wp none d 209 0 [(0, .ref 126), (1, .int 1)] [] M Q := by
  have L4 := T.2.1
  have F1 : MF (sI M 126 29 0) := F
  have P := start_X X
  have fr : pFr M (sI (sI M 126 29 0) 126 30 0) := pFr_f (pFr_f (pFr_refl M) (by decide)) (by decide)
  have e37 : hI (sI (sI M 126 29 0) 126 30 0) 137 = hI M 137 := by funext j; rw [hI_sI_a (by decide), hI_sI_a (by decide)]
  have e38 : hI (sI (sI M 126 29 0) 126 30 0) 138 = hI M 138 := by funext j; rw [hI_sI_a (by decide), hI_sI_a (by decide)]
  rw [m209_0 F, m209_5 F1, k209_10, k209_11, if_neg (by decide), k209_14, k209_19]
  generalize sI (sI M 126 29 0) 126 30 0 = M1 at *
  have F2 := MF_pFr F fr
  have T2 := TR_pFr T fr
  show WL d 1 Q 0 M1
  refine WL_0 F2 P.2.1 ?_
  refine testR (bothR (plainR 8 0 (by omega))) M1 s n c 0 F2 T2 (MWd_pFr W fr) P (Or.inl rfl) (by show ¬ (-1 : Int32) = nI 32; decide) ?_
  have H2 : XRes M b L o c Q (chainP b L (orF b L) (chainP b L (andF b L) (pPlain b L o 8)) s n) := H
  cases hp : chainP b L (orF b L) (chainP b L (andF b L) (pPlain b L o 8)) s n with
  | inl q =>
    rw [hp] at H2
    intro M' t bd
    exact WL_bad F2 bd (XQ_pre fr H2)
  | inr x =>
    obtain ⟨s1, n1, D⟩ := x
    rw [hp] at H2
    intro M' M3 p1 c1 hset ex
    obtain ⟨⟨c', P'⟩, h2, ok, fr', pn, hin, hbd⟩ := hset
    have F' := MF_pFr F2 fr'
    have T' := TR_pFr T2 fr'
    have hcp := P'.2.2.2.2.2.2.2.2.1
    have hs1 := P'.1.2.2.2.2
    refine WL_2 F' P'.2.1 ?_
    rw [bt_head F' P'.1, if_neg ex.1.2, if_neg ex.2, k208_76, m208_77 F', inner_ok F' P'.2.2.2.2.2.1 (by omega), hin]
    simp only [oN]
    rw [k208_80, k208_81, if_neg (show ¬ ¬ inF (hI M1 139) 0 = -1 from fun z => z rfl), k208_84]
    show WL d 1 Q 4 M'
    refine WL_4 F' P'.2.1 ?_
    obtain ⟨M4, t4, te, st⟩ := pn M' (tkS_refl M')
    refine st 1 d _ (by omega) ?_
    have ok4 := MOk_tk ok t4 (NTk_tokE P'.1 te) (Nat.le_refl s1)
    rw [settle_stop (MF_pFr F2 ok4.1) ok4.2.1.2.2.2.2.2.1 (by omega) (by omega) (Or.inl rfl), WX_n]
    exact expr_fin fr e37 e38 ok4 H2
