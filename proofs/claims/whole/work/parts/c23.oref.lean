variable {d : Nat} {M : hp} {Q : Option Value → hp → Prop}
/-! orders of the reference: a clause, once -/
def OEnvH (M : hp) (n0 : Nat) (e : Nat → Int32) : Prop := hI M 126 20 = 0 ∧ (∀ k, k < 4 → hL M 145 (k + 1) = (e k).toInt64) ∧ hI M 128 0 = nI n0 ∧ n0 ≤ 7 ∧ ∀ j, j < 7 → (j < n0 → hI M 128 (7 + j) = e (4 + j) ∧ mny (hI M 128 (14 + j)) = e (11 + j)) ∧ (¬ j < n0 → e (4 + j) = -1 ∧ e (11 + j) = -1)
def ES (M M' : hp) : Prop := agr [126, 146] M M' ∧ ∀ k, ¬ k = 38 → ¬ k = 50 → hI M' 126 k = hI M 126 k
theorem ES_trans {M M1 M2 : hp} (h : ES M M1) (h2 : ES M1 M2) : ES M M2 := ⟨agr_trans h.1 h2.1, fun k q q2 => (h2.2 k q q2).trans (h.2 k q q2)⟩
theorem ES_refl (M : hp) : ES M M := ⟨agr_refl _ _, fun _ _ _ => rfl⟩
theorem OEnvH_ES {M1 : hp} {n0 : Nat} {e : Nat → Int32} (h : OEnvH M n0 e) (b : ES M M1) : OEnvH M1 n0 e := by
  obtain ⟨h1, h2, h3, h4, h5⟩ := h
  have e128 : hI M1 128 = hI M 128 := agr_I b.1 (by decide)
  refine ⟨(b.2 20 (by decide) (by decide)).trans h1, fun k hk => by rw [agr_L b.1 (by decide)]; exact h2 k hk, by rw [e128]; exact h3, h4, ?_⟩
  rw [e128]
  exact h5
theorem mReckT {f g n0 : Nat} {e : Nat → Int32} {D : Den} (F : MF M) (E : OEnvH M n0 e) (hg : g ≤ 400) (seg : SegR true (hI M 137) (hI M 138) f g D) (H : match D e with
    | none => ∀ M', EA (sI M 126 20 1) M' → hI M' 126 38 = 1 → Q none M'
    | some v => ∀ M', EA (sI M 126 20 1) M' → hI M' 126 38 = 0 → hL M' 126 39 = v → Q none M') : Wp none d 217 0 [(0, .ref 126), (1, .int (nI f)), (2, .int (nI g))] [] (sI M 126 20 1) Q := by
  have hf := seg.1
  obtain ⟨E1, E2, E3, E4, E5⟩ := E
  have F1 : MF (sI M 126 20 1) := F
  have ea : ∀ a, ¬ a = 126 → hI (sI M 126 20 1) a = hI M a := fun a q => by funext j; exact hI_sI_a q
  rw [m217_0 F1, k217_5, show (0 : Int32) = nI 0 from rfl]
  refine reck_loopT (M0 := sI M 126 20 1) (Op := hI M 137) (Arg := hI M 138) (e := e) (n0 := n0) F1 (hI_sI_s _ _ _ _) (fun i _ => ⟨by rw [ea 137 (by decide)], by rw [ea 138 (by decide)]⟩) E2 (by rw [ea 128 (by decide)]; exact E3) E4 (by rw [ea 128 (by decide)]; exact E5) hg g f 0 0 _ (by omega) (by omega) (by omega) (by omega) EA_38 (hI_sI_s _ _ _ _) ?_
  have q := seg.2 e (0, 0, hL (sI (sI M 126 20 1) 126 38 (nI 0)) 146) (Nat.zero_le _)
  cases eD : D e with
  | none =>
    rw [eD] at q H
    rw [show rst true (hI M 137) (hI M 138) e (g - f) f (0, 0, hL (sI (sI M 126 20 1) 126 38 (nI 0)) 146) = none from q]
    exact H
  | some v =>
    rw [eD] at q H
    obtain ⟨go, s, q1, q2, q3, q4⟩ := q
    rw [q1]
    exact ⟨Nat.le_refl 1, fun M' a h1 h2 => H M' a h1 (h2.trans q4)⟩
theorem v96' {j : Nat} (h : j < 96) : vin (nI j) 96 = true := by
  rw [vin_n (by omega)]
  exact decide_eq_true h
theorem mSum_off {x : Int32} (F : MF M) (h : hI M 126 50 = 1) : Wp none d 259 0 [(0, .ref 126), (1, .int x)] [] M Q = Q (some (.int (-1))) M := by
  rw [m259_0 F, h, k259_4, if_pos (by decide), k259_24]
/-- the sum of a clause that has one, or none -/
def SumS (M : hp) (t len : Nat) (D : Den) : Prop := (hI M 152 t = hI M 152 (t + 1) ∧ D = oneD) ∨ mSegO M t len D
theorem mSum {t len n0 : Nat} {e : Nat → Int32} {D : Den} (F : MF M) (h0 : hI M 126 50 = 0) (E : OEnvH M n0 e) (hlen : len ≤ 400) (ht : t + 1 < 96) (S : SumS M t len D) (H : match D e with
    | none => ∀ M' w, ES M M' → hI M' 126 50 = 1 → Q (some (.int w)) M'
    | some v => ∀ M' w, ES M M' → hI M' 126 50 = 0 → (¬ hI M 152 t = hI M 152 (t + 1) → w = v.toInt32) → Q (some (.int w)) M') : Wp none d 259 0 [(0, .ref 126), (1, .int (nI t))] [] M Q := by
  have e1 : nI t + 1 = nI (t + 1) := nI_1 t
  rw [m259_0 F, h0, k259_4, if_neg (fun z => z rfl), m259_7 F (v96' (by omega)) (by rw [e1]; exact v96' (by omega)), e1, n_cl (by omega), n_cl (by omega), k259_21]
  by_cases c : hI M 152 t = hI M 152 (t + 1)
  · rw [if_neg (fun z => z c), k259_24]
    have h1 : ∃ v, D e = some v ∨ D e = none := by
      cases D e with
      | none => exact ⟨0, Or.inr rfl⟩
      | some v => exact ⟨v, Or.inl rfl⟩
    rcases S with ⟨_, rfl⟩ | ⟨f, g, s1, s2, s3, s4⟩
    · exact H M (-1) (ES_refl M) h0 (fun z => absurd c z)
    · exfalso
      rw [s1, s2] at c
      have hf := s4.1
      rw [n_eq (by omega) (by omega)] at c
      omega
  · rw [if_pos c]
    rcases S with ⟨z, _⟩ | ⟨f, g, s1, s2, s3, s4⟩
    · exact absurd z c
    · have F1 : MF (sI M 126 20 1) := F
      have hf := s4.1
      rw [m259_26 F, m259_31 F1 (v96' (by omega)) (by rw [e1]; exact v96' (by omega)), e1, n_cl (by omega), n_cl (by omega), hI_sI_a (by decide), hI_sI_a (by decide), s1, s2, m259_46 F1]
      refine mReckT F E (by omega) s4 ?_
      have go : ∀ {M' : hp} {w : Int32}, EA (sI M 126 20 1) M' → hI M' 126 38 = w → (w = 0 ∨ w = 1) → (∀ M2, ES M M2 → hI M2 126 50 = w → hL M2 126 39 = hL M' 126 39 → Q (some (.int ((hL M' 126 39).toInt32))) M2) → Wp none d 259 49 [(0, .ref 126), (1, .int (nI t))] [] M' Q := by
        intro M' w a h38 hw K
        have Fa : MF M' := MF_agr F1 a.1
        have Fb : MF (sI M' 126 20 0) := Fa
        have Fc : MF (sI (sI M' 126 20 0) 126 50 w) := Fa
        rw [m259_49 Fa, m259_54 Fb (by rw [hI_sI_k (by decide), h38]; exact hw), hI_sI_k (by decide), h38, m259_62 Fc]
        refine K _ ⟨agr_trans (agr_sI (by decide)) (agr_trans a.1 (agr_trans (agr_sI (by decide)) (agr_sI (by decide)))), fun k q1 q2 => ?_⟩ (hI_sI_s _ _ _ _) rfl
        by_cases c20 : k = 20
        · rw [c20, hI_sI_k (by decide), hI_sI_s]; exact E.1.symm
        · rw [hI_sI_k q2, hI_sI_k c20, a.2.1 k q1, hI_sI_k c20]
      cases hD : D e with
      | none =>
        rw [hD] at H
        intro M' a h38
        simp only [oZ]
        exact go a h38 (Or.inr rfl) (fun M2 b h50 _ => H M2 _ b h50)
      | some v =>
        rw [hD] at H
        intro M' a h38 h39
        simp only [oZ]
        refine go a h38 (Or.inl rfl) (fun M2 b h50 _ => ?_)
        exact H M2 _ b h50 (fun _ => by rw [h39])
def RO : List Nat := 145 :: RAE
def RfO (M0 M : hp) (n : Nat) (D T : Nat → Int32) (rn lk : Int32) (L : Law) (s : OSt) : Prop := RP M n D T s.1.1 s.1.2.1 s.1.2.2.1 rn L ∧ hI M 128 5 = lk ∧ RfU M lk rn s.1.2.2.2 ∧ hI M 126 47 = s.2.1 ∧ hI M 126 48 = s.2.2 ∧ agr RO M0 M ∧ (∀ k, ¬ k = 8 → ¬ k = 34 → ¬ k = 38 → ¬ k = 47 → ¬ k = 48 → ¬ k = 50 → hI M 126 k = hI M0 126 k) ∧ (∀ l, ¬ l = 4 → ¬ (7 ≤ l ∧ l < 21) → hI M 128 l = hI M0 128 l) ∧ ∀ l, 289 ≤ l → hI M 131 l = hI M0 131 l
theorem RfO_fr {M0 M' : hp} {n : Nat} {D T : Nat → Int32} {rn lk : Int32} {L : Law} {s : OSt} (A : RfO M0 M n D T rn lk L s) (a : agr [126, 145, 146] M M') (e : ∀ k, ¬ k = 38 → ¬ k = 50 → hI M' 126 k = hI M 126 k) : RfO M0 M' n D T rn lk L s := by
  obtain ⟨Y, h5, U, d1, d2, b, e1, e2, e3⟩ := A
  have e128 : hI M' 128 = hI M 128 := agr_I a (by decide)
  have e131 : hI M' 131 = hI M 131 := agr_I a (by decide)
  exact ⟨RP_of Y (MF_agr Y.F a) e128 ((e 20 (by decide) (by decide)).trans Y.o20) ((e 0 (by decide) (by decide)).trans Y.o0), by rw [e128]; exact h5, RfU_fr U (e 8 (by decide) (by decide)) (fun l _ => by rw [e131]) (agr_I a (by decide)), (e 47 (by decide) (by decide)).trans d1, (e 48 (by decide) (by decide)).trans d2, agr_trans b (agr_mono a (by intro x q; simp [RO, RAE] at q ⊢; omega)), fun k q1 q2 q3 q4 q5 q6 => (e k q3 q6).trans (e1 k q1 q2 q3 q4 q5 q6), fun l q1 q2 => by rw [e128]; exact e2 l q1 q2, fun l q => by rw [e131]; exact e3 l q⟩
theorem RfO_ES {M0 M' : hp} {n : Nat} {D T : Nat → Int32} {rn lk : Int32} {L : Law} {s : OSt} (A : RfO M0 M n D T rn lk L s) (b : ES M M') : RfO M0 M' n D T rn lk L s := RfO_fr A (agr_mono b.1 (by intro x q; simp at q ⊢; omega)) b.2
theorem mActO {M0 : hp} {n k : Nat} {D T : Nat → Int32} {rn lk : Int32} {L : Law} {one two : Int32} {s : ASt} (A : RfA M0 M n D T rn lk L s) (W : WFa n s) (hk : k < 4) (H1 : ¬ whyA n (nI k) (if k = 2 then two else one) (if k = 2 then one else two) s = 0 → Q (some (.int (whyA n (nI k) (if k = 2 then two else one) (if k = 2 then one else two) s))) M) (H0 : whyA n (nI k) (if k = 2 then two else one) (if k = 2 then one else two) s = 0 → ∀ M', RfA M0 M' n D T rn lk L (doA n D T rn L (nI k) (if k = 2 then two else one) (if k = 2 then one else two) s).2 → Q (some (.int (doA n D T rn L (nI k) (if k = 2 then two else one) (if k = 2 then one else two) s).1)) M') : Wp none d 260 0 [(0, .ref 126), (1, .int (nI k)), (2, .int one), (3, .int two)] [] M Q := by
  have F := A.1.F
  have hk4 : k = 0 ∨ k = 1 ∨ k = 2 ∨ k = 3 := by omega
  rw [k260_0, k260_1]
  rcases hk4 with rfl | rfl | rfl | rfl
  · rw [if_pos (show nI 0 = 0 from rfl), k260_28, m260_31 F]
    refine mHangNow A W (fun c => ?_) (fun c M' A' => ?_)
    · simp only [oN]; rw [k260_34]; exact H1 c
    · simp only [oN]; rw [k260_34]; exact H0 c M' A'
  · rw [if_neg (by decide), if_pos (show nI 1 = 1 from rfl), k260_35, m260_37 F]
    refine mTakeNow (num := two) A W (fun c => ?_) (fun c M' A' => ?_)
    · simp only [oN]; rw [k260_40]; exact H1 c
    · simp only [oN]; rw [k260_40]; exact H0 c M' A'
  · rw [if_neg (by decide), if_neg (by decide), if_pos (show nI 2 = 2 from rfl), k260_41, m260_44 F]
    refine mThinkNow A W (fun c => ?_) (fun c M' A' => ?_)
    · simp only [oN]; rw [k260_47]; exact H1 c
    · simp only [oN]; rw [k260_47]; exact H0 c M' A'
  · rw [if_neg (by decide), if_neg (by decide), if_neg (by decide), k260_48, m260_49 F]
    refine mPassNow (hat := one) (num := two) A W (fun c => ?_) (fun c M' A' => ?_)
    · simp only [oN]; rw [k260_52]; exact H1 c
    · simp only [oN]; rw [k260_52]; exact H0 c M' A'
/-- what an act doesn't look at -/
theorem ordA_1 {n : Nat} {D T : Nat → Int32} {rn : Int32} {L : Law} {hat num num' : Int32} {s : OSt} : ordA n D T rn L 1 hat num s = ordA n D T rn L 1 hat num' s := by
  have e : ∀ z, whyA n (nI 1) hat z s.1 = if ¬ hatOk n hat then -2 else if ¬ s.1.1 hat.toNatClampNeg = -1 then 0 else -3 := by
    intro z
    unfold whyA canA
    rw [if_neg (show ¬ nI 1 = 3 by decide), if_neg (fun b => b.elim (fun y => absurd y.1 (by decide)) (fun y => absurd y.1 (by decide)))]
    simp only [if_neg (show ¬ nI 1 = 0 by decide), if_pos (show nI 1 = 1 from rfl)]
  have d : ∀ z, doA n D T rn L (nI 1) hat z s.1 = (s.1.1 hat.toNatClampNeg, (updI s.1.1 hat.toNatClampNeg (-1), s.1.2.1, s.1.2.2.1, pushU (s.1.1, s.1.2.1, s.1.2.2.1, nI 1) s.1.2.2.2)) := by
    intro z
    unfold doA
    rw [if_neg (show ¬ nI 1 = 0 by decide), if_pos (show nI 1 = 1 from rfl)]
  unfold ordA
  rw [e num, e num', d num, d num']
theorem ordA_3 {n : Nat} {D T : Nat → Int32} {rn : Int32} {L : Law} {hat num hat' num' : Int32} {s : OSt} : ordA n D T rn L 3 hat num s = ordA n D T rn L 3 hat' num' s := by
  have e : ∀ y z, whyA n (nI 3) y z s.1 = if s.1.2.2.1 < 999 then 0 else -3 := by
    intro y z
    unfold whyA
    rw [if_pos (show nI 3 = 3 from rfl)]
  have d : ∀ y z, doA n D T rn L (nI 3) y z s.1 = (lrnF (hourG L D T s.1.1 n rn (s.1.2.1, s.1.2.2.1)) n, (s.1.1, (stepG L D T s.1.1 n rn (s.1.2.1, s.1.2.2.1)).1, (stepG L D T s.1.1 n rn (s.1.2.1, s.1.2.2.1)).2, pushU (s.1.1, s.1.2.1, s.1.2.2.1, nI 3) s.1.2.2.2)) := by
    intro y z
    unfold doA
    rw [if_neg (show ¬ nI 3 = 0 by decide), if_neg (show ¬ nI 3 = 1 by decide), if_neg (show ¬ nI 3 = 2 by decide)]
  unfold ordA
  rw [e hat num, e hat' num', d hat num, d hat' num']
theorem mRunA {M0 : hp} {n k i : Nat} {D T : Nat → Int32} {rn lk : Int32} {L : Law} {one two : Int32} {s : OSt} (A : RfO M0 M n D T rn lk L s) (W : WFa n s.1) (hn : n ≤ 7) (hk : k < 4) (hi : i < 12) (hr : hI M 152 (8 * i) = nI k) (H1 : ∀ s', ordA n D T rn L k (if k = 2 then two else one) (if k = 2 then one else two) s = some s' → ∀ M', RfO M0 M' n D T rn lk L s' → Q (some (.int 0)) M') (H0 : ordA n D T rn L k (if k = 2 then two else one) (if k = 2 then one else two) s = none → ∀ M', RfO M0 M' n D T rn lk L s → Q (some (.int (-3))) M') : Wp none d 261 121 [(0, .ref 126), (1, .int (nI (8 * i))), (2, .int one), (3, .int two)] [] M Q := by
  have A0 := A
  obtain ⟨Y, h5, U, d1, d2, b, e1, e2, e3⟩ := A
  have F := Y.F
  generalize hat' : (if k = 2 then two else one) = hat at *
  generalize num' : (if k = 2 then one else two) = num at *
  rw [m261_121 F (v96' (by omega)), n_cl (by omega), hr, m261_130 F]
  refine mActO (st0_Rf Y h5 U) W hk (fun c => ?_) (fun c M1 A1 => ?_)
  · rw [hat', num'] at c ⊢
    obtain ⟨v, v1, v2⟩ := why_neg c
    simp only [oN]
    rw [k261_133, k261_137, v2, if_neg (neg_n v1), k261_140]
    refine H0 ?_ M A0
    unfold ordA
    rw [if_neg c]
  · rw [hat', num'] at c A1 ⊢
    obtain ⟨Y1, g5, U1, b1, f1, f2, f3, f4⟩ := A1
    have F1 := Y1.F
    simp only [oN]
    rw [k261_133, k261_137, if_pos (do_nn hn hk W c), m261_143 F1 (v96' (by omega)), n_cl (by omega), agr_I b1 (a := 152) (by decide), hr, k261_151]
    have fin : ∀ z : Int32, z = (if k = 3 then (doA n D T rn L (nI k) hat num s.1).1 else s.2.2) → Wp none d 261 163 [(0, .ref 126), (1, .int (nI (8 * i))), (2, .int one), (3, .int two), (4, .int (doA n D T rn L (nI k) hat num s.1).1)] [.int z, .ref 126] M1 Q := by
      intro z hz
      have F2 : MF (sI M1 126 48 z) := F1
      rw [m261_163 F1, m261_166 F2, k261_176, hI_sI_k (by decide), f1 47 (by decide) (by decide) (by decide), d1]
      have q6 : ∀ j, ¬ j = 47 → ¬ j = 48 → hI (sI (sI M1 126 48 z) 126 47 (s.2.1 + 1)) 126 j = hI M1 126 j := fun j p1 p2 => by rw [hI_sI_k p1, hI_sI_k p2]
      have qa : agr [126] M1 (sI (sI M1 126 48 z) 126 47 (s.2.1 + 1)) := agr_trans (agr_sI (by decide)) (agr_sI (by decide))
      have q128 : hI (sI (sI M1 126 48 z) 126 47 (s.2.1 + 1)) 128 = hI M1 128 := agr_I qa (by decide)
      have q131 : hI (sI (sI M1 126 48 z) 126 47 (s.2.1 + 1)) 131 = hI M1 131 := agr_I qa (by decide)
      refine H1 ((doA n D T rn L (nI k) hat num s.1).2, s.2.1 + 1, if k = 3 then (doA n D T rn L (nI k) hat num s.1).1 else s.2.2) (by unfold ordA; rw [if_pos c]) _ ⟨RP_of Y1 F1 q128 ((q6 20 (by decide) (by decide)).trans Y1.o20) ((q6 0 (by decide) (by decide)).trans Y1.o0), by rw [q128]; exact g5, RfU_fr U1 (q6 8 (by decide) (by decide)) (fun l _ => by rw [q131]) (agr_I qa (by decide)), hI_sI_s _ _ _ _, ?_, agr_trans b (agr_trans (agr_mono b1 (by intro x q; simp [RO, RAE] at q ⊢; omega)) (agr_mono qa (by intro x q; simp [RO, RAE] at q ⊢; omega))), fun j p1 p2 p3 p4 p5 p6 => ?_, fun l p1 p2 => ?_, fun l p => ?_⟩
      · rw [hI_sI_k (by decide), hI_sI_s]; exact hz
      · rw [q6 j p4 p5, f1 j p1 p2 p3]; exact e1 j p1 p2 p3 p4 p5 p6
      · rw [q128, f3 l p1 p2]; exact e2 l p1 p2
      · rw [q131, f4 l p]; exact e3 l p
    by_cases c3 : k = 3
    · rw [if_neg (fun z => z (by rw [c3]; rfl)), k261_154]
      exact fin _ (by rw [if_pos c3])
    · rw [if_pos (by rw [show (3 : Int32) = nI 3 from rfl, n_eq (by omega) (by omega)]; exact c3), m261_159 F1, f1 48 (by decide) (by decide) (by decide), d2]
      exact fin _ (by rw [if_neg c3])
