variable {d : Nat} {M : hp} {Q : Option Value → hp → Prop}
/-! the loops of law() and orders() -/
theorem law_text {b : Nat → Nat} {L : Nat} (F : MF M) (T : TR M b L) (W : MWd M) (H : MRes 136 mClsR M (fun M' => Wp none d 213 68 [(0, .ref 126)] [] M' Q) (lawP b L)) : Wp none d 213 28 [(0, .ref 126)] [] M Q := by
  have ha : cla 136 := Or.inl rfl
  rw [k213_28, m213_30 F, show (0 : Int32) = bz (false = true) from rfl]
  refine mBegin_ok F T ?_
  intro M1 a1 f1 l1 T1 X1 e21 e18
  have F1 := MF_agr F a1
  have W1 : MWd M1 := MWd_of W (agr_L a1 (by decide)) (agr_L a1 (by decide)) (agr_L a1 (by decide)) (agr_L a1 (by decide))
  simp only [oZ]
  rw [k213_33, m213_34 F1]
  have key := text_loop (M0 := M1) (o := false) (Cr := mClsR) (cl := ruleP b L) (W := fun M' => Wp none d 213 37 [(0, .ref 126)] [] M' Q) (X := fun M' => Wp none d 213 64 [(0, .ref 126)] [] M' Q) (E := fun M' => Wp none d 213 68 [(0, .ref 126)] [] M' Q) (G := fun M' => ∀ Q', (∀ M2, Wp none d 213 37 [(0, .ref 126)] [] M2 Q → Q' none M2) → Wp none d 212 0 [(0, .ref 126)] [] M' Q') ha F1 T1 W1 e18
    (fun M M' i j c c1 x h k hj hc => mClsR_keep h k hj hc)
    (fun M c j x h => mClsR_eq h (agr_I (fin_agr M) (by decide)) (agr_I (fin_agr M) (by decide)) (agr_I (fin_agr M) (by decide)))
    (fun M F hb h => by
      rw [m213_37 F, hb, k213_41, if_pos (by decide)]
      exact h)
    (fun M s F T K hb hs h => by
      rw [m213_37 F, hb, k213_41, if_neg (by decide), k213_44, m213_47 F, show (59 : Int32) = nI 59 from rfl, mIsSign F T K (by decide) (by decide) (by decide)]
      simp only [oN]
      rw [k213_50, bzi, if_pos hs]
      exact h)
    (fun M s F T K hb hs h => by
      rw [m213_37 F, hb, k213_41, if_neg (by decide), k213_44, m213_47 F, show (59 : Int32) = nI 59 from rfl, mIsSign F T K (by decide) (by decide) (by decide)]
      simp only [oN]
      rw [k213_50, bzi, if_neg (fun z => z hs), k213_53, m213_54 F]
      refine next_ok F T K.2.1 (tkE_le K.2.2.2.2) ?_
      intro M1 t1 K1
      simp only [oZ]
      rw [k213_57, m213_58 (MF_agr F t1.1)]
      refine h M1 t1 K1 _ ?_
      intro M2 hw
      simp only [oZ]
      rw [k213_61]
      exact hw)
    (fun M i s n c F T W X e hi h Q' hq => mRule_ok F T W X e hi (LRs_Q hq h))
    (fun M s n c F W X e h Q' hq => by
      rw [law_13 F W X e (Or.inl rfl)]
      exact hq _ h)
    (fun M F hb h => by
      rw [k213_64, m213_65 F, mEnd_bad F hb]
      simp only [oZ]
      exact h)
    (fun M s F K hb h => by
      rw [k213_64, m213_65 F, mEnd_ok F K hb]
      simp only [oZ]
      exact h)
  refine key 12 0 (scn b L isB 0) 0 0 (fun _ => (0, oneD, oneD)) M1 (by omega) (LF_refl _ _ _ _) X1 e21 (fun j hj => absurd hj (by omega)) (MRes_pre a1 f1 l1 H) _ ?_
  intro M2 hw
  simp only [oZ]
  exact hw
theorem ord_text {b : Nat → Nat} {L : Nat} (F : MF M) (T : TR M b L) (W : MWd M) (H : MRes 152 mOrdR M (fun M' => Wp none d 262 50 [(0, .ref 126)] [] M' Q) (ordP b L)) : Wp none d 262 10 [(0, .ref 126)] [] M Q := by
  have ha : cla 152 := Or.inr rfl
  rw [k262_10, m262_12 F, show (1 : Int32) = bz (true = true) from rfl]
  refine mBegin_ok F T ?_
  intro M1 a1 f1 l1 T1 X1 e21 e18
  have F1 := MF_agr F a1
  have W1 : MWd M1 := MWd_of W (agr_L a1 (by decide)) (agr_L a1 (by decide)) (agr_L a1 (by decide)) (agr_L a1 (by decide))
  simp only [oZ]
  rw [k262_15, m262_16 F1]
  have key := text_loop (M0 := M1) (o := true) (Cr := mOrdR) (cl := orderP b L) (W := fun M' => Wp none d 262 19 [(0, .ref 126)] [] M' Q) (X := fun M' => Wp none d 262 46 [(0, .ref 126)] [] M' Q) (E := fun M' => Wp none d 262 50 [(0, .ref 126)] [] M' Q) (G := fun M' => ∀ Q', (∀ M2, Wp none d 262 19 [(0, .ref 126)] [] M2 Q → Q' none M2) → Wp none d 258 0 [(0, .ref 126)] [] M' Q') ha F1 T1 W1 e18
    (fun M M' i j c c1 x h k hj hc => mOrdR_keep h k hj hc)
    (fun M c j x h => mOrdR_eq h (agr_I (fin_agr M) (by decide)) (agr_I (fin_agr M) (by decide)) (agr_I (fin_agr M) (by decide)))
    (fun M F hb h => by
      rw [m262_19 F, hb, k262_23, if_pos (by decide)]
      exact h)
    (fun M s F T K hb hs h => by
      rw [m262_19 F, hb, k262_23, if_neg (by decide), k262_26, m262_29 F, show (59 : Int32) = nI 59 from rfl, mIsSign F T K (by decide) (by decide) (by decide)]
      simp only [oN]
      rw [k262_32, bzi, if_pos hs]
      exact h)
    (fun M s F T K hb hs h => by
      rw [m262_19 F, hb, k262_23, if_neg (by decide), k262_26, m262_29 F, show (59 : Int32) = nI 59 from rfl, mIsSign F T K (by decide) (by decide) (by decide)]
      simp only [oN]
      rw [k262_32, bzi, if_neg (fun z => z hs), k262_35, m262_36 F]
      refine next_ok F T K.2.1 (tkE_le K.2.2.2.2) ?_
      intro M1 t1 K1
      simp only [oZ]
      rw [k262_39, m262_40 (MF_agr F t1.1)]
      refine h M1 t1 K1 _ ?_
      intro M2 hw
      simp only [oZ]
      rw [k262_43]
      exact hw)
    (fun M i s n c F T W X e hi h Q' hq => mOrder_ok F T W X e hi (LRs_Q hq h))
    (fun M s n c F W X e h Q' hq => by
      rw [ord_13 F W X e (Or.inl rfl)]
      exact hq _ h)
    (fun M F hb h => by
      rw [k262_46, m262_47 F, mEnd_bad F hb]
      simp only [oZ]
      exact h)
    (fun M s F K hb h => by
      rw [k262_46, m262_47 F, mEnd_ok F K hb]
      simp only [oZ]
      exact h)
  refine key 12 0 (scn b L isB 0) 0 0 (fun _ => (0, 0, oneD, oneD, oneD)) M1 (by omega) (LF_refl _ _ _ _) X1 e21 (fun j hj => absurd hj (by omega)) (MRes_pre a1 f1 l1 H) _ ?_
  intro M2 hw
  simp only [oZ]
  exact hw
