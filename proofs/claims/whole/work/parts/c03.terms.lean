variable {d : Nat} {M : hp} {Q : Option Value → hp → Prop}
/-! forget(), force(), terms() -/
theorem hall_c {E : List Nat} {M2 : hp} (a : agr E M M2) (n : nin E [66, 67, 68, 69] = true) : ∀ r, 1 ≤ r → r ≤ 4 → hI M2 (65 + r) = hI M (65 + r) := by
  intro r r1 r2
  have : r = 1 ∨ r = 2 ∨ r = 3 ∨ r = 4 := by omega
  rcases this with rfl | rfl | rfl | rfl <;> exact agr_I a (nin_at n (by decide))
theorem p_forget (S : Sim M) (K : Alk d 251 [(0, .ref 126)] M Q) : Wp none d 119 0 [(0, .ref 64)] [] M Q := by
  have kb : kB = 154 := rfl
  obtain ⟨n, nl, lw, X, H, HO, Y⟩ := Sim_get S
  obtain ⟨hc, hk, hb, R, r11, r12, r13⟩ := HC_RH H
  rw [x119_0 X, k119_12 (x_K65 X), Hall_hearNothing X.2.1]
  simp only [oZ]
  rw [k119_15, r11]
  have a1 : agr [65] M (sI (sI (sI M 65 11 0) 65 12 0) 65 13 0) := agr_trans (agr_trans (agr_sI (by decide)) (agr_sI (by decide))) (agr_sI (by decide))
  refine K _ _ (fun Q2 h => ?_)
  have Y1 := RP_64 Y a1 (by decide)
  have e128 : hI (sI (sI (sI M 65 11 0) 65 12 0) 65 13 0) 128 = hI M 128 := agr_I a1 (by decide)
  have c1 : (1 : Int32).toNatClampNeg = 1 := rfl
  rw [k251_0 (m_9 Y1.F), o0_id Y1, m251_5 Y1.F (by decide), c1, e128, show hI M 128 1 = nI hc from R.1, k251_19]
  have aa : agr [65, 128] M (sI (sI (sI (sI M 65 11 0) 65 12 0) 65 13 0) 128 1 0) := agr_trans (agr_mono a1 (by intro x q; simp at q ⊢; omega)) (agr_sI (by decide))
  refine h _ ?_ (by rw [aa.1]; omega) (by rw [aa.2.1]; omega)
  obtain ⟨B, Z, I, T, C, D, n', nl', lw', H', U'⟩ := S
  have lo : low [65, 128] := by intro x q; simp at q; omega
  have r128 : ∀ l, ¬ l = 1 → hI (sI (sI (sI (sI M 65 11 0) 65 12 0) 65 13 0) 128 1 0) 128 l = hI M 128 l := fun l q => by rw [hI_sI_k q, e128]
  have r65 : ∀ k, k < 11 → hI (sI (sI (sI (sI M 65 11 0) 65 12 0) 65 13 0) 128 1 0) 65 k = hI M 65 k := fun k q => by rw [hI_sI_a (by decide), hI_sI_k (by omega), hI_sI_k (by omega), hI_sI_k (by omega)]
  have e126 : hI (sI (sI (sI (sI M 65 11 0) 65 12 0) 65 13 0) 128 1 0) 126 = hI M 126 := agr_I aa (by decide)
  have e64 : hI (sI (sI (sI (sI M 65 11 0) 65 12 0) 65 13 0) 128 1 0) 64 = hI M 64 := agr_I aa (by decide)
  refine ⟨SimB_E B aa (by decide) (by rw [e126]) (by rw [e126]), Scr_E Z aa (by decide), Img_E I aa lo (by decide), Tpe_E T aa (by decide) (by rw [e126]), Scl_fr C e64 (agr_I aa (by decide)) (agr_I aa (by decide)) (fun k _ => by rw [e126]), Drw_E D aa (by decide) (by rw [e64]) (by rw [e126]), n', nl', lw', ⟨HallZ_c H'.1 (hall_c aa (by decide)), PiS_c H'.2.1 (fun k q => r65 k (by omega)) (hall_c aa (by decide)) (fun l q => r128 l (by omega)), LwS_c H'.2.2.1 (upk_agr aa lo) (fun k q => r65 k (by omega)) (by rw [agr_R aa]) (fun l q => r128 l (by omega)), 0, fun _ => 0, fun _ => false, ⟨hI_sI_s (sI (sI (sI M 65 11 0) 65 12 0) 65 13 0) 128 1 0, by omega, fun k q => absurd q (by omega)⟩, ?_, ?_, ?_⟩, Und_E U' aa (by decide) (r65 6 (by omega)) (r65 7 (by omega)) (by rw [e126])⟩
  · rw [hI_sI_a (by decide), hI_sI_k (by decide), hI_sI_k (by decide), hI_sI_s]; rfl
  · rw [hI_sI_a (by decide), hI_sI_k (by decide), hI_sI_s]; rfl
  · rw [hI_sI_a (by decide), hI_sI_s]; rfl
/-- the reference's change() -/
theorem mChange {c : Nat} {x v : Int32} (F : MF M) (hx : x = nI c) (hc : c < 5447) : Wp none d 157 0 [(0, .ref 126), (1, .int x), (2, .int v)] [] M Q = Q (some (.int (hI M 128 c))) (sI (sI M 128 c v) 126 1 0) := by
  have F1 : MF (sI M 128 c v) := F
  rw [hx, m157_0 F (v54 hc), n_cl (by omega), k157_14 (m_9 F1), k157_19]
theorem p_force {w : Int32} (S : Sim M) (K : Alk d 215 [(0, .ref 126), (1, .int w)] M Q) : Wp none d 104 0 [(0, .ref 64), (1, .int w)] [] M Q := by
  have kb : kB = 154 := rfl
  obtain ⟨n, nl, lw, X, H, HO, Y⟩ := Sim_get S
  have Lw := H.2.2.1
  have n6 := Lw.2.2.1
  rw [x104_0 X, k104_5 (x_K65 X), Hall_hasLaw X.2.1, Lw.1]
  simp only [oN]
  rw [k104_8]
  by_cases c : ¬ w < -1 ∧ ¬ nI nl ≤ w
  case neg =>
    rw [if_neg (by rw [bz_eq0]; exact fun q => q c), k104_11, k104_14 (x_K64 X), T_refused X]
    simp only [oN]
    rw [k104_17]
    refine p_refused (v := 2) (Or.inr (Or.inl rfl)) S K (fun Q2 a h => ?_)
    have Y1 := RP_64 Y a (by decide)
    have e128 : hI (refM M (-(nI 2))) 128 = hI M 128 := agr_I a (by decide)
    rw [k215_0 (m_9 Y1.F), o0_id Y1, k215_5, k215_7 (m_9 Y1.F), mIsLaw Y1 (by rw [e128]; exact Lw.2.1) n6]
    simp only [oN]
    rw [k215_10, if_pos (by rw [bz_eq0]; exact c), k215_22, k215_25 (m_9 Y1.F), show (-2 : Int32) = -(nI 2) from by decide, mTell_n Y1.F (by omega) (by omega)]
    simp only [oN]
    rw [k215_28]
    exact h
  have X1 : XS (sI M 65 10 w) := X
  rw [if_pos (by rw [bz_eq0]; exact fun q => q c), x104_18 X, k104_34, k104_36 (x_K64 X1), T_accepted X1]
  simp only [oN]
  rw [k104_39, Lw.2.2.2.2.2.1]
  have a1 : agr [64, 65] M (sI (sI M 65 10 w) 64 19 0) := agr_trans (agr_sI (by decide)) (agr_sI (by decide))
  refine K _ _ (fun Q2 h => ?_)
  have Y1 := RP_64 Y a1 (by decide)
  have e128 : hI (sI (sI M 65 10 w) 64 19 0) 128 = hI M 128 := agr_I a1 (by decide)
  rw [k215_0 (m_9 Y1.F), o0_id Y1, k215_5, k215_7 (m_9 Y1.F), mIsLaw Y1 (by rw [e128]; exact Lw.2.1) n6]
  simp only [oN]
  rw [k215_10, if_neg (by rw [bz_eq0]; exact fun q => q c), k215_13, k215_16 (m_9 Y1.F), mChange (x := 3) (c := 3) Y1.F rfl (by omega), e128]
  simp only [oN]
  rw [k215_19, k215_28]
  have aa : agr [64, 65, 126, 128] M (sI (sI (sI (sI M 65 10 w) 64 19 0) 128 3 w) 126 1 0) := agr_trans (agr_mono a1 (by intro x q; simp at q ⊢; omega)) (agr_trans (agr_sI (by decide)) (agr_sI (by decide)))
  have r128 : ∀ l, ¬ l = 3 → hI (sI (sI (sI (sI M 65 10 w) 64 19 0) 128 3 w) 126 1 0) 128 l = hI M 128 l := fun l q => by rw [hI_sI_a (by decide), hI_sI_k q, e128]
  have r65 : ∀ k, ¬ k = 10 → hI (sI (sI (sI (sI M 65 10 w) 64 19 0) 128 3 w) 126 1 0) 65 k = hI M 65 k := fun k q => by rw [hI_sI_a (by decide), hI_sI_a (by decide), hI_sI_a (by decide), hI_sI_k q]
  have r3 : hI (sI (sI (sI (sI M 65 10 w) 64 19 0) 128 3 w) 126 1 0) 128 3 = w := by rw [hI_sI_a (by decide), hI_sI_s]
  have r10 : hI (sI (sI (sI (sI M 65 10 w) 64 19 0) 128 3 w) 126 1 0) 65 10 = w := by rw [hI_sI_a (by decide), hI_sI_a (by decide), hI_sI_a (by decide), hI_sI_s]
  refine h _ (Sim_hall S aa (fun k q => by rw [hI_sI_a (by decide), hI_sI_a (by decide), hI_sI_k q, hI_sI_a (by decide)]) (fun k q => by rw [hI_sI_k q, hI_sI_a (by decide), hI_sI_a (by decide), hI_sI_a (by decide)]) (by rw [hI_sI_a (by decide), hI_sI_a (by decide), hI_sI_s]) (hI_sI_s _ _ _ _) (fun n' nl' lw' H' U' => ?_)) (by rw [aa.1]; omega) (by rw [aa.2.1]; omega)
  have e2 : nI nl' = nI nl := H'.2.2.1.1.symm.trans Lw.1
  have e2' : nl' = nl := by
    have := H'.2.2.1.2.2.1
    rw [n_eq (by omega) (by omega)] at e2
    exact e2
  subst e2'
  obtain ⟨g1, g2, g3, g4, g5, g6, g7⟩ := H'.2.2.1
  refine ⟨n', nl', lw', ⟨HallZ_c H'.1 (hall_c aa (by decide)), PiS_c H'.2.1 (fun k q => r65 k (by omega)) (hall_c aa (by decide)) (fun l q => r128 l (by omega)), ⟨by rw [r65 9 (by decide)]; exact g1, by rw [r128 2 (by decide)]; exact g2, g3, fun i hi => ?_, fun i hi => ?_, by rw [r10, r3], ?_⟩, HdS_c H'.2.2.2 (fun k q => r65 k (by omega)) (fun l q => r128 l (by omega))⟩, Und_E U' aa (by decide) (r65 6 (by decide)) (r65 7 (by decide)) ?_⟩
  · rw [agr_R aa]
    exact ⟨TxB_up (g4 i hi).1 (upk_agr aa (by intro x q; simp at q; omega)), LwF_reg (g4 i hi).2 (fun l q1 q2 => r128 l (by omega))⟩
  · rw [agr_R aa, agr_K aa, aa.1]
    exact g5 i hi
  · rw [r3]
    exact lawOk_of n6 c
  · rw [hI_sI_k (by decide), hI_sI_a (by decide), hI_sI_a (by decide), hI_sI_a (by decide)]
/-- terms that can be -/
def trmOk (w v : Int32) : Prop := (w = 0 ∧ 0 ≤ v ∧ v ≤ 999) ∨ (w = 1 ∧ 0 ≤ v ∧ v ≤ 10) ∨ (w = 2 ∧ 0 ≤ v ∧ v ≤ 9)
theorem mTermsAsk {w v : Int32} : ∃ z : Int32, ((z = 1 ∧ trmOk w v) ∨ (z = 0 ∧ ¬ trmOk w v)) ∧ Wp none d 180 5 [(0, .ref 126), (1, .int w), (2, .int v)] [] M Q = Wp none d 180 60 [(0, .ref 126), (1, .int w), (2, .int v)] [.int z] M Q := by
  rw [k180_5, k180_6]
  have bzc : ∀ p : Prop, ∀ _ : Decidable p, (bz p = 1 ∧ p) ∨ (bz p = 0 ∧ ¬ p) := by
    intro p i
    by_cases c : p
    · exact Or.inl ⟨bz_t c, c⟩
    · exact Or.inr ⟨bz_f c, c⟩
  by_cases w0 : w = 0
  · rw [if_neg (fun q => q w0), k180_9, k180_15, mIn, in_lit (x := 0) (y := 999) (a := 0) (b := 999) rfl rfl]
    simp only [oN]
    rw [k180_18]
    refine ⟨_, ?_, rfl⟩
    rcases bzc (0 ≤ v ∧ v ≤ 999) inferInstance with z | z
    · exact Or.inl ⟨z.1, Or.inl ⟨w0, z.2⟩⟩
    · refine Or.inr ⟨z.1, ?_⟩
      rintro (q | q | q)
      · exact z.2 q.2
      · rw [w0] at q; exact absurd q.1 (by decide)
      · rw [w0] at q; exact absurd q.1 (by decide)
  rw [if_pos w0, k180_21, k180_23]
  by_cases w1 : w = 1
  · rw [if_neg (fun q => q w1), k180_26, k180_32, mIn, in_lit (x := 0) (y := 10) (a := 0) (b := 10) rfl rfl]
    simp only [oN]
    rw [k180_35]
    refine ⟨_, ?_, rfl⟩
    rcases bzc (0 ≤ v ∧ v ≤ 10) inferInstance with z | z
    · exact Or.inl ⟨z.1, Or.inr (Or.inl ⟨w1, z.2⟩)⟩
    · refine Or.inr ⟨z.1, ?_⟩
      rintro (q | q | q)
      · exact w0 q.1
      · exact z.2 q.2
      · rw [w1] at q; exact absurd q.1 (by decide)
  rw [if_pos w1, k180_38, k180_40]
  by_cases w2 : w = 2
  · rw [if_neg (fun q => q w2), k180_43, k180_49, mIn, in_lit (x := 0) (y := 9) (a := 0) (b := 9) rfl rfl]
    simp only [oN]
    rw [k180_52]
    by_cases c : 0 ≤ v ∧ v ≤ 9
    · rw [if_neg (by rw [bz_eq0]; exact fun q => q c), k180_55]
      exact ⟨1, Or.inl ⟨rfl, Or.inr (Or.inr ⟨w2, c⟩)⟩, rfl⟩
    · rw [if_pos (by rw [bz_eq0]; exact c), k180_59]
      refine ⟨0, Or.inr ⟨rfl, ?_⟩, rfl⟩
      rintro (q | q | q)
      · exact w0 q.1
      · exact w1 q.1
      · exact c q.2
  · rw [if_pos w2, k180_59]
    refine ⟨0, Or.inr ⟨rfl, ?_⟩, rfl⟩
    rintro (q | q | q)
    · exact w0 q.1
    · exact w1 q.1
    · exact w2 q.1
theorem i_lt {a b : Int32} : a < b ↔ ¬ b ≤ a := by
  rw [fa_le, fa_lt]
  omega
theorem p_terms {w v : Int32} (S : Sim M) (K : Alk d 180 [(0, .ref 126), (1, .int w), (2, .int v)] M Q) : Wp none d 95 0 [(0, .ref 64), (1, .int w), (2, .int v)] [] M Q := by
  have kb : kB = 154 := rfl
  obtain ⟨n, nl, lw, X, H, HO, Y⟩ := Sim_get S
  have P := H.2.1
  have bad : ¬ trmOk w v → Wp none d 95 21 [(0, .ref 64), (1, .int w), (2, .int v)] [] M Q := by
    intro c
    rw [k95_21, k95_23 (x_K64 X), T_refused X]
    simp only [oN]
    rw [k95_26]
    refine p_refused (v := 1) (Or.inl rfl) S K (fun Q2 a h => ?_)
    have Y1 := RP_64 Y a (by decide)
    obtain ⟨z, hz, e⟩ := mTermsAsk (d := d) (M := refM M (-(nI 1))) (Q := Q2) (w := w) (v := v)
    rw [k180_0 (m_9 Y1.F), o0_id Y1, e]
    rcases hz with ⟨_, z2⟩ | ⟨z1, _⟩
    · exact absurd z2 c
    · rw [z1, k180_60, k180_62, if_neg (fun q => q rfl), k180_65, k180_67 (m_9 Y1.F), show (-1 : Int32) = -(nI 1) from by decide, mTell_n Y1.F (by omega) (by omega)]
      simp only [oN]
      rw [k180_70]
      exact h
  rw [k95_0, k95_1]
  by_cases c1 : w < 0
  · rw [if_pos c1]
    refine bad ?_
    rintro (q | q | q) <;> (rw [q.1] at c1; exact absurd c1 (by decide))
  rw [if_neg c1, k95_4, k95_6]
  by_cases c2 : 3 ≤ w
  · rw [if_pos c2]
    refine bad ?_
    rintro (q | q | q) <;> (rw [q.1] at c2; exact absurd c2 (by decide))
  rw [if_neg c2, k95_9, k95_10]
  by_cases c3 : v < 0
  · rw [if_pos c3]
    refine bad ?_
    rintro (q | q | q) <;> exact i_le.mp q.2.1 c3
  rw [if_neg c3, k95_13, k95_15, T_mostOfTerm]
  simp only [oM]
  rw [k95_18]
  obtain ⟨wn, w3, rfl⟩ := (vin_of2 (n := 3) c1 c2 (by omega)).2
  by_cases c4 : v ≤ (if nI wn = 0 then 999 else if nI wn = 1 then 10 else 9)
  case neg =>
    rw [if_neg c4]
    refine bad ?_
    rintro (q | q | q)
    · rw [if_pos q.1] at c4; exact c4 q.2.2
    · rw [if_neg (by rw [q.1]; decide), if_pos q.1] at c4; exact c4 q.2.2
    · rw [if_neg (by rw [q.1]; decide), if_neg (by rw [q.1]; decide)] at c4; exact c4 q.2.2
  rw [if_pos c4, x95_27 X, k95_32 (x_K65 X), Hall_term X.2.1]
  simp only [oN]
  rw [x95_35 X, k95_42 (x_K65 X), Hall_setTerm X.2.1]
  simp only [oZ]
  have ok : trmOk (nI wn) v := by
    have : wn = 0 ∨ wn = 1 ∨ wn = 2 := by omega
    rcases this with rfl | rfl | rfl
    · rw [if_pos (show nI 0 = 0 from rfl)] at c4; exact Or.inl ⟨rfl, i_le.mpr c3, c4⟩
    · rw [if_neg (by decide), if_pos (show nI 1 = 1 from rfl)] at c4; exact Or.inr (Or.inl ⟨rfl, i_le.mpr c3, c4⟩)
    · rw [if_neg (by decide), if_neg (by decide)] at c4; exact Or.inr (Or.inr ⟨rfl, i_le.mpr c3, c4⟩)
  have e1 : (if nI wn = 0 then hI M 65 5 else if nI wn = 1 then hI M 65 6 else hI M 65 7) = hI M 65 (5 + wn) := by
    have : wn = 0 ∨ wn = 1 ∨ wn = 2 := by omega
    rcases this with rfl | rfl | rfl
    · rw [if_pos (show nI 0 = 0 from rfl)]
    · rw [if_neg (by decide), if_pos (show nI 1 = 1 from rfl)]
    · rw [if_neg (by decide), if_neg (by decide)]
  have e2 : (if nI wn = 0 then sI M 65 5 v else if nI wn = 1 then sI M 65 6 v else sI M 65 7 v) = sI M 65 (5 + wn) v := by
    have : wn = 0 ∨ wn = 1 ∨ wn = 2 := by omega
    rcases this with rfl | rfl | rfl
    · rw [if_pos (show nI 0 = 0 from rfl)]
    · rw [if_neg (by decide), if_pos (show nI 1 = 1 from rfl)]
    · rw [if_neg (by decide), if_neg (by decide)]
  rw [e1, e2]
  have X1 : XS (sI M 65 (5 + wn) v) := X
  have X2 : XS (sI (sI M 65 (5 + wn) v) 103 2 0) := X
  rw [x95_45 X1, k95_49 (x_K103 X1), Past_clear X1.2.2.2.2.2.2.2.1]
  simp only [oZ]
  rw [k95_52, k95_54 (x_K64 X2), T_accepted X2]
  simp only [oN]
  rw [k95_57]
  have a1 : agr [64, 65, 103] M (sI (sI (sI M 65 (5 + wn) v) 103 2 0) 64 19 0) := agr_trans (agr_trans (agr_sI (by decide)) (agr_sI (by decide))) (agr_sI (by decide))
  have R45 : hI M 128 (4 + wn) = hI M 65 (5 + wn) := by
    have : wn = 0 ∨ wn = 1 ∨ wn = 2 := by omega
    rcases this with rfl | rfl | rfl
    · exact P.2.2.2.2.1.1
    · exact P.2.2.2.2.1.2.1
    · exact P.2.2.2.2.1.2.2
  refine K _ _ (fun Q2 h => ?_)
  have Y1 : RP (sI (sI (sI M 65 (5 + wn) v) 103 2 0) 64 19 0) n (hI M 66) (hI M 67) (hI M 68) (hI M 69) (hI M 65 5) (hI M 65 7) (lawOf (hI M 128 3) lw) := RP_64 Y a1 (by decide)
  have e128 : hI (sI (sI (sI M 65 (5 + wn) v) 103 2 0) 64 19 0) 128 = hI M 128 := agr_I a1 (by decide)
  have e126 : hI (sI (sI (sI M 65 (5 + wn) v) 103 2 0) 64 19 0) 126 = hI M 126 := agr_I a1 (by decide)
  have e103 : hI (sI (sI (sI M 65 (5 + wn) v) 103 2 0) 64 19 0) 103 2 = 0 := by rw [hI_sI_a (by decide), hI_sI_s]
  have e103' : hI (sI (sI (sI M 65 (5 + wn) v) 103 2 0) 64 19 0) 103 1 = hI M 103 1 := by rw [hI_sI_a (by decide), hI_sI_k (by decide), hI_sI_a (by decide)]
  have e64 : ∀ k, ¬ k = 19 → hI (sI (sI (sI M 65 (5 + wn) v) 103 2 0) 64 19 0) 64 k = hI M 64 k := fun k q => by rw [hI_sI_k q, hI_sI_a (by decide), hI_sI_a (by decide)]
  have e19 : hI (sI (sI (sI M 65 (5 + wn) v) 103 2 0) 64 19 0) 64 19 = 0 := hI_sI_s _ _ _ _
  have e65 : ∀ k, hI (sI (sI (sI M 65 (5 + wn) v) 103 2 0) 64 19 0) 65 k = if k = 5 + wn then v else hI M 65 k := by
    intro k
    rw [hI_sI_a (by decide), hI_sI_a (by decide)]
    by_cases q : k = 5 + wn
    · rw [if_pos q, q, hI_sI_s]
    · rw [if_neg q, hI_sI_k q]
  generalize sI (sI (sI M 65 (5 + wn) v) 103 2 0) 64 19 0 = M1 at a1 Y1 e128 e126 e103 e103' e64 e19 e65 ⊢
  obtain ⟨z, hz, e⟩ := mTermsAsk (d := d) (M := M1) (Q := Q2) (w := nI wn) (v := v)
  have z1 : z = 1 := by
    rcases hz with q | q
    · exact q.1
    · exact absurd ok q.2
  have F2 : MF (sI M1 126 8 0) := Y1.F
  have e4 : (4 : Int32) + nI wn = nI (4 + wn) := by rw [show (4 : Int32) = nI 4 from rfl, nI_add]
  rw [k180_0 (m_9 Y1.F), o0_id Y1, e, z1, k180_60, k180_62, if_pos (by decide), k180_71 (m_9 Y1.F), k180_76, k180_81 (m_9 F2), mChange F2 e4 (by omega), hI_sI_a (by decide), e128, R45]
  simp only [oN]
  rw [k180_84]
  have aa : agr [64, 65, 103, 126, 128] M (sI (sI (sI M1 126 8 0) 128 (4 + wn) v) 126 1 0) := agr_trans (agr_mono a1 (by intro x q; simp at q ⊢; omega)) (agr_trans (agr_trans (agr_sI (by decide)) (agr_sI (by decide))) (agr_sI (by decide)))
  have r128 : ∀ l, hI (sI (sI (sI M1 126 8 0) 128 (4 + wn) v) 126 1 0) 128 l = if l = 4 + wn then v else hI M 128 l := by
    intro l
    rw [hI_sI_a (by decide)]
    by_cases q : l = 4 + wn
    · rw [if_pos q, q, hI_sI_s]
    · rw [if_neg q, hI_sI_k q, hI_sI_a (by decide), e128]
  have r126 : ∀ k, ¬ k = 1 → ¬ k = 8 → hI (sI (sI (sI M1 126 8 0) 128 (4 + wn) v) 126 1 0) 126 k = hI M 126 k := fun k q q2 => by rw [hI_sI_k q, hI_sI_a (by decide), hI_sI_k q2, e126]
  have ro : ∀ x, ¬ x = 126 → ¬ x = 128 → hI (sI (sI (sI M1 126 8 0) 128 (4 + wn) v) 126 1 0) x = hI M1 x := fun x q q2 => by
    funext k
    rw [hI_sI_a q, hI_sI_a q2, hI_sI_a q]
  obtain ⟨B, Z, I, T, C, D, n', nl', lw', H', U'⟩ := S
  have lo : low [64, 65, 103, 126, 128] := by intro x q; simp at q; omega
  refine h _ ⟨SimB_E B aa (by decide) (r126 20 (by decide) (by decide)) (r126 0 (by decide) (by decide)), Scr_E Z aa (by decide), Img_E I aa lo (by decide), Tpe_E T aa (by decide) (r126 13 (by decide) (by decide)), Scl_acc C ⟨by rw [ro 64 (by decide) (by decide)]; exact e64 16 (by decide), by rw [ro 64 (by decide) (by decide)]; exact e64 17 (by decide), by rw [ro 64 (by decide) (by decide)]; exact e64 18 (by decide), by rw [ro 64 (by decide) (by decide)]; exact e19⟩ (agr_I aa (by decide)) ⟨r126 11 (by decide) (by decide), r126 18 (by decide) (by decide), r126 49 (by decide) (by decide), hI_sI_s _ _ _ _⟩ (agr_I aa (by decide)), Drw_E D aa (by decide) (by rw [ro 64 (by decide) (by decide)]; exact e64 15 (by decide)) (r126 53 (by decide) (by decide)), n', nl', lw', ⟨HallZ_c H'.1 (hall_c aa (by decide)), ?_, LwS_c H'.2.2.1 (upk_agr aa lo) (fun k q => by rw [ro 65 (by decide) (by decide), e65, if_neg (by omega)]) (by rw [agr_R aa]) (fun l q => by rw [r128, if_neg (by omega)]), HdS_c H'.2.2.2 (fun k q => by rw [ro 65 (by decide) (by decide), e65, if_neg (by omega)]) (fun l q => by rw [r128, if_neg (by omega)])⟩, ?_⟩ (by rw [aa.1]; omega) (by rw [aa.2.1]; omega)
  · have hv : ∃ x, v = nI x ∧ (wn = 0 → x ≤ 999) ∧ (wn = 1 → x ≤ 10) := by
      rcases ok with q | q | q
      · obtain ⟨x, x1, x2⟩ := n_of (b := 999) (i_le.mp q.2.1) q.2.2 (by omega)
        refine ⟨x, x2, fun _ => x1, fun e => ?_⟩
        rw [e] at q; exact absurd q.1 (by decide)
      · obtain ⟨x, x1, x2⟩ := n_of (b := 10) (i_le.mp q.2.1) q.2.2 (by omega)
        refine ⟨x, x2, fun e => ?_, fun _ => x1⟩
        rw [e] at q; exact absurd q.1 (by decide)
      · obtain ⟨x, x1, x2⟩ := n_of (b := 9) (i_le.mp q.2.1) q.2.2 (by omega)
        refine ⟨x, x2, fun e => ?_, fun e => ?_⟩
        · rw [e] at q; exact absurd q.1 (by decide)
        · rw [e] at q; exact absurd q.1 (by decide)
    obtain ⟨x, x1, x2, x3⟩ := hv
    obtain ⟨g1, g2, g3, g4, g5, g6, g7, g8, g9⟩ := H'.2.1
    have ha := hall_c aa (by decide)
    unfold PiS
    rw [ro 65 (by decide) (by decide), e65 8, e65 5, e65 6, e65 7, ha 1 (by omega) (by omega), ha 2 (by omega) (by omega), ha 3 (by omega) (by omega), ha 4 (by omega) (by omega), r128 0, r128 4, r128 5, r128 6, if_neg (show ¬ 8 = 5 + wn by omega), if_neg (show ¬ 0 = 4 + wn by omega)]
    refine ⟨g1, g2, g3, fun j hj => ?_, ?_, g6, g7, ?_, ?_⟩
    · rw [r128, r128, r128, r128, if_neg (by omega), if_neg (by omega), if_neg (by omega), if_neg (by omega)]
      exact g4 j hj
    · have : wn = 0 ∨ wn = 1 ∨ wn = 2 := by omega
      rcases this with rfl | rfl | rfl
      · exact ⟨rfl, g5.2.1, g5.2.2⟩
      · exact ⟨g5.1, rfl, g5.2.2⟩
      · exact ⟨g5.1, g5.2.1, rfl⟩
    · by_cases q : 5 = 5 + wn
      · rw [if_pos q]; exact ⟨x, x2 (by omega), x1⟩
      · rw [if_neg q]; exact g8
    · by_cases q : 6 = 5 + wn
      · rw [if_pos q]; exact ⟨x, x3 (by omega), x1⟩
      · rw [if_neg q]; exact g9
  · obtain ⟨c, x, u1, u2, u3, u4, u5, u6⟩ := U'
    refine ⟨0, x, by omega, u2, by rw [ro 103 (by decide) (by decide)]; exact e103, by rw [ro 103 (by decide) (by decide), e103']; exact u4, ?_, fun k q => absurd q (by omega)⟩
    rw [hI_sI_k (by decide), hI_sI_a (by decide), hI_sI_s]
    rfl
