variable {d : Nat} {M : hp} {Q : Option Value → hp → Prop}
/-! back() -/
theorem mLast_p {v : Int32} (F : MF M) (hv : 0 ≤ v) : Wp none d 158 0 [(0, .ref 126), (1, .int v)] [] M Q = Q (some (.int v)) (sI (sI M 126 8 0) 126 1 0) := by
  have F1 : MF (sI M 126 8 0) := F
  rw [k158_0, k158_2, if_pos hv, k158_12, k158_13 (m_9 F), k158_16, k158_18 (m_9 F1), mTell_p F1 hv]
  simp only [oN]
  rw [k158_21]
theorem mLast_n {v : Nat} (F : MF M) (h1 : 1 ≤ v) (h7 : v < 7) : Wp none d 158 0 [(0, .ref 126), (1, .int (-(nI v)))] [] M Q = Q (some (.int (-(nI v)))) (mRef M v) := by
  have hneg : ¬ (0 : Int32) ≤ -(nI v) := by
    have : v = 1 ∨ v = 2 ∨ v = 3 ∨ v = 4 ∨ v = 5 ∨ v = 6 := by omega
    rcases this with rfl | rfl | rfl | rfl | rfl | rfl <;> decide
  have e : sI M 126 8 (hI M 126 8) = M := sI_id M 126 8
  rw [k158_0, k158_2, if_neg hneg, k158_5 (m_9 F), k158_13 (m_9 F), e, k158_16, k158_18 (m_9 F), mTell_n F h1 h7]
  simp only [oN]
  rw [k158_21]
theorem mBack {kk : Nat} {n : Nat} {D T P W : Nat → Int32} {hr rn : Int32} {L : Law} (Y : RP M n D T P W hr rn L) (hk : kk < 2) (hkept : hI M 130 kk = 1) (H : Q (some (.int 0)) (sI (sI (sIs M 128 0 5447 (fun i => hI M 129 (5447 * kk + i))) 126 8 0) 126 1 0)) : Wp none d 164 0 [(0, .ref 126), (1, .int (nI kk))] [] M Q := by
  have F := Y.F
  have ek : (5447 : Int32) * nI kk = nI (5447 * kk) := by rw [show (5447 : Int32) = nI 5447 from rfl, n_mul]
  have key := for_0 (W := fun i => Wp none d 164 39 [(0, .ref 126), (1, .int (nI kk)), (2, .int (nI i))] [] (sIs M 128 0 i (fun i => hI M 129 (5447 * kk + i))) Q) (n := 5447) (fun i hi => by
    have F' : MF (sIs M 128 0 i (fun i => hI M 129 (5447 * kk + i))) := F
    have one := sIs_1 M 128 0 i (fun i => hI M 129 (5447 * kk + i))
    rw [Nat.zero_add] at one
    show Wp none d 164 39 [(0, .ref 126), (1, .int (nI kk)), (2, .int (nI i))] [] (sIs M 128 0 i (fun i => hI M 129 (5447 * kk + i))) Q = Wp none d 164 39 [(0, .ref 126), (1, .int (nI kk)), (2, .int (nI (i + 1)))] [] (sIs M 128 0 (i + 1) (fun i => hI M 129 (5447 * kk + i))) Q
    rw [k164_39, k164_43, show (5447 : Int32) = nI 5447 from rfl, if_neg (by rw [n_le (by omega) (by omega)]; omega), m164_46 F' (by rw [ek, nI_add]; exact v10894 (by omega)) (v54 hi), ek, nI_add, n_cl (by omega), n_cl (by omega), hI_sIs_a (a' := 129) (by decide), one, k164_64, nI_1]) 5447 0 (by omega)
  have key2 : Wp none d 164 39 [(0, .ref 126), (1, .int (nI kk)), (2, .int 0)] [] M Q = Wp none d 164 39 [(0, .ref 126), (1, .int (nI kk)), (2, .int (nI 5447))] [] (sIs M 128 0 5447 (fun i => hI M 129 (5447 * kk + i))) Q := by
    have := key
    simp only [sIs_0] at this
    exact this
  have F1 : MF (sIs M 128 0 5447 (fun i => hI M 129 (5447 * kk + i))) := F
  have hkk : (0 : Int32) ≤ nI kk ∧ nI kk ≤ 1 := by
    have : kk = 0 ∨ kk = 1 := by omega
    rcases this with rfl | rfl <;> decide
  rw [k164_0 (m_9 F), o0_id Y, k164_5, k164_9, mIn, in_lit (x := 0) (y := 1) (a := 0) (b := 1) rfl rfl]
  simp only [oN]
  rw [k164_12, if_pos (by rw [bz_eq0]; exact fun q => q hkk), m164_21 F (v2 hk), n_cl (by omega), hkept, k164_27, if_pos (by decide), k164_37, key2, k164_39, k164_43, if_pos (by decide), k164_70, k164_72 (m_9 F1), mLast_p F1 (by decide)]
  simp only [oN]
  rw [k164_75]
  exact H
theorem p_back {k : Int32} (S : Sim M) (K : Alk d 164 [(0, .ref 126), (1, .int k)] M Q) : Wp none d 127 0 [(0, .ref 64), (1, .int k)] [] M Q := by
  have kb : kB = 154 := rfl
  obtain ⟨n, nl, lw, X, H, HO, Y⟩ := Sim_get S
  have bad : ¬ (0 ≤ k ∧ k ≤ 1) → Wp none d 127 22 [(0, .ref 64), (1, .int k)] [] M Q := by
    intro c
    rw [k127_22, x127_24 X, T_refused X]
    simp only [oN]
    rw [k127_27]
    refine p_refused (v := 1) (Or.inl rfl) S K (fun Q2 a h => ?_)
    have Y1 := RP_64 Y a (by decide)
    rw [k164_0 (m_9 Y1.F), o0_id Y1, k164_5, k164_9, mIn, in_lit (x := 0) (y := 1) (a := 0) (b := 1) rfl rfl]
    simp only [oN]
    rw [k164_12, if_neg (by rw [bz_eq0]; exact fun q => q c), k164_15, k164_17 (m_9 Y1.F), show (-1 : Int32) = -(nI 1) from by decide, mTell_n Y1.F (by omega) (by omega)]
    simp only [oN]
    rw [k164_20]
    exact h
  rw [k127_0, k127_1]
  by_cases c1 : k < 0
  · rw [if_pos c1]
    exact bad (fun q => i_le.mp q.1 c1)
  rw [if_neg c1, x127_4 X, k127_10]
  have e2 : Int32.ofNat 2 = 2 := rfl
  rw [e2]
  by_cases c2 : (2 : Int32) ≤ k
  · rw [if_pos c2]
    refine bad (fun q => ?_)
    have := q.2
    rw [fa_le, show (1 : Int32).toInt = 1 from rfl] at this
    rw [fa_le, show (2 : Int32).toInt = 2 from rfl] at c2
    omega
  rw [if_neg c2, x127_13 X, k127_19, e2, if_pos (i_lt.mpr c2)]
  obtain ⟨kk, h, rfl, ia⟩ := k_img c1 (i_lt.mpr c2)
  obtain ⟨r89, HS, k2, hh⟩ := imgAt_R ia X
  have hlt : h + 5 < kB := by omega
  have I : Im1 M kk h := by
    rcases ia with ⟨rfl, rfl⟩ | ⟨rfl, rfl⟩
    · exact S.2.2.1.1
    · exact S.2.2.1.2
  rw [x127_28 X (v2 k2), n_cl (by omega), k127_34]
  rcases I with ⟨i1, i2⟩ | ⟨i1, i2, n1, nl1, lw1, HI⟩
  · rw [i1, if_neg (fun q => q rfl), k127_37, x127_40 X, T_refused X]
    simp only [oN]
    rw [k127_43]
    refine p_refused (v := 2) (Or.inr (Or.inl rfl)) S K (fun Q2 a hq => ?_)
    have Y1 := RP_64 Y a (by decide)
    have hkk : (0 : Int32) ≤ nI kk ∧ nI kk ≤ 1 := by
      have : kk = 0 ∨ kk = 1 := by omega
      rcases this with rfl | rfl <;> decide
    rw [k164_0 (m_9 Y1.F), o0_id Y1, k164_5, k164_9, mIn, in_lit (x := 0) (y := 1) (a := 0) (b := 1) rfl rfl]
    simp only [oN]
    rw [k164_12, if_pos (by rw [bz_eq0]; exact fun q => q hkk), m164_21 Y1.F (v2 k2), n_cl (by omega), agr_I a (a := 130) (by decide), i2, k164_27, if_neg (fun q => q rfl), k164_30, k164_33 (m_9 Y1.F), show (-2 : Int32) = -(nI 2) from by decide, mTell_n Y1.F (by omega) (by omega)]
    simp only [oN]
    rw [k164_36]
    exact hq
  have HOi : HallO M h n1 (lawOf (hI M 129 (5447 * kk + 3)) lw1) := HC_O HI HS hlt
  rw [i1, if_pos (by decide), x127_44 X (by rw [x_K89 X]; exact Or.inr rfl) (v2 k2), n_cl (by omega), r89, krv_ne (by omega), x127_54r X (x_K65 X)]
  refine copy_ok HOi X.2.1 H.1 (Or.inr (by omega)) (by omega) (fun M1 a l O => ?_)
  have X1 : XS M1 := XS_same (sameS_agq a (by
    intro x q
    simp at q
    exact Or.inl q)) X
  have X2 : XS (sI M1 103 2 0) := X1
  simp only [oZ]
  rw [x127_57 X1, x127_61 X1 (x_K103 X1), Past_clear X1.2.2.2.2.2.2.2.1]
  simp only [oZ]
  rw [k127_64, x127_66 X2, T_accepted X2]
  simp only [oN]
  rw [k127_69]
  refine K _ _ (fun Q2 hQ2 => ?_)
  have b1 : agr [64, 103] M1 (sI (sI M1 103 2 0) 64 19 0) := agr_trans (agr_sI (by decide)) (agr_sI (by decide))
  have cEn : ∀ x, x < 65 ∨ 70 ≤ x → (cE 65).contains x = false := fun x q => cE_not (by omega)
  have Y2 : RP (sI (sI M1 103 2 0) 64 19 0) n (hI M 66) (hI M 67) (hI M 68) (hI M 69) (hI M 65 5) (hI M 65 7) (lawOf (hI M 128 3) lw) := by
    refine RP_64 (RP_of Y (MF_126 Y.F (fun x _ => by rw [a.2.2.1]) (a.2.2.2.1 126 (by decide))) (a.2.2.2.2 128 (cEn _ (by omega))).1 ?_ ?_) b1 (by decide)
    · rw [(a.2.2.2.2 126 (cEn _ (by omega))).1]; exact Y.o20
    · rw [(a.2.2.2.2 126 (cEn _ (by omega))).1]; exact Y.o0
  have e129 : hI (sI (sI M1 103 2 0) 64 19 0) 129 = hI M 129 := (agr_I b1 (by decide)).trans (a.2.2.2.2 129 (cEn _ (by omega))).1
  have e130 : hI (sI (sI M1 103 2 0) 64 19 0) 130 = hI M 130 := (agr_I b1 (by decide)).trans (a.2.2.2.2 130 (cEn _ (by omega))).1
  refine mBack Y2 k2 (by rw [e130]; exact i2) ?_
  rw [e129]
  have fin : ∀ M2, M2 = sI (sI (sIs (sI (sI M1 103 2 0) 64 19 0) 128 0 5447 (fun i => hI M 129 (5447 * kk + i))) 126 8 0) 126 1 0 → Sim M2 ∧ hN M2 = hN M ∧ hS M2 = hS M := by
    intro M2 eM
    have b2 : agr [64, 103, 126, 128] M1 M2 := by
      rw [eM]
      exact agr_trans (agr_mono b1 (by intro x q; simp at q ⊢; omega)) (agr_trans (agr_trans (agr_sIs (by decide)) (agr_sI (by decide))) (agr_sI (by decide)))
    have low2 : low [64, 103, 126, 128] := by intro x q; simp at q; omega
    have u : upk M M2 := upk_trans (upk_agq a (cE_low (by omega)) (one_low (by omega))) (upk_agr b2 low2)
    have gI : ∀ x, (x < 65 ∨ 70 ≤ x) → ([64, 103, 126, 128] : List Nat).contains x = false → hI M2 x = hI M x := fun x q q2 => (agr_I b2 q2).trans (a.2.2.2.2 x (cEn x (by omega))).1
    have gL : ∀ x, (x < 65 ∨ 70 ≤ x) → ([64, 103, 126, 128] : List Nat).contains x = false → hL M2 x = hL M x := fun x q q2 => (agr_L b2 q2).trans (a.2.2.2.2 x (cEn x (by omega))).2
    have g126 : ∀ k, ¬ k = 1 → ¬ k = 8 → hI M2 126 k = hI M 126 k := by
      intro k q q2
      rw [eM, hI_sI_k q, hI_sI_k q2, hI_sIs_a (by decide), hI_sI_a (by decide), hI_sI_a (by decide), (a.2.2.2.2 126 (cEn _ (by omega))).1]
    have s8 : hI M2 126 8 = 0 := by rw [eM, hI_sI_k (by decide), hI_sI_s]
    have s1 : hI M2 126 1 = 0 := by rw [eM, hI_sI_s]
    have g64 : ∀ k, ¬ k = 19 → hI M2 64 k = hI M 64 k := by
      intro k q
      rw [eM, hI_sI_a (by decide), hI_sI_a (by decide), hI_sIs_a (by decide), hI_sI_k q, hI_sI_a (by decide), (a.2.2.2.2 64 (cEn _ (by omega))).1]
    have s19 : hI M2 64 19 = 0 := by rw [eM, hI_sI_a (by decide), hI_sI_a (by decide), hI_sIs_a (by decide), hI_sI_s]
    have s103 : hI M2 103 2 = 0 ∧ hI M2 103 1 = hI M 103 1 := by
      constructor
      · rw [eM, hI_sI_a (by decide), hI_sI_a (by decide), hI_sIs_a (by decide), hI_sI_a (by decide), hI_sI_s]
      · rw [eM, hI_sI_a (by decide), hI_sI_a (by decide), hI_sIs_a (by decide), hI_sI_a (by decide), hI_sI_k (by decide), (a.2.2.2.2 103 (cEn _ (by omega))).1]
    have s128 : ∀ i, i < 5447 → hI M2 128 i = hI M 129 (5447 * kk + i) := by
      intro i hi
      rw [eM, hI_sI_a (by decide), hI_sI_a (by decide), hI_sIs_0 hi]
    have gR : ∀ x, ¬ x = 70 → hR M2 x = hR M x := fun x q => by rw [agr_R b2]; exact a.2.2.2.1 x (by simp; exact q)
    have sH : ∀ x, 65 ≤ x → x ≤ 69 → hI M2 x = hI M1 x := fun x q q2 => agr_I b2 (by simp; omega)
    have lk : like M2 65 M h := ⟨fun r r1 r2 => by rw [sH _ (by omega) (by omega)]; exact l.1 r r1 r2, fun k k1 k2 => by rw [sH _ (by omega) (by omega)]; exact l.2.1 k k1 k2, fun i hi => by rw [agr_R b2]; exact l.2.2 i hi⟩
    obtain ⟨B, ⟨z1, z2, z3, z4, z5⟩, ⟨j1, j2⟩, T, C, D, n', nl', lw', H', U'⟩ := S
    have r5 : ∀ r, r ≤ 4 → r = 0 ∨ r = 1 ∨ r = 2 ∨ r = 3 ∨ r = 4 := by omega
    have hg : ∀ t, (∀ r, r ≤ 4 → (t + r < 65 ∨ 70 ≤ t + r) ∧ ([64, 103, 126, 128] : List Nat).contains (t + r) = false) → ∀ r, r ≤ 4 → hI M2 (t + r) = hI M (t + r) := fun t q r hr => gI _ (q r hr).1 (q r hr).2
    have h90 := hg 90 (fun r hr => by rcases r5 r hr with rfl | rfl | rfl | rfl | rfl <;> decide)
    have h96 := hg 96 (fun r hr => by rcases r5 r hr with rfl | rfl | rfl | rfl | rfl <;> decide)
    obtain ⟨cu, xu, u1, u2, u3, u4, u5, u6⟩ := U'
    refine ⟨⟨SimB_fr B u.1 (fun x _ => by rw [agr_K b2, a.2.2.1]) (fun x _ q => gR x (fun e => q (by rw [e]; exact Or.inl rfl))) (gL 141 (by omega) (by decide)) (gL 142 (by omega) (by decide)) (gL 143 (by omega) (by decide)) (gL 151 (by omega) (by decide)) (g126 20 (by decide) (by decide)) (g126 0 (by decide) (by decide)), ⟨HallZ_fr z1 (hg 71 (fun r hr => by rcases r5 r hr with rfl | rfl | rfl | rfl | rfl <;> decide)), HallZ_fr z2 (hg 77 (fun r hr => by rcases r5 r hr with rfl | rfl | rfl | rfl | rfl <;> decide)), HallZ_fr z3 (hg 83 (fun r hr => by rcases r5 r hr with rfl | rfl | rfl | rfl | rfl <;> decide)), HallZ_fr z4 h90, HallZ_fr z5 h96⟩, ⟨Im1_fr j1 u (gI 102 (by omega) (by decide)) (gI 130 (by omega) (by decide)) (gI 129 (by omega) (by decide)) h90 (gR _ (by omega)), Im1_fr j2 u (gI 102 (by omega) (by decide)) (gI 130 (by omega) (by decide)) (gI 129 (by omega) (by decide)) h96 (gR _ (by omega))⟩, Tpe_fr T (gI 107 (by omega) (by decide)) (gI 108 (by omega) (by decide)) (gI 135 (by omega) (by decide)) (g126 13 (by decide) (by decide)), Scl_acc C ⟨g64 16 (by decide), g64 17 (by decide), g64 18 (by decide), s19⟩ (gI 125 (by omega) (by decide)) ⟨g126 11 (by decide) (by decide), g126 18 (by decide) (by decide), g126 49 (by decide) (by decide), s1⟩ (gI 127 (by omega) (by decide)), Drw_fr D (g64 15 (by decide)) (by rw [gI 83 (by omega) (by decide)]) (g126 53 (by decide) (by decide)) (gI 153 (by omega) (by decide)) (gI 86 (by omega) (by decide)) (gI 87 (by omega) (by decide)), n1, nl1, lw1, HC_like HI lk u s128, 0, xu, by omega, u2, s103.1, s103.2.trans u4, s8, fun k q => absurd q (by omega)⟩, b2.1.trans a.1, b2.2.1.trans a.2.1⟩
  obtain ⟨f1, f2, f3⟩ := fin _ rfl
  exact hQ2 _ f1 (by omega) (by omega)
