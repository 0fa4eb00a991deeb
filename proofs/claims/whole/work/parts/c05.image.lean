variable {d : Nat} {M : hp} {Q : Option Value → hp → Prop}
/-! image(), back() -/
theorem HC_like {M' : hp} {f t n nl : Nat} {lw : Nat → Nat × (Nat → Cls)} {R R' : Nat → Int32} (H : HC M f R n nl lw) (l : like M' t M f) (u : upk M M') (eR : ∀ i, i < 5447 → R' i = R i) : HC M' t R' n nl lw := by
  obtain ⟨l1, l2, l3⟩ := l
  obtain ⟨Z, P, Lw, Hd⟩ := H
  refine ⟨?_, ?_, ?_, ?_⟩
  · intro r r1 r2 k hk
    rw [l1 r r1 r2]
    exact Z r r1 r2 k hk
  · unfold PiS at *
    rw [l2 8 (by omega) (by omega), l2 5 (by omega) (by omega), l2 6 (by omega) (by omega), l2 7 (by omega) (by omega), l1 1 (by omega) (by omega), l1 2 (by omega) (by omega), l1 3 (by omega) (by omega), l1 4 (by omega) (by omega), eR 0 (by omega), eR 4 (by omega), eR 5 (by omega), eR 6 (by omega)]
    refine ⟨P.1, P.2.1, P.2.2.1, fun j hj => ?_, P.2.2.2.2⟩
    rw [eR _ (by omega), eR _ (by omega), eR _ (by omega), eR _ (by omega)]
    exact P.2.2.2.1 j hj
  · obtain ⟨h1, h2, h3, h4, h5, h6, h7⟩ := Lw
    have un := u.1
    refine ⟨(l2 9 (by omega) (by omega)).trans h1, (eR 2 (by omega)).trans h2, h3, fun i hi => ?_, fun i hi => ?_, (l2 10 (by omega) (by omega)).trans (h6.trans (eR 3 (by omega)).symm), by rw [eR 3 (by omega)]; exact h7⟩
    · rw [l3 i (by omega)]
      exact ⟨TxB_up (h4 i hi).1 u, LwF_reg (h4 i hi).2 (fun l q1 q2 => eR l (by omega))⟩
    · rw [l3 i hi]
      rcases h5 i hi with z | z
      · exact Or.inl z
      · exact Or.inr ⟨by rw [u.2.1 _ z.2]; exact z.1, by have := z.2; omega⟩
  · obtain ⟨hc, hk, hb, H1, H2⟩ := Hd
    refine ⟨hc, hk, hb, ⟨(eR 1 (by omega)).trans H1.1, H1.2.1, fun k q => ?_⟩, by rw [l2 11 (by omega) (by omega), l2 12 (by omega) (by omega), l2 13 (by omega) (by omega)]; exact H2⟩
    have := H1.2.2 k q
    have h6 := H1.2.1
    exact ⟨(eR _ (by omega)).trans this.1, this.2.1, (eR _ (by omega)).trans this.2.2⟩
theorem Im1_c {M' : hp} {k h : Nat} (I : Im1 M k h) (u : upk M M') (e1 : hI M' 102 k = hI M 102 k) (e2 : hI M' 130 k = hI M 130 k) (e3 : ∀ i, i < 5447 → hI M' 129 (5447 * k + i) = hI M 129 (5447 * k + i)) (e : ∀ r, r ≤ 4 → hI M' (h + r) = hI M (h + r)) (e5 : hR M' (h + 5) = hR M (h + 5)) : Im1 M' k h := by
  rcases I with z | ⟨z1, z2, n, nl, lw, z3⟩
  · exact Or.inl ⟨e1.trans z.1, e2.trans z.2⟩
  · exact Or.inr ⟨e1.trans z1, e2.trans z2, n, nl, lw, HC_fr z3 u e e5 e3⟩
def imgAt (k h : Nat) : Prop := (k = 0 ∧ h = 90) ∨ (k = 1 ∧ h = 96)
theorem imgAt_R {k h : Nat} (c : imgAt k h) (X : XS M) : hR M 89 k = h ∧ HallS M h ∧ k < 2 ∧ (h = 90 ∨ h = 96) := by
  rcases c with ⟨rfl, rfl⟩ | ⟨rfl, rfl⟩
  · exact ⟨x_R89_0 X, X.2.2.2.2.2.1, by omega, Or.inl rfl⟩
  · exact ⟨x_R89_1 X, X.2.2.2.2.2.2.1, by omega, Or.inr rfl⟩
theorem k_img {k : Int32} (h0 : ¬ k < 0) (h2 : k < 2) : ∃ kk h, k = nI kk ∧ imgAt kk h := by
  obtain ⟨j, j1, j2⟩ := (vin_of2 (n := 2) h0 (fun q => i_le.mp q h2) (by omega)).2
  have : j = 0 ∨ j = 1 := by omega
  rcases this with rfl | rfl
  · exact ⟨0, 90, j2, Or.inl ⟨rfl, rfl⟩⟩
  · exact ⟨1, 96, j2, Or.inr ⟨rfl, rfl⟩⟩
theorem v10894 {j : Nat} (h : j < 10894) : vin (nI j) 10894 = true := by
  rw [vin_n (by omega)]
  exact decide_eq_true h
theorem v2 {j : Nat} (h : j < 2) : vin (nI j) 2 = true := by
  rw [vin_n (by omega)]
  exact decide_eq_true h
theorem mImage {kk : Nat} {n : Nat} {D T P W : Nat → Int32} {hr rn : Int32} {L : Law} (Y : RP M n D T P W hr rn L) (hk : kk < 2) (H : Q (some (.int 0)) (sI (sI (sIs M 129 (5447 * kk) 5447 (hI M 128)) 130 kk 1) 126 1 0)) : Wp none d 163 0 [(0, .ref 126), (1, .int (nI kk))] [] M Q := by
  have F := Y.F
  have ek : (5447 : Int32) * nI kk = nI (5447 * kk) := by rw [show (5447 : Int32) = nI 5447 from rfl, n_mul]
  have key := for_0 (W := fun i => Wp none d 163 23 [(0, .ref 126), (1, .int (nI kk)), (2, .int (nI i))] [] (sIs M 129 (5447 * kk) i (hI M 128)) Q) (n := 5447) (fun i hi => by
    have F' : MF (sIs M 129 (5447 * kk) i (hI M 128)) := F
    show Wp none d 163 23 [(0, .ref 126), (1, .int (nI kk)), (2, .int (nI i))] [] (sIs M 129 (5447 * kk) i (hI M 128)) Q = Wp none d 163 23 [(0, .ref 126), (1, .int (nI kk)), (2, .int (nI (i + 1)))] [] (sIs M 129 (5447 * kk) (i + 1) (hI M 128)) Q
    rw [k163_23, k163_27, show (5447 : Int32) = nI 5447 from rfl, if_neg (by rw [n_le (by omega) (by omega)]; omega), m163_30 F' (v54 hi) (by rw [ek, nI_add]; exact v10894 (by omega)), ek, nI_add, n_cl (by omega), n_cl (by omega), hI_sIs_a (a' := 128) (by decide), sIs_1 M 129 (5447 * kk) i (hI M 128), k163_48, nI_1]) 5447 0 (by omega)
  have key2 : Wp none d 163 23 [(0, .ref 126), (1, .int (nI kk)), (2, .int 0)] [] M Q = Wp none d 163 23 [(0, .ref 126), (1, .int (nI kk)), (2, .int (nI 5447))] [] (sIs M 129 (5447 * kk) 5447 (hI M 128)) Q := by
    have := key
    simp only [sIs_0] at this
    exact this
  have F1 : MF (sIs M 129 (5447 * kk) 5447 (hI M 128)) := F
  have F2 : MF (sI (sIs M 129 (5447 * kk) 5447 (hI M 128)) 130 kk 1) := F
  have hkk : (0 : Int32) ≤ nI kk ∧ nI kk ≤ 1 := by
    have : kk = 0 ∨ kk = 1 := by omega
    rcases this with rfl | rfl <;> decide
  rw [k163_0 (m_9 F), o0_id Y, k163_5, k163_9, mIn, in_lit (x := 0) (y := 1) (a := 0) (b := 1) rfl rfl]
  simp only [oN]
  rw [k163_12, if_pos (by rw [bz_eq0]; exact fun q => q hkk), k163_21, key2, k163_23, k163_27, if_pos (by decide), m163_54 F1 (v2 hk), n_cl (by omega), show vp_nar .boolean 1 = 1 from by decide, k163_61, k163_63 (m_9 F2), mTell_p F2 (by decide)]
  simp only [oN]
  rw [k163_66]
  exact H
theorem p_image {k : Int32} (S : Sim M) (K : Alk d 163 [(0, .ref 126), (1, .int k)] M Q) : Wp none d 126 0 [(0, .ref 64), (1, .int k)] [] M Q := by
  have kb : kB = 154 := rfl
  obtain ⟨n, nl, lw, X, H, HO, Y⟩ := Sim_get S
  have bad : ¬ (0 ≤ k ∧ k ≤ 1) → Wp none d 126 22 [(0, .ref 64), (1, .int k)] [] M Q := by
    intro c
    rw [k126_22, x126_24 X, T_refused X]
    simp only [oN]
    rw [k126_27]
    refine p_refused (v := 1) (Or.inl rfl) S K (fun Q2 a h => ?_)
    have Y1 := RP_64 Y a (by decide)
    rw [k163_0 (m_9 Y1.F), o0_id Y1, k163_5, k163_9, mIn, in_lit (x := 0) (y := 1) (a := 0) (b := 1) rfl rfl]
    simp only [oN]
    rw [k163_12, if_neg (by rw [bz_eq0]; exact fun q => q c), k163_15, k163_17 (m_9 Y1.F), show (-1 : Int32) = -(nI 1) from by decide, mTell_n Y1.F (by omega) (by omega)]
    simp only [oN]
    rw [k163_20]
    exact h
  rw [k126_0, k126_1]
  by_cases c1 : k < 0
  · rw [if_pos c1]
    exact bad (fun q => i_le.mp q.1 c1)
  rw [if_neg c1, x126_4 X, k126_10]
  have e2 : Int32.ofNat 2 = 2 := rfl
  rw [e2]
  by_cases c2 : (2 : Int32) ≤ k
  · rw [if_pos c2]
    refine bad (fun q => ?_)
    have := q.2
    rw [fa_le, show (1 : Int32).toInt = 1 from rfl] at this
    rw [fa_le, show (2 : Int32).toInt = 2 from rfl] at c2
    omega
  rw [if_neg c2, x126_13 X, k126_19, e2, if_pos (i_lt.mpr c2)]
  obtain ⟨kk, h, rfl, ia⟩ := k_img c1 (i_lt.mpr c2)
  obtain ⟨r89, HS, k2, hh⟩ := imgAt_R ia X
  have hlt : h + 5 < kB := by omega
  rw [x126_28 X (by rw [x_K89 X]; exact Or.inr rfl) (v2 k2), n_cl (by omega), r89, krv_ne (by omega), x126_34r X, x126_38r X HS.2.1]
  have HZ : HallZ M h := by
    rcases hh with rfl | rfl
    · exact S.2.1.2.2.2.1
    · exact S.2.1.2.2.2.2
  refine copy_ok HO HS HZ (Or.inl (by omega)) hlt (fun M1 a l O => ?_)
  have X1 : XS M1 := XS_same (sameS_agq a (by
    intro x q
    simp at q
    rcases hh with rfl | rfl
    · exact Or.inr (Or.inr (Or.inr (Or.inr (Or.inl q))))
    · exact Or.inr (Or.inr (Or.inr (Or.inr (Or.inr q)))))) X
  have X2 : XS (sI M1 102 kk 1) := X1
  simp only [oZ]
  rw [x126_41 X1 (v2 k2), n_cl (by omega), show vp_nar .boolean 1 = 1 from by decide, k126_48, x126_50 X2, T_accepted X2]
  simp only [oN]
  rw [k126_53]
  refine K _ _ (fun Q2 hQ2 => ?_)
  have b1 : agr [64, 102] M1 (sI (sI M1 102 kk 1) 64 19 0) := agr_trans (agr_sI (by decide)) (agr_sI (by decide))
  have cEn : ∀ x, 97 + 5 ≤ x ∨ x < 90 → (cE h).contains x = false := fun x q => cE_not (by omega)
  have Y2 : RP (sI (sI M1 102 kk 1) 64 19 0) n (hI M 66) (hI M 67) (hI M 68) (hI M 69) (hI M 65 5) (hI M 65 7) (lawOf (hI M 128 3) lw) := by
    refine RP_64 (RP_of Y (MF_126 Y.F (fun x _ => by rw [a.2.2.1]) (a.2.2.2.1 126 (by simp; omega))) (a.2.2.2.2 128 (cEn _ (by omega))).1 ?_ ?_) b1 (by decide)
    · rw [(a.2.2.2.2 126 (cEn _ (by omega))).1]; exact Y.o20
    · rw [(a.2.2.2.2 126 (cEn _ (by omega))).1]; exact Y.o0
  have e128 : hI (sI (sI M1 102 kk 1) 64 19 0) 128 = hI M 128 := (agr_I b1 (by decide)).trans (a.2.2.2.2 128 (cEn _ (by omega))).1
  refine mImage Y2 k2 ?_
  rw [e128]
  have fin : ∀ M2, M2 = sI (sI (sIs (sI (sI M1 102 kk 1) 64 19 0) 129 (5447 * kk) 5447 (hI M 128)) 130 kk 1) 126 1 0 → Sim M2 ∧ hN M2 = hN M ∧ hS M2 = hS M := by
    intro M2 eM
    have b2 : agr [64, 102, 126, 129, 130] M1 M2 := by
      rw [eM]
      exact agr_trans (agr_mono b1 (by intro x q; simp at q ⊢; omega)) (agr_trans (agr_trans (agr_sIs (by decide)) (agr_sI (by decide))) (agr_sI (by decide)))
    have low2 : low [64, 102, 126, 129, 130] := by intro x q; simp at q; omega
    have u : upk M M2 := upk_trans (upk_agq a (cE_low hlt) (one_low hlt)) (upk_agr b2 low2)
    have gI : ∀ x, (x < 90 ∨ 102 ≤ x) → ([64, 102, 126, 129, 130] : List Nat).contains x = false → hI M2 x = hI M x := fun x q q2 => (agr_I b2 q2).trans (a.2.2.2.2 x (cEn x (by omega))).1
    have gL : ∀ x, (x < 90 ∨ 102 ≤ x) → ([64, 102, 126, 129, 130] : List Nat).contains x = false → hL M2 x = hL M x := fun x q q2 => (agr_L b2 q2).trans (a.2.2.2.2 x (cEn x (by omega))).2
    have g126 : ∀ k, ¬ k = 1 → hI M2 126 k = hI M 126 k := by
      intro k q
      rw [eM, hI_sI_k q, hI_sI_a (by decide), hI_sIs_a (by decide), hI_sI_a (by decide), hI_sI_a (by decide), (a.2.2.2.2 126 (cEn _ (by omega))).1]
    have g64 : ∀ k, ¬ k = 19 → hI M2 64 k = hI M 64 k := by
      intro k q
      rw [eM, hI_sI_a (by decide), hI_sI_a (by decide), hI_sIs_a (by decide), hI_sI_k q, hI_sI_a (by decide), (a.2.2.2.2 64 (cEn _ (by omega))).1]
    have s19 : hI M2 64 19 = 0 := by rw [eM, hI_sI_a (by decide), hI_sI_a (by decide), hI_sIs_a (by decide), hI_sI_s]
    have s1 : hI M2 126 1 = 0 := by rw [eM, hI_sI_s]
    have gR : ∀ x, ¬ x = h + 5 → hR M2 x = hR M x := fun x q => by rw [agr_R b2]; exact a.2.2.2.1 x (by simp; exact q)
    have s102 : ∀ j, hI M2 102 j = if j = kk then 1 else hI M 102 j := by
      intro j
      rw [eM, hI_sI_a (by decide), hI_sI_a (by decide), hI_sIs_a (by decide), hI_sI_a (by decide)]
      by_cases q : j = kk
      · rw [q, hI_sI_s, if_pos rfl]
      · rw [hI_sI_k q, if_neg q, (a.2.2.2.2 102 (cEn _ (by omega))).1]
    have s130 : ∀ j, hI M2 130 j = if j = kk then 1 else hI M 130 j := by
      intro j
      rw [eM, hI_sI_a (by decide)]
      by_cases q : j = kk
      · rw [q, hI_sI_s, if_pos rfl]
      · rw [hI_sI_k q, if_neg q, hI_sIs_a (by decide), hI_sI_a (by decide), hI_sI_a (by decide), (a.2.2.2.2 130 (cEn _ (by omega))).1]
    have s129 : ∀ j, hI M2 129 j = if 5447 * kk ≤ j ∧ j < 5447 * kk + 5447 then hI M 128 (j - 5447 * kk) else hI M 129 j := by
      intro j
      rw [eM, hI_sI_a (by decide), hI_sI_a (by decide), hI_sIs]
      by_cases q : 5447 * kk ≤ j ∧ j < 5447 * kk + 5447
      · rw [if_pos ⟨rfl, q⟩, if_pos q]
      · rw [if_neg (fun z => q z.2), if_neg q, hI_sI_a (by decide), hI_sI_a (by decide), (a.2.2.2.2 129 (cEn _ (by omega))).1]
    have sH : ∀ x, h ≤ x → x ≤ h + 4 → hI M2 x = hI M1 x := fun x q q2 => agr_I b2 (by
      rcases hh with rfl | rfl <;> simp <;> omega)
    have lk : like M2 h M 65 := ⟨fun r r1 r2 => by rw [sH _ (by omega) (by omega)]; exact l.1 r r1 r2, fun k k1 k2 => by rw [sH _ (by omega) (by omega)]; exact l.2.1 k k1 k2, fun i hi => by rw [agr_R b2]; exact l.2.2 i hi⟩
    obtain ⟨B, ⟨z1, z2, z3, z4, z5⟩, ⟨i1, i2⟩, T, C, D, n', nl', lw', H', U'⟩ := S
    have r5 : ∀ r, r ≤ 4 → r = 0 ∨ r = 1 ∨ r = 2 ∨ r = 3 ∨ r = 4 := by omega
    have hg : ∀ t, (∀ r, r ≤ 4 → (t + r < 90 ∨ 102 ≤ t + r) ∧ ([64, 102, 126, 129, 130] : List Nat).contains (t + r) = false) → ∀ r, r ≤ 4 → hI M2 (t + r) = hI M (t + r) := fun t q r hr => gI _ (q r hr).1 (q r hr).2
    have hOut : ∀ t, (t = 90 ∨ t = 96) → ¬ t = h → ∀ r, r ≤ 4 → hI M2 (t + r) = hI M (t + r) := by
      intro t ht hne r hr
      refine (agr_I b2 ?_).trans (a.2.2.2.2 _ (cE_not ?_)).1
      · rcases ht with rfl | rfl <;> simp <;> omega
      · rcases ht with rfl | rfl <;> rcases hh with rfl | rfl <;> omega
    have nw : Im1 M2 kk h := Or.inr ⟨by rw [s102, if_pos rfl], by rw [s130, if_pos rfl], n', nl', lw', HC_like H' lk u (fun i hi => by
      show hI M2 129 (5447 * kk + i) = hI M 128 i
      rw [s129, if_pos (by omega), show 5447 * kk + i - 5447 * kk = i by omega])⟩
    have zh : HallZ M2 h := (HC_like (R' := hI M 128) H' lk u (fun _ _ => rfl)).1
    have old : ∀ j t, imgAt j t → ¬ j = kk → Im1 M j t → Im1 M2 j t := by
      intro j t jt hj I
      have ht : t = 90 ∨ t = 96 := by rcases jt with z | z <;> omega
      have hne : ¬ t = h := by rcases jt with z | z <;> rcases ia with y | y <;> omega
      have hjk : j < 2 := by rcases jt with z | z <;> omega
      exact Im1_c I u (by rw [s102, if_neg hj]) (by rw [s130, if_neg hj]) (fun i hi => by rw [s129, if_neg (by omega)]) (hOut t ht hne) (gR _ (by omega))
    refine ⟨⟨SimB_fr B u.1 (fun x _ => by rw [agr_K b2, a.2.2.1]) (fun x _ q => gR x (fun e => q (by rw [e]; rcases hh with rfl | rfl; exact Or.inr (Or.inr (Or.inr (Or.inr (Or.inl rfl)))); exact Or.inr (Or.inr (Or.inr (Or.inr (Or.inr rfl))))))) (gL 141 (by omega) (by decide)) (gL 142 (by omega) (by decide)) (gL 143 (by omega) (by decide)) (gL 151 (by omega) (by decide)) (g126 20 (by decide)) (g126 0 (by decide)), ⟨HallZ_fr z1 (hg 71 (fun r hr => by rcases r5 r hr with rfl | rfl | rfl | rfl | rfl <;> decide)), HallZ_fr z2 (hg 77 (fun r hr => by rcases r5 r hr with rfl | rfl | rfl | rfl | rfl <;> decide)), HallZ_fr z3 (hg 83 (fun r hr => by rcases r5 r hr with rfl | rfl | rfl | rfl | rfl <;> decide)), ?_, ?_⟩, ⟨?_, ?_⟩, Tpe_fr T (gI 107 (by omega) (by decide)) (gI 108 (by omega) (by decide)) (gI 135 (by omega) (by decide)) (g126 13 (by decide)), Scl_acc C ⟨g64 16 (by decide), g64 17 (by decide), g64 18 (by decide), s19⟩ (gI 125 (by omega) (by decide)) ⟨g126 11 (by decide), g126 18 (by decide), g126 49 (by decide), s1⟩ (gI 127 (by omega) (by decide)), Drw_fr D (g64 15 (by decide)) (by rw [gI 83 (by omega) (by decide)]) (g126 53 (by decide)) (gI 153 (by omega) (by decide)) (gI 86 (by omega) (by decide)) (gI 87 (by omega) (by decide)), n', nl', lw', HC_fr H' u (hg 65 (fun r hr => by rcases r5 r hr with rfl | rfl | rfl | rfl | rfl <;> decide)) (gR _ (by omega)) (fun i _ => by rw [gI 128 (by omega) (by decide)]), Und_fr U' (gI 103 (by omega) (by decide)) (gI 104 (by omega) (by decide)) (by rw [gI 65 (by omega) (by decide)]) (by rw [gI 65 (by omega) (by decide)]) (g126 8 (by decide)) (fun i _ => by rw [gI 131 (by omega) (by decide)]) (gI 132 (by omega) (by decide))⟩, b2.1.trans a.1, b2.2.1.trans a.2.1⟩
    · rcases ia with ⟨rfl, rfl⟩ | ⟨rfl, rfl⟩
      · exact zh
      · exact HallZ_fr z4 (hOut 90 (Or.inl rfl) (by omega))
    · rcases ia with ⟨rfl, rfl⟩ | ⟨rfl, rfl⟩
      · exact HallZ_fr z5 (hOut 96 (Or.inr rfl) (by omega))
      · exact zh
    · by_cases q : kk = 0
      · have : h = 90 := by rcases ia with z | z <;> omega
        rw [q, this] at nw
        exact nw
      · exact old 0 90 (Or.inl ⟨rfl, rfl⟩) (fun e => q e.symm) i1
    · by_cases q : kk = 1
      · have : h = 96 := by rcases ia with z | z <;> omega
        rw [q, this] at nw
        exact nw
      · exact old 1 96 (Or.inr ⟨rfl, rfl⟩) (fun e => q e.symm) i2
  obtain ⟨f1, f2, f3⟩ := fin _ rfl
  exact hQ2 _ f1 (by omega) (by omega)
