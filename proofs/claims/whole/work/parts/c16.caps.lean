variable {d : Nat} {M : hp} {Q : Option Value → hp → Prop}
/-! capitals(): class and reference -/
def CmE : List Nat := [64, 83, 84, 85, 86, 87, 116, 117, 118, 119, 120, 121, 126, 144, 146, 147, 131, 153]
theorem Sim_cap {M2 : hp} {n nl : Nat} {lw : Nat → Nat × (Nat → Cls)} (S : Sim M) (H' : HC M 65 (hI M 128) n nl lw) (a : agq (128 :: CmE) [88] M M2) (e128 : hI M2 128 = hI M 128) (e131 : ∀ l, l < 272 → hI M2 131 l = hI M 131 l) (e126 : ∀ k, ¬ k = 1 → ¬ k = 34 → ¬ k = 38 → ¬ k = 53 → hI M2 126 k = hI M 126 k) (e64 : ∀ k, ¬ k = 15 → ¬ k = 19 → hI M2 64 k = hI M 64 k) (s15 : hI M2 64 15 = 1) (s19 : hI M2 64 19 = 0) (s1 : hI M2 126 1 = 0) (s53 : hI M2 126 53 = nI n) (z83 : HallZ M2 83) (s83 : hI M2 83 8 = nI n) (sd : ∀ j, j < 7 → hI M2 153 (3 + j) = hI M2 86 j ∧ hI M2 153 (10 + j) = hI M2 87 j) : Sim M2 := by
  have kb : kB = 154 := rfl
  obtain ⟨B, ⟨z1, z2, z3, z4, z5⟩, ⟨i1, i2⟩, T, C, D, n', nl', lw', H, U⟩ := S
  have gI : ∀ x, ¬ x = 128 → CmE.contains x = false → hI M2 x = hI M x := fun x q0 q => (a.2.2.2.2 x (by rw [List.contains_cons, q]; simp [q0])).1
  have gL : ∀ x, ¬ x = 128 → CmE.contains x = false → hL M2 x = hL M x := fun x q0 q => (a.2.2.2.2 x (by rw [List.contains_cons, q]; simp [q0])).2
  have gR : ∀ x, ¬ x = 88 → hR M2 x = hR M x := fun x q => a.2.2.2.1 x (by simp [q])
  have u : upk M M2 := upk_agq a (by intro x q; simp [CmE] at q; omega) (by intro x q; simp at q; omega)
  have r5 : ∀ r, r ≤ 4 → r = 0 ∨ r = 1 ∨ r = 2 ∨ r = 3 ∨ r = 4 := by omega
  have hh : ∀ h, (∀ r, r ≤ 4 → ¬ h + r = 128 ∧ CmE.contains (h + r) = false) → ∀ r, r ≤ 4 → hI M2 (h + r) = hI M (h + r) := fun h q r hr => gI _ (q r hr).1 (q r hr).2
  have h65 := hh 65 (fun r hr => by rcases r5 r hr with rfl | rfl | rfl | rfl | rfl <;> decide)
  have h71 := hh 71 (fun r hr => by rcases r5 r hr with rfl | rfl | rfl | rfl | rfl <;> decide)
  have h77 := hh 77 (fun r hr => by rcases r5 r hr with rfl | rfl | rfl | rfl | rfl <;> decide)
  have h90 := hh 90 (fun r hr => by rcases r5 r hr with rfl | rfl | rfl | rfl | rfl <;> decide)
  have h96 := hh 96 (fun r hr => by rcases r5 r hr with rfl | rfl | rfl | rfl | rfl <;> decide)
  refine ⟨SimB_fr B u.1 (fun x _ => by rw [a.2.2.1]) (fun x _ q => gR x (fun e => q (by rw [e]; exact Or.inr (Or.inr (Or.inr (Or.inl rfl)))))) (gL 141 (by decide) (by decide)) (gL 142 (by decide) (by decide)) (gL 143 (by decide) (by decide)) (gL 151 (by decide) (by decide)) (e126 20 (by decide) (by decide) (by decide) (by decide)) (e126 0 (by decide) (by decide) (by decide) (by decide)), ⟨HallZ_fr z1 h71, HallZ_fr z2 h77, z83, HallZ_fr z4 h90, HallZ_fr z5 h96⟩, ⟨Im1_fr i1 u (gI 102 (by decide) (by decide)) (gI 130 (by decide) (by decide)) (gI 129 (by decide) (by decide)) h90 (gR _ (by omega)), Im1_fr i2 u (gI 102 (by decide) (by decide)) (gI 130 (by decide) (by decide)) (gI 129 (by decide) (by decide)) h96 (gR _ (by omega))⟩, Tpe_fr T (gI 107 (by decide) (by decide)) (gI 108 (by decide) (by decide)) (gI 135 (by decide) (by decide)) (e126 13 (by decide) (by decide) (by decide) (by decide)), Scl_acc C ⟨e64 16 (by decide) (by decide), e64 17 (by decide) (by decide), e64 18 (by decide) (by decide), s19⟩ (gI 125 (by decide) (by decide)) ⟨e126 11 (by decide) (by decide) (by decide) (by decide), e126 18 (by decide) (by decide) (by decide) (by decide), e126 49 (by decide) (by decide) (by decide) (by decide), s1⟩ (gI 127 (by decide) (by decide)), Or.inr ⟨s15, n, H'.2.1.2.2.1, s83, s53, sd⟩, n', nl', lw', HC_fr H u h65 (gR _ (by omega)) (fun l _ => by rw [e128]), Und_fr U (gI 103 (by decide) (by decide)) (gI 104 (by decide) (by decide)) (by rw [gI 65 (by decide) (by decide)]) (by rw [gI 65 (by decide) (by decide)]) (e126 8 (by decide) (by decide) (by decide) (by decide)) e131 (gI 132 (by decide) (by decide))⟩
theorem v17 {j : Nat} (h : j < 17) : vin (nI j) 17 = true := by
  rw [vin_n (by omega)]
  exact decide_eq_true h
theorem mCapEnd {M0 : hp} {n : Nat} {D T : Nat → Int32} {rn : Int32} {L : Law} {s : DSt} {x1 x2 x4 v : Int32} (C : MCap M0 M n D T rn L s) (hv : 0 ≤ v) (H : ∀ M2, agr (128 :: [126, 144, 146, 147, 131, 153]) M0 M2 → hI M2 128 = hI M0 128 → (∀ l, l < 272 → hI M2 131 l = hI M0 131 l) → (∀ k, ¬ k = 1 → ¬ k = 34 → ¬ k = 38 → ¬ k = 53 → hI M2 126 k = hI M0 126 k) → hI M2 126 1 = 0 → hI M2 126 53 = nI n → (∀ j, j < 7 → hI M2 153 (3 + j) = s.1 j ∧ hI M2 153 (10 + j) = s.2.1 j) → Q (some (.int v)) M2) : Wp none d 267 146 [(0, .ref 126), (1, .int x1), (2, .int x2), (3, .int v), (4, .int x4)] [] M Q := by
  obtain ⟨Y, a, e1, e2, e3, e4, e5, e6, e7, e8⟩ := C
  have key := for_0 (W := fun i => Wp none d 267 149 [(0, .ref 126), (1, .int x1), (2, .int x2), (3, .int v), (4, .int (nI i))] [] (sIs M 153 0 i (fun i => hI M 128 (4 + i))) Q) (n := 17) (fun i hi => by
    have F' : MF (sIs M 153 0 i (fun i => hI M 128 (4 + i))) := Y.F
    have e : (4 : Int32) + nI i = nI (4 + i) := by rw [show (4 : Int32) = nI 4 from rfl, nI_add]
    have st := sIs_1 M 153 0 i (fun i => hI M 128 (4 + i))
    rw [Nat.zero_add] at st
    show Wp none d 267 149 [(0, .ref 126), (1, .int x1), (2, .int x2), (3, .int v), (4, .int (nI i))] [] (sIs M 153 0 i (fun i => hI M 128 (4 + i))) Q = Wp none d 267 149 [(0, .ref 126), (1, .int x1), (2, .int x2), (3, .int v), (4, .int (nI (i + 1)))] [] (sIs M 153 0 (i + 1) (fun i => hI M 128 (4 + i))) Q
    rw [k267_149, k267_153, show (17 : Int32) = nI 17 from rfl, if_neg (by rw [n_le (by omega) (by omega)]; omega), m267_156 F' (by rw [e]; exact v54 (by omega)) (v17 hi), e, n_cl (by omega), n_cl (by omega), hI_sIs_a (a' := 128) (by decide), st, k267_172, nI_1]) 17 0 (by omega)
  have key2 : Wp none d 267 149 [(0, .ref 126), (1, .int x1), (2, .int x2), (3, .int v), (4, .int 0)] [] M Q = Wp none d 267 149 [(0, .ref 126), (1, .int x1), (2, .int x2), (3, .int v), (4, .int (nI 17))] [] (sIs M 153 0 17 (fun i => hI M 128 (4 + i))) Q := by
    have := key
    simp only [sIs_0] at this
    exact this
  have F1 : MF (sIs M 153 0 17 (fun i => hI M 128 (4 + i))) := Y.F
  have F2 : MF (sI (sIs M 153 0 17 (fun i => hI M 128 (4 + i))) 126 53 (nI n)) := Y.F
  have F3 : MF (sIs (sI (sIs M 153 0 17 (fun i => hI M 128 (4 + i))) 126 53 (nI n)) 128 4 17 (fun i => hI (sI (sIs M 153 0 17 (fun i => hI M 128 (4 + i))) 126 53 (nI n)) 131 (17 * 16 + i))) := Y.F
  rw [k267_146, key2, k267_149, k267_153, if_pos (by decide), m267_178 F1 (by decide), show (0 : Int32).toNatClampNeg = 0 from rfl, hI_sIs_a (a' := 128) (by decide), Y.n0, k267_188, m267_191 F2, show (16 : Int32) = nI 16 from rfl, mPut F2 (by omega)]
  simp only [oZ]
  rw [k267_194, m267_196 F3, mTell_p F3 hv]
  simp only [oN]
  rw [k267_199]
  refine H _ ?_ ?_ ?_ ?_ ?_ ?_ ?_
  · exact agr_trans (agr_mono a (by intro x q; simp at q ⊢; omega)) (agr_trans (agr_trans (agr_trans (agr_sIs (by decide)) (agr_sI (by decide))) (agr_sIs (by decide))) (agr_sI (by decide)))
  · funext l
    rw [hI_sI_a (by decide)]
    by_cases c : 4 ≤ l ∧ l < 21
    · have := hI_sIs_s (M := sI (sIs M 153 0 17 (fun i => hI M 128 (4 + i))) 126 53 (nI n)) (a := 128) (m := 4) (n := 17) (k' := l - 4) (g := fun i => hI (sI (sIs M 153 0 17 (fun i => hI M 128 (4 + i))) 126 53 (nI n)) 131 (17 * 16 + i)) (by omega)
      rw [show 4 + (l - 4) = l by omega] at this
      rw [this, hI_sI_a (by decide), hI_sIs_a (by decide)]
      have := e3 (l - 4) (by omega)
      rw [show 4 + (l - 4) = l by omega] at this
      exact this
    · rw [hI_sIs_k (by omega), hI_sI_a (by decide), hI_sIs_a (by decide)]
      exact e4 l c
  · intro l hl
    rw [hI_sI_a (by decide), hI_sIs_a (by decide), hI_sI_a (by decide), hI_sIs_a (by decide)]
    exact e5 l hl
  · intro k q1 q2 q3 q4
    rw [hI_sI_k q1, hI_sIs_a (by decide), hI_sI_k q4, hI_sIs_a (by decide)]
    exact e1 k q2 q3
  · exact hI_sI_s _ _ _ _
  · rw [hI_sI_k (by decide), hI_sIs_a (by decide), hI_sI_s]
  · intro j hj
    have g : ∀ i, i < 17 → hI (sI (sIs (sI (sIs M 153 0 17 (fun i => hI M 128 (4 + i))) 126 53 (nI n)) 128 4 17 (fun i => hI (sI (sIs M 153 0 17 (fun i => hI M 128 (4 + i))) 126 53 (nI n)) 131 (17 * 16 + i))) 126 1 0) 153 i = hI M 128 (4 + i) := fun i hi => by
      rw [hI_sI_a (by decide), hI_sIs_a (by decide), hI_sI_a (by decide), hI_sIs_0 hi]
    refine ⟨(g (3 + j) (by omega)).trans ?_, (g (10 + j) (by omega)).trans ?_⟩
    · rw [show 4 + (3 + j) = 7 + j by omega]; exact Y.rP j hj
    · rw [show 4 + (10 + j) = 14 + j by omega]; exact Y.rW j hj
theorem p_capitals {sd N : Int32} (S : Sim M) (K : Alk d 267 [(0, .ref 126), (1, .int sd), (2, .int N)] M Q) : Wp none d 124 0 [(0, .ref 64), (1, .int sd), (2, .int N)] [] M Q := by
  have kb : kB = 154 := rfl
  obtain ⟨n, nl, lw, X, H, HO, Y⟩ := Sim_get S
  have n7 := Y.n7
  have lit : ((1000000 : Int32)).toInt64 = (1000000 : Int64) := by decide
  have bad : ¬ ((0 ≤ sd ∧ sd ≤ 1000000) ∧ 1 ≤ N ∧ N ≤ 60) → Wp none d 124 22 [(0, .ref 64), (1, .int sd), (2, .int N)] [] M Q := by
    intro c
    rw [k124_22, x124_24 X, T_refused X]
    simp only [oN]
    rw [k124_27]
    refine p_refused (v := 1) (Or.inl rfl) S K (fun Q2 a h => ?_)
    have Y1 := RP_64 Y a (by decide)
    have fin : Wp none d 267 29 [(0, .ref 126), (1, .int sd), (2, .int N)] [] (refM M (-(nI 1))) Q2 := by
      rw [k267_29, m267_31 Y1.F, show (-1 : Int32) = -(nI 1) from by decide, mTell_n Y1.F (by omega) (by omega)]
      simp only [oN]
      rw [k267_34]
      exact h
    rw [m267_0 Y1.F, o0_id Y1, k267_5, k267_11, mIn, in_lit (x := 0) (y := 1000000) (a := 0) (b := 1000000) rfl lit.symm]
    simp only [oN]
    rw [k267_14]
    by_cases c1 : 0 ≤ sd ∧ sd ≤ 1000000
    case neg =>
      rw [if_pos (by rw [bz_eq0]; exact c1)]
      exact fin
    rw [if_neg (by rw [bz_eq0]; exact fun q => q c1), k267_17, k267_23, mIn, in_lit (x := 1) (y := 60) (a := 1) (b := 60) rfl rfl]
    simp only [oN]
    rw [k267_26, if_neg (by rw [bz_eq0]; exact fun q => q (fun z => c ⟨c1, z⟩))]
    exact fin
  rw [k124_0, k124_1]
  by_cases c1 : sd < 0
  · rw [if_pos c1]
    exact bad (fun q => i_le.mp q.1.1 c1)
  rw [if_neg c1, k124_4, k124_8]
  by_cases c2 : (1000000 : Int32) < sd
  · rw [if_pos c2]
    exact bad (fun q => i_le.mp q.1.2 c2)
  rw [if_neg c2, k124_11, k124_13]
  by_cases c3 : N < 1
  · rw [if_pos c3]
    exact bad (fun q => i_le.mp q.2.1 c3)
  rw [if_neg c3, k124_16, k124_19]
  by_cases c4 : N ≤ 60
  case neg =>
    rw [if_neg c4]
    exact bad (fun q => c4 q.2.2)
  have g1 : 0 ≤ sd ∧ sd ≤ 1000000 := ⟨i_le.mpr c1, i_le.mpr c2⟩
  have g2 : 1 ≤ N ∧ N ≤ 60 := ⟨i_le.mpr c3, c4⟩
  have go : ∀ {M1 : hp} {Q2 : Option Value → hp → Prop} (F : MF M1), sI M1 126 0 0 = M1 → Wp none d 267 35 [(0, .ref 126), (1, .int sd), (2, .int N)] [] M1 Q2 → Wp none d 267 0 [(0, .ref 126), (1, .int sd), (2, .int N)] [] M1 Q2 := by
    intro M1 Q2 F o0 w
    rw [m267_0 F, o0, k267_5, k267_11, mIn, in_lit (x := 0) (y := 1000000) (a := 0) (b := 1000000) rfl lit.symm]
    simp only [oN]
    rw [k267_14, if_neg (by rw [bz_eq0]; exact fun q => q g1), k267_17, k267_23, mIn, in_lit (x := 1) (y := 60) (a := 1) (b := 60) rfl rfl]
    simp only [oN]
    rw [k267_26, if_pos (by rw [bz_eq0]; exact fun q => q g2)]
    exact w
  rw [if_pos c4, x124_28 X, show hI M 65 8 = nI n from HO.2.1.1, k124_35]
  by_cases c5 : n = 0
  · rw [if_neg (by rw [c5]; decide), k124_38, x124_41 X, T_refused X]
    simp only [oN]
    rw [k124_44]
    refine p_refused (v := 3) (Or.inr (Or.inr (Or.inl rfl))) S K (fun Q2 a h => ?_)
    have Y1 := RP_64 Y a (by decide)
    refine go Y1.F (o0_id Y1) ?_
    rw [m267_35 Y1.F (by decide), show (0 : Int32).toNatClampNeg = 0 from rfl, Y1.n0, k267_41, if_neg (by rw [c5]; exact fun q => q rfl), k267_44, m267_47 Y1.F, show (-3 : Int32) = -(nI 3) from by decide, mTell_n Y1.F (by omega) (by omega)]
    simp only [oN]
    rw [k267_50]
    exact h
  obtain ⟨m, hm, rfl⟩ := n_of (b := 1000000) c1 g1.2 (by omega)
  obtain ⟨k, hk, rfl⟩ := n_of (b := 60) (fun q => c3 (by rw [fa_lt, show (1 : Int32).toInt = 1 from rfl]; rw [fa_lt, show (0 : Int32).toInt = 0 from rfl] at q; omega)) c4 (by omega)
  rw [if_pos (by rw [show (0 : Int32) = nI 0 from rfl, n_lt (by omega) (by omega)]; omega), x124_45 X, x124_53 X X.2.2.2.2.1.2.1]
  refine copy_ok HO X.2.2.2.2.1 S.2.1.2.2.1 (Or.inl (by omega)) (by omega) (fun M1 a l O => ?_)
  have X1 : XS M1 := XS_same (sameS_agq a (by intro x q; simp at q; exact Or.inr (Or.inr (Or.inr (Or.inl q))))) X
  have X2 : XS (sI M1 64 15 1) := X1
  simp only [oZ]
  rw [x124_56 X1, k124_61]
  obtain ⟨f, hf⟩ : ∃ f, capF (lawOf (hI M 128 3) lw) (hI M 66) (hI M 67) n (hI M 65 7) k (hI M 68, hI M 69, hI M 65 5, m) 0 = f := ⟨_, rfl⟩
  have hf0 : 0 ≤ f.1 := by
    obtain ⟨w, w1, w2⟩ := capF_nn (L := lawOf (hI M 128 3) lw) (D := hI M 66) (T := hI M 67) (rn := hI M 65 7) n7 k (hI M 68, hI M 69, hI M 65 5, m) 0
    rw [show nI 0 = 0 from rfl, hf] at w2
    rw [w2]
    exact nn_n (by omega)
  have b1 : agr [64] M1 (sI M1 64 15 1) := agr_sI (by decide)
  have C0 : CapI M (sI M1 64 15 1) n (lawOf (hI M 128 3) lw) (hI M 68, hI M 69, hI M 65 5, m) := by
    refine ⟨agq_trans (agq_mono a (by intro x q; simp [cE, CpE] at q ⊢; omega) (by intro x q; simp at q ⊢; exact q)) (agq_of (agr_mono b1 (by intro x q; simp [CpE] at q ⊢; omega))), HallO_agq (agq_of (B := []) b1) (by intro x q; simp at q; omega) (by intro x q; simp at q) (by decide) (by decide) (by decide) (by decide) (by decide) (by decide) (by decide) O, ?_, ?_, ?_, ?_, ?_, ?_, ?_, ?_, ?_⟩
    · funext j; rw [hI_sI_a (by decide)]; exact congrFun (l.1 1 (by omega) (by omega)) j
    · funext j; rw [hI_sI_a (by decide)]; exact congrFun (l.1 2 (by omega) (by omega)) j
    · funext j; rw [hI_sI_a (by decide)]; exact congrFun (l.1 3 (by omega) (by omega)) j
    · funext j; rw [hI_sI_a (by decide)]; exact congrFun (l.1 4 (by omega) (by omega)) j
    · rw [hI_sI_a (by decide)]; exact l.2.1 5 (by omega) (by omega)
    · rw [hI_sI_a (by decide)]; exact l.2.1 7 (by omega) (by omega)
    · show m < 1000003; omega
    · exact hI_sI_s _ _ _ _
    · intro j q
      rw [hI_sI_k q, (a.2.2.2.2 64 (by decide)).1]
  refine T_capLoop (f := f) X (by omega) hk (fun M' x3 x5 C => ?_) k 0 (hI M 68, hI M 69, hI M 65 5, m) 0 (sI M1 64 15 1) (by omega) C0 hf
  have X' := cap_X X C
  rw [k124_116, x124_119 X', T_accepted X']
  simp only [oN]
  rw [k124_122]
  obtain ⟨ca, cO, c84, c85, c86, c87, c835, c837, cm, c6415, c64⟩ := C
  refine K _ _ (fun Q2 h => ?_)
  have ba : agr [64] M' (sI M' 64 19 0) := agr_sI (by decide)
  have qa : agq CpE [88] M (sI M' 64 19 0) := agq_trans ca (agq_of (agr_mono ba (by intro x q; simp [CpE] at q ⊢; omega)))
  have q126 : hI (sI M' 64 19 0) 126 = hI M 126 := (qa.2.2.2.2 126 (by decide)).1
  have q128 : hI (sI M' 64 19 0) 128 = hI M 128 := (qa.2.2.2.2 128 (by decide)).1
  have Y1 : RP (sI M' 64 19 0) n (hI M 66) (hI M 67) (hI M 68) (hI M 69) (hI M 65 5) (hI M 65 7) (lawOf (hI M 128 3) lw) := RP_of Y (MF_126 Y.F (fun x _ => by rw [qa.2.2.1]) (qa.2.2.2.1 126 (by decide))) q128 (by rw [q126]; exact Y.o20) (by rw [q126]; exact Y.o0)
  generalize hM1 : sI M' 64 19 0 = Ms at *
  refine go Y1.F (o0_id Y1) ?_
  have FK : MF (sIs Ms 131 (17 * 16) 17 (fun i => hI Ms 128 (4 + i))) := Y1.F
  rw [m267_35 Y1.F (by decide), show (0 : Int32).toNatClampNeg = 0 from rfl, Y1.n0, k267_41, if_pos (by rw [show (0 : Int32) = nI 0 from rfl, n_eq (by omega) (by omega)]; exact c5), k267_51, m267_54 Y1.F, show (16 : Int32) = nI 16 from rfl, mKeep Y1.F (by omega)]
  simp only [oZ]
  rw [m267_57 FK, nI_l (by omega), k267_63]
  have CK : MCap Ms (sL (sIs Ms 131 (17 * 16) 17 (fun i => hI Ms 128 (4 + i))) 126 51 (lN m)) n (hI M 66) (hI M 67) (hI M 65 7) (lawOf (hI M 128 3) lw) (hI M 68, hI M 69, hI M 65 5, m) := by
    have e : hI (sIs Ms 131 (17 * 16) 17 (fun i => hI Ms 128 (4 + i))) 128 = hI Ms 128 := by funext l; exact hI_sIs_a (by decide)
    refine ⟨RP_sL (RP_of Y1 FK e (by rw [hI_sIs_a (by decide)]; exact Y1.o20) (by rw [hI_sIs_a (by decide)]; exact Y1.o0)), agr_trans (agr_sIs (by decide)) (agr_sL (by decide)), fun j _ _ => ?_, hL_sL_s _ _ _ _, fun i hi => ?_, fun j _ => ?_, fun j hj => ?_, ?_, HO.2.2.1, HO.2.2.2.1⟩
    · rw [hI_sL, hI_sIs_a (by decide)]
    · rw [hI_sL]; exact hI_sIs_s (m := 272) hi
    · rw [hI_sL, e]
    · rw [hI_sL]; exact hI_sIs_k (by omega)
    · show m < 1000003; omega
  refine mCapLoop (f := f) (by omega) hk (fun M3 x4 C3 => ?_) k 0 (hI M 68, hI M 69, hI M 65 5, m) 0 _ (by omega) CK hf
  refine mCapEnd C3 hf0 (fun M2 d1 d2 d3 d4 d5 d6 d7 => ?_)
  have dI : ∀ x, CpE.contains x = true → hI M2 x = hI Ms x := by
    intro x q
    refine agr_I d1 ?_
    simp [CpE] at q
    simp
    omega
  have m64 : ∀ j, ¬ j = 19 → hI Ms 64 j = hI M' 64 j := fun j q => by rw [← hM1, hI_sI_k q]
  have mo : ∀ x j, ¬ x = 64 → hI Ms x j = hI M' x j := fun x j q => by rw [← hM1, hI_sI_a q]
  refine h M2 (Sim_cap S H (agq_trans (agq_mono qa (by intro x q; simp [CpE, CmE] at q ⊢; omega) (fun x q => q)) (agq_of (agr_mono d1 (by intro x q; simp [CmE] at q ⊢; omega)))) (d2.trans q128) (fun l hl => (d3 l hl).trans (by rw [(qa.2.2.2.2 131 (by decide)).1])) (fun j q1 q2 q3 q4 => (d4 j q1 q2 q3 q4).trans (by rw [q126])) (fun j q1 q2 => by rw [dI 64 (by decide), m64 j q2]; exact c64 j q1) (by rw [dI 64 (by decide), m64 15 (by decide)]; exact c6415) (by rw [dI 64 (by decide), ← hM1, hI_sI_s]) d5 d6 ?_ ?_ (fun j hj => ?_)) ?_ ?_
  · intro r r1 r2 j hj
    have := cO.2.2.2.2.2.1 r r1 r2 j hj
    rw [dI (83 + r) (by have : r = 1 ∨ r = 2 ∨ r = 3 ∨ r = 4 := by omega
                        rcases this with rfl | rfl | rfl | rfl <;> decide), mo _ _ (by omega)]
    exact this
  · rw [dI 83 (by decide), mo _ _ (by decide)]; exact cO.2.1.1
  · rw [dI 86 (by decide), dI 87 (by decide), mo _ _ (by decide), mo _ _ (by decide), c86, c87]
    exact d7 j hj
  · rw [d1.1, qa.1]; omega
  · rw [d1.2.1, qa.2.1]; omega
