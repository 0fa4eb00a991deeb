variable {d : Nat} {M : hp} {Q : Option Value → hp → Prop}
/-! caps(), fault(), stopped(), status(), count(), drawn(), compare() -/
theorem p_caps (S : Sim M) (K : Alk d 182 [(0, .ref 126)] M Q) : Wp none d 99 0 [(0, .ref 64)] [] M Q := by
  obtain ⟨n, nl, lw, X, H, HO, Y⟩ := Sim_get S
  have C := S.2.2.2.2.1
  rw [k99_0 (x_K64 X), C.1]
  exact qry_end S (q_none M) (q_z S) K (fun Q2 h => by rw [k182_0 (m_9 Y.F), o0_id Y, k182_5 (m_9 Y.F)]; exact h M (Qry_refl M))
theorem p_fault (S : Sim M) (K : Alk d 194 [(0, .ref 126)] M Q) : Wp none d 102 0 [(0, .ref 64)] [] M Q := by
  obtain ⟨n, nl, lw, X, H, HO, Y⟩ := Sim_get S
  have C := S.2.2.2.2.1
  rw [k102_0 (x_K64 X), C.2.1]
  exact qry_end S (q_none M) (q_z S) K (fun Q2 h => by rw [k194_0 (m_9 Y.F), o0_id Y, k194_5 (m_9 Y.F)]; exact h M (Qry_refl M))
theorem p_stopped (S : Sim M) (K : Alk d 264 [(0, .ref 126)] M Q) : Wp none d 103 0 [(0, .ref 64)] [] M Q := by
  obtain ⟨n, nl, lw, X, H, HO, Y⟩ := Sim_get S
  have C := S.2.2.2.2.1
  rw [k103_0 (x_K64 X), C.2.2.1]
  exact qry_end S (q_none M) (q_z S) K (fun Q2 h => by rw [k264_0 (m_9 Y.F), o0_id Y, k264_5 (m_9 Y.F)]; exact h M (Qry_refl M))
theorem p_status (S : Sim M) (K : Alk d 270 [(0, .ref 126)] M Q) : Wp none d 129 0 [(0, .ref 64)] [] M Q := by
  obtain ⟨n, nl, lw, X, H, HO, Y⟩ := Sim_get S
  have C := S.2.2.2.2.1
  rw [k129_0 (x_K64 X), C.2.2.2.1]
  exact qry_end S (q_none M) (q_z S) K (fun Q2 h => by rw [k270_0 (m_9 Y.F), o0_id Y, k270_5 (m_9 Y.F)]; exact h M (Qry_refl M))
theorem mKnownBits {n : Nat} {D T P W : Nat → Int32} {hr rn : Int32} {L : Law} (X : RP M n D T P W hr rn L) : Wp none d 173 0 [(0, .ref 126)] [] M Q = Q (some (.int (fo (fun i x => x ||| W i) 0 n 0))) M := by
  have n7 := X.n7
  have key := for_up (W := fun i s => Wp none d 173 4 [(0, .ref 126), (1, .int s), (2, .int (nI i))] [] M Q) (f := fun i x => x ||| W i) (n := n) (fun i s hi => by
    have e : (14 : Int32) + nI i = nI (14 + i) := by rw [show (14 : Int32) = nI 14 from rfl, nI_add]
    show Wp none d 173 4 [(0, .ref 126), (1, .int s), (2, .int (nI i))] [] M Q = Wp none d 173 4 [(0, .ref 126), (1, .int (s ||| W i)), (2, .int (nI (i + 1)))] [] M Q
    rw [m173_4 X.F (by decide), show (0 : Int32).toNatClampNeg = 0 from rfl, X.n0, k173_11, if_neg (by rw [n_le (by omega) (by omega)]; omega), m173_14 X.F (by rw [e]; exact v54 (by omega)), e, n_cl (by omega), X.rW i (by omega), nI_1]) n 0 0 (by omega)
  rw [k173_0]
  refine (show _ = _ from key).trans ?_
  show Wp none d 173 4 [(0, .ref 126), (1, .int (fo (fun i x => x ||| W i) 0 n 0)), (2, .int (nI n))] [] M Q = _
  rw [m173_4 X.F (by decide), show (0 : Int32).toNatClampNeg = 0 from rfl, X.n0, k173_11, if_pos (by rw [n_le (by omega) (by omega)]; omega), k173_32]
theorem at_5 {i : Nat} {x : Int32} (X : XS M) (hi : i < 5) (e : x = nI i) : Wp none d 145 0 [(0, .ref 125), (1, .int x)] [] M Q = Q (some (.int (hI M 125 i))) M := by
  rw [e, T_at (x_K125 X) (by decide) (by omega), gI_n hi (by omega)]
theorem p_count {w : Int32} (S : Sim M) (K : Alk d 269 [(0, .ref 126), (1, .int w)] M Q) : Wp none d 128 0 [(0, .ref 64), (1, .int w)] [] M Q := by
  obtain ⟨n, nl, lw, X, H, HO, Y⟩ := Sim_get S
  have n7 := Y.n7
  have C := S.2.2.2.2.1
  have F := Y.F
  obtain ⟨_, P, Lw, hc, hk, hb, R, h11, _, _⟩ := H
  have fin : ∀ v, (∀ Q2 : Option Value → hp → Prop, Q2 (some (.int v)) M → Wp none d 269 5 [(0, .ref 126), (1, .int w)] [] M Q2) → Q (some (.int v)) M := by
    intro v hR
    exact qry_end S (q_none M) (q_z S) K (fun Q2 h => by
      rw [k269_0 (m_9 F), o0_id Y]
      exact hR Q2 (h M (Qry_refl M)))
  have c1 : (1 : Int32).toNatClampNeg = 1 := rfl
  have c2 : (2 : Int32).toNatClampNeg = 2 := rfl
  have c3 : (3 : Int32).toNatClampNeg = 3 := rfl
  have c5 : (5 : Int32).toNatClampNeg = 5 := rfl
  have c6 : (6 : Int32).toNatClampNeg = 6 := rfl
  have hk0 : ∀ w', w = w' → ∀ v, (∀ Q2 : Option Value → hp → Prop, Q2 (some (.int v)) M → Wp none d 269 5 [(0, .ref 126), (1, .int w')] [] M Q2) → Q (some (.int v)) M := by
    intro w' e
    rw [← e]
    exact fin
  rw [k128_0]
  by_cases w0 : w = 0
  · rw [w0, k128_1, if_pos rfl, x128_80 X]
    refine hk0 0 w0 _ (fun Q2 h => ?_)
    rw [k269_5, k269_6, if_pos rfl, m269_72 F (by decide), show (0 : Int32).toNatClampNeg = 0 from rfl, P.2.1, ← P.1]
    exact h
  by_cases w1 : w = 1
  · rw [w1, k128_1, if_neg (by decide), if_pos rfl, x128_88 X, k128_92 (x_K65 X), Hall_hungCount X.2.1 HO.2.1]
    simp only [oN]
    rw [k128_95]
    refine hk0 1 w1 _ (fun Q2 h => ?_)
    rw [k269_5, k269_6, if_neg (by decide), if_pos rfl, k269_79, k269_80 (m_9 F), mHungBits Y]
    simp only [oN]
    rw [k269_83, mMany]
    simp only [oN]
    rw [k269_86]
    exact h
  by_cases w2 : w = 2
  · rw [w2, k128_1, if_neg (by decide), if_neg (by decide), if_pos rfl, x128_96 X, k128_100 (x_K65 X), Hall_knownByAny X.2.1 HO.2.1]
    simp only [oN]
    rw [k128_103]
    refine hk0 2 w2 _ (fun Q2 h => ?_)
    rw [k269_5, k269_6, if_neg (by decide), if_neg (by decide), if_pos rfl, k269_87, k269_88 (m_9 F), mKnownBits Y]
    simp only [oN]
    rw [k269_91]
    exact h
  by_cases w3 : w = 3
  · rw [w3, k128_1, if_neg (by decide), if_neg (by decide), if_neg (by decide), if_pos rfl, x128_104 X]
    refine hk0 3 w3 _ (fun Q2 h => ?_)
    rw [k269_5, k269_6, if_neg (by decide), if_neg (by decide), if_neg (by decide), if_pos rfl, m269_92 F (by decide), c1, show hI M 128 1 = nI hc from R.1, ← h11]
    exact h
  by_cases w4 : w = 4
  · rw [w4, k128_1, if_neg (by decide), if_neg (by decide), if_neg (by decide), if_neg (by decide), if_pos rfl, x128_112 X]
    refine hk0 4 w4 _ (fun Q2 h => ?_)
    rw [k269_5, k269_6, if_neg (by decide), if_neg (by decide), if_neg (by decide), if_neg (by decide), if_pos rfl, m269_99 F (by decide), c2, Lw.2.1, ← Lw.1]
    exact h
  by_cases w5 : w = 5
  · obtain ⟨_, _, _, _, _, _, n', nl', lw', _, cU, xU, u1, u2, u3, u4, u5, u6⟩ := S
    rw [w5, k128_1, if_neg (by decide), if_neg (by decide), if_neg (by decide), if_neg (by decide), if_neg (by decide), if_pos rfl, x128_120 X]
    refine hk0 5 w5 _ (fun Q2 h => ?_)
    rw [k269_5, k269_6, if_neg (by decide), if_neg (by decide), if_neg (by decide), if_neg (by decide), if_neg (by decide), if_pos rfl, k269_106 (m_9 F), u5, ← u3]
    exact h
  by_cases w6 : w = 6
  · obtain ⟨_, _, _, T, _⟩ := S
    obtain ⟨b, L, t1, t2, t3, _⟩ := T
    rw [w6, k128_1, if_neg (by decide), if_neg (by decide), if_neg (by decide), if_neg (by decide), if_neg (by decide), if_neg (by decide), if_pos rfl, x128_128 X]
    refine hk0 6 w6 _ (fun Q2 h => ?_)
    rw [k269_5, k269_6, if_neg (by decide), if_neg (by decide), if_neg (by decide), if_neg (by decide), if_neg (by decide), if_neg (by decide), if_pos rfl, k269_111 (m_9 F), t3, ← t2]
    exact h
  by_cases w7 : w = 7
  · rw [w7, k128_1]
    repeat rw [if_neg (by decide)]
    rw [k128_156, k128_159, if_neg (by decide), k128_162, k128_165, if_neg (by decide), x128_168 X, k128_176, at_5 (i := 0) X (by omega) (by decide)]
    simp only [oN]
    rw [k128_179, k128_183]
    refine hk0 7 w7 _ (fun Q2 h => ?_)
    rw [k269_5, k269_6]
    repeat rw [if_neg (by decide)]
    rw [if_pos rfl, m269_116 F (by decide), c1, ← C.2.2.2.2.1]
    exact h
  by_cases w8 : w = 8
  · rw [w8, k128_1]
    repeat rw [if_neg (by decide)]
    rw [k128_156, k128_159, if_neg (by decide), k128_162, k128_165, if_neg (by decide), x128_168 X, k128_176, at_5 (i := 1) X (by omega) (by decide)]
    simp only [oN]
    rw [k128_179, k128_183]
    refine hk0 8 w8 _ (fun Q2 h => ?_)
    rw [k269_5, k269_6]
    repeat rw [if_neg (by decide)]
    rw [if_pos rfl, m269_123 F (by decide), c2, ← C.2.2.2.2.2.1]
    exact h
  by_cases w9 : w = 9
  · rw [w9, k128_1]
    repeat rw [if_neg (by decide)]
    rw [k128_156, k128_159, if_neg (by decide), k128_162, k128_165, if_neg (by decide), x128_168 X, k128_176, at_5 (i := 2) X (by omega) (by decide)]
    simp only [oN]
    rw [k128_179, k128_183]
    refine hk0 9 w9 _ (fun Q2 h => ?_)
    rw [k269_5, k269_6]
    repeat rw [if_neg (by decide)]
    rw [if_pos rfl, m269_130 F (by decide), c3, ← C.2.2.2.2.2.2.1]
    exact h
  by_cases w10 : w = 10
  · rw [w10, k128_1]
    repeat rw [if_neg (by decide)]
    rw [k128_156, k128_159, if_neg (by decide), k128_162, k128_165, if_neg (by decide), x128_168 X, k128_176, at_5 (i := 3) X (by omega) (by decide)]
    simp only [oN]
    rw [k128_179, k128_183]
    refine hk0 10 w10 _ (fun Q2 h => ?_)
    rw [k269_5, k269_6]
    repeat rw [if_neg (by decide)]
    rw [if_pos rfl, m269_137 F (by decide), c5, ← C.2.2.2.2.2.2.2.1]
    exact h
  by_cases w11 : w = 11
  · rw [w11, k128_1]
    repeat rw [if_neg (by decide)]
    rw [k128_156, k128_159, if_neg (by decide), k128_162, k128_165, if_neg (by decide), x128_168 X, k128_176, at_5 (i := 4) X (by omega) (by decide)]
    simp only [oN]
    rw [k128_179, k128_183]
    refine hk0 11 w11 _ (fun Q2 h => ?_)
    rw [k269_5, k269_6]
    repeat rw [if_neg (by decide)]
    rw [if_pos rfl, m269_144 F (by decide), c6, ← C.2.2.2.2.2.2.2.2]
    exact h
  by_cases w12 : w = 12
  · rw [w12, k128_1]
    repeat rw [if_neg (by decide)]
    rw [if_pos rfl, x128_136 X]
    refine hk0 12 w12 _ (fun Q2 h => ?_)
    rw [k269_5, k269_6]
    repeat rw [if_neg (by decide)]
    rw [if_pos rfl, m269_152 F (by decide), c3, ← Lw.2.2.2.2.2.1]
    exact h
  have tr : ∀ (w' : Int32) (q : Nat), w = w' → (13 ≤ w' ∧ w' ≤ 15) → (4 + w') - 13 = nI q → q < 5447 → ¬ w' = 0 → ¬ w' = 1 → ¬ w' = 2 → ¬ w' = 3 → ¬ w' = 4 → ¬ w' = 5 → ¬ w' = 6 → ¬ w' = 7 → ¬ w' = 8 → ¬ w' = 9 → ¬ w' = 10 → ¬ w' = 11 → ¬ w' = 12 → Q (some (.int (hI M 128 q))) M := by
    intro w' q e e2 e3 hq a0 a1 a2 a3 a4 a5 a6 a7 a8 a9 a10 a11 a12
    refine hk0 w' e _ (fun Q2 h => ?_)
    rw [k269_5, k269_6, if_neg a0, if_neg a1, if_neg a2, if_neg a3, if_neg a4, if_neg a5, if_neg a6, if_neg a7, if_neg a8, if_neg a9, if_neg a10, if_neg a11, if_neg a12, k269_159, k269_167, mIn, in_lit (x := 13) (y := 15) (a := 13) (b := 15) rfl rfl]
    simp only [oN]
    rw [k269_170, if_neg (by rw [bz_eq0]; exact fun z => z e2), m269_173 F (by rw [e3]; exact v54 hq), e3, n_cl (by omega), k269_188]
    exact h
  by_cases w13 : w = 13
  · have := tr 13 4 w13 (by decide) (by decide) (by decide) (by decide) (by decide) (by decide) (by decide) (by decide) (by decide) (by decide) (by decide) (by decide) (by decide) (by decide) (by decide) (by decide)
    rw [w13, k128_1]
    repeat rw [if_neg (by decide)]
    rw [if_pos rfl, x128_144 X, k128_152 (x_K65 X), Hall_term X.2.1, if_pos (by decide)]
    simp only [oN]
    rw [k128_155, ← P.2.2.2.2.1.1]
    exact this
  by_cases w14 : w = 14
  · have := tr 14 5 w14 (by decide) (by decide) (by decide) (by decide) (by decide) (by decide) (by decide) (by decide) (by decide) (by decide) (by decide) (by decide) (by decide) (by decide) (by decide) (by decide)
    rw [w14, k128_1]
    repeat rw [if_neg (by decide)]
    rw [if_pos rfl, x128_144 X, k128_152 (x_K65 X), Hall_term X.2.1, if_neg (by decide), if_pos (by decide)]
    simp only [oN]
    rw [k128_155, ← P.2.2.2.2.1.2.1]
    exact this
  by_cases w15 : w = 15
  · have := tr 15 6 w15 (by decide) (by decide) (by decide) (by decide) (by decide) (by decide) (by decide) (by decide) (by decide) (by decide) (by decide) (by decide) (by decide) (by decide) (by decide) (by decide)
    rw [w15, k128_1]
    repeat rw [if_neg (by decide)]
    rw [if_pos rfl, x128_144 X, k128_152 (x_K65 X), Hall_term X.2.1, if_neg (by decide), if_neg (by decide)]
    simp only [oN]
    rw [k128_155, ← P.2.2.2.2.1.2.2]
    exact this
  have fm : Q (some (.int (-1))) M := by
    refine fin _ (fun Q2 h => ?_)
    rw [k269_5, k269_6, if_neg w0, if_neg w1, if_neg w2, if_neg w3, if_neg w4, if_neg w5, if_neg w6, if_neg w7, if_neg w8, if_neg w9, if_neg w10, if_neg w11, if_neg w12, k269_159, k269_167, mIn, in_lit (x := 13) (y := 15) (a := 13) (b := 15) rfl rfl]
    simp only [oN]
    rw [k269_170, if_pos, k269_187, k269_188]
    · exact h
    · rw [bz_eq0]
      rintro ⟨z1, z2⟩
      rw [fa_le, show (13 : Int32).toInt = 13 from rfl] at z1
      rw [fa_le, show (15 : Int32).toInt = 15 from rfl] at z2
      rw [fa_eq, show (13 : Int32).toInt = 13 from rfl] at w13
      rw [fa_eq, show (14 : Int32).toInt = 14 from rfl] at w14
      rw [fa_eq, show (15 : Int32).toInt = 15 from rfl] at w15
      omega
  rw [k128_1, if_neg w0, if_neg w1, if_neg w2, if_neg w3, if_neg w4, if_neg w5, if_neg w6, if_neg w12, if_neg w13, if_neg w14, if_neg w15, k128_156, k128_159]
  by_cases q1 : w < 7
  · rw [if_pos q1, k128_182, k128_183]
    exact fm
  rw [if_neg q1, k128_162, k128_165, if_pos, k128_182, k128_183]
  · exact fm
  · rw [fa_lt, show (11 : Int32).toInt = 11 from rfl]
    rw [fa_lt, show (7 : Int32).toInt = 7 from rfl] at q1
    rw [fa_eq, show (7 : Int32).toInt = 7 from rfl] at w7
    rw [fa_eq, show (8 : Int32).toInt = 8 from rfl] at w8
    rw [fa_eq, show (9 : Int32).toInt = 9 from rfl] at w9
    rw [fa_eq, show (10 : Int32).toInt = 10 from rfl] at w10
    rw [fa_eq, show (11 : Int32).toInt = 11 from rfl] at w11
    omega
theorem in_hat {i : Int32} {n : Nat} (hn : n ≤ 7) : bz ((0 : Int64) ≤ i.toInt64 ∧ i.toInt64 ≤ (nI n).toInt64 - 1) = bz (¬ i < 0 ∧ ¬ nI n ≤ i) := by
  have e2 : (nI n).toInt64 - 1 = (nI n - 1).toInt64 ∧ (nI n - 1).toInt = (n : Int) - 1 ∧ (nI n).toInt = (n : Int) := by
    have : n = 0 ∨ n = 1 ∨ n = 2 ∨ n = 3 ∨ n = 4 ∨ n = 5 ∨ n = 6 ∨ n = 7 := by omega
    rcases this with rfl | rfl | rfl | rfl | rfl | rfl | rfl | rfl <;> decide
  rw [in_lit (x := 0) (y := (nI n).toInt64 - 1) (a := 0) (b := nI n - 1) rfl e2.1]
  have e : ((0 : Int32) ≤ i ∧ i ≤ nI n - 1) ↔ (¬ i < 0 ∧ ¬ nI n ≤ i) := by
    rw [fa_le, fa_le, fa_lt, fa_le, e2.2.1, e2.2.2, show (0 : Int32).toInt = 0 from rfl]
    omega
  unfold bz
  simp only [e]
theorem p_drawn {k w : Int32} (S : Sim M) (K : Alk d 268 [(0, .ref 126), (1, .int k), (2, .int w)] M Q) : Wp none d 125 0 [(0, .ref 64), (1, .int k), (2, .int w)] [] M Q := by
  obtain ⟨n, nl, lw, X, H, HO, Y⟩ := Sim_get S
  have F := Y.F
  have D := S.2.2.2.2.2.1
  have fin : ∀ v, (∀ Q2 : Option Value → hp → Prop, Q2 (some (.int v)) M → Wp none d 268 5 [(0, .ref 126), (1, .int k), (2, .int w)] [] M Q2) → Q (some (.int v)) M := by
    intro v hR
    exact qry_end S (q_none M) (q_z S) K (fun Q2 h => by
      rw [k268_0 (m_9 F), o0_id Y]
      exact hR Q2 (h M (Qry_refl M)))
  rw [k125_0 (x_K64 X)]
  rcases D with ⟨d1, d2⟩ | ⟨d1, m, m7, d3, d4, d5⟩
  · rw [d1, k125_4, if_pos rfl, k125_18]
    refine fin _ (fun Q2 h => ?_)
    rw [k268_5 (m_9 F), d2, k268_15, mIn]
    simp only [oN]
    rw [k268_18, if_pos, k268_31]
    · exact h
    · rw [bz_eq0]
      rintro ⟨z1, z2⟩
      rw [fa_le64, show ((-1 : Int32).toInt64 - 1).toInt = -2 from by decide] at z2
      rw [fa_le64, show (0 : Int64).toInt = 0 from rfl] at z1
      omega
  · have ref : ∀ v, ((¬ (hatOk m k ∧ 0 ≤ w ∧ w ≤ 1) ∧ v = -1) ∨ ∃ j, j < m ∧ k = nI j ∧ ((w = 0 ∧ v = hI M 153 (3 + j)) ∨ (w = 1 ∧ v = hI M 153 (10 + j)))) → Q (some (.int v)) M := by
      intro v hv
      refine fin v (fun Q2 h => ?_)
      rw [k268_5 (m_9 F), d4, k268_15, mIn, in_hat m7]
      simp only [oN]
      rw [k268_18]
      rcases hv with ⟨z, rfl⟩ | ⟨j, hj, rfl, hw⟩
      · by_cases q : ¬ k < 0 ∧ ¬ nI m ≤ k
        case neg =>
          rw [if_pos (by rw [bz_eq0]; exact q), k268_31]
          exact h
        rw [if_neg (by rw [bz_eq0]; exact fun y => y q), k268_21, k268_25, mIn, in_lit (x := 0) (y := 1) (a := 0) (b := 1) rfl rfl]
        simp only [oN]
        rw [k268_28, if_neg (by rw [bz_eq0]; exact fun y => y (fun y2 => z ⟨q, y2⟩)), k268_31]
        exact h
      · have hv' : ¬ nI j < 0 ∧ ¬ nI m ≤ nI j := ⟨nI_pos (by omega), by rw [n_le (by omega) (by omega)]; omega⟩
        rw [if_neg (by rw [bz_eq0]; exact fun y => y hv'), k268_21, k268_25, mIn, in_lit (x := 0) (y := 1) (a := 0) (b := 1) rfl rfl]
        simp only [oN]
        have e3 : (7 : Int32) - 4 + nI j = nI (3 + j) := by rw [show (7 : Int32) - 4 = nI 3 from by decide, nI_add]
        have e10 : (14 : Int32) - 4 + nI j = nI (10 + j) := by rw [show (14 : Int32) - 4 = nI 10 from by decide, nI_add]
        rcases hw with ⟨rfl, rfl⟩ | ⟨rfl, rfl⟩
        · rw [k268_28, if_pos (by decide), m268_33 F, k268_38, if_neg (by decide), k268_41, k268_48 (by decide) (by rw [m_K153 F]) (by rw [m_K153 F, e3, vin_n (by omega)]; exact decide_eq_true (by omega)), e3, n_cl (by omega)]
          exact h
        · rw [k268_28, if_pos (by decide), m268_33 F, k268_38, if_pos (by decide), k268_46, k268_48 (by decide) (by rw [m_K153 F]) (by rw [m_K153 F, e10, vin_n (by omega)]; exact decide_eq_true (by omega)), e10, n_cl (by omega)]
          exact h
    rw [d1, k125_4, if_neg (by decide), x125_7 X, k125_12 (x_K83 X), Hall_hasHat X.2.2.2.2.1 ⟨d3, m7⟩]
    simp only [oN]
    rw [k125_15]
    by_cases q : ¬ k < 0 ∧ ¬ nI m ≤ k
    case neg =>
      rw [if_neg (by rw [bz_eq0]; exact fun y => y q), k125_18]
      exact ref _ (Or.inl ⟨fun y => q y.1, rfl⟩)
    obtain ⟨j, hj, ej⟩ := hatOk_j m7 q
    rw [if_pos (by rw [bz_eq0]; exact fun y => y q), k125_20, k125_21]
    by_cases q0 : w = 0
    · rw [if_neg (fun y => y q0), x125_24 X, k125_32, ej, at_7 (x_K86 X) (by decide) (by omega)]
      simp only [oN]
      rw [k125_35]
      exact ref _ (Or.inr ⟨j, hj, ej, Or.inl ⟨q0, ((d5 j (by omega)).1).symm⟩⟩)
    rw [if_pos q0, k125_36, k125_38]
    by_cases q1 : w = 1
    · rw [if_neg (fun y => y q1), x125_41 X, k125_49, ej, at_7 (x_K87 X) (by decide) (by omega)]
      simp only [oN]
      rw [k125_52, k125_56]
      exact ref _ (Or.inr ⟨j, hj, ej, Or.inr ⟨q1, ((d5 j (by omega)).2).symm⟩⟩)
    · rw [if_pos q1, k125_55, k125_56]
      refine ref _ (Or.inl ⟨?_, rfl⟩)
      rintro ⟨_, z1, z2⟩
      rw [fa_le, show (0 : Int32).toInt = 0 from rfl] at z1
      rw [fa_le, show (1 : Int32).toInt = 1 from rfl] at z2
      rw [fa_eq, show (0 : Int32).toInt = 0 from rfl] at q0
      rw [fa_eq, show (1 : Int32).toInt = 1 from rfl] at q1
      omega
