variable {d : Nat} {M : hp} {Q : Option Value → hp → Prop}
/-! end(), feed() -/
theorem Tpe_of {L : Nat} (h : L ≤ 400) (h1 : hI M 107 1 = nI L) (h2 : hI M 126 13 = nI L) (h3 : ∀ i, i < L → hI M 108 i = hI M 135 i ∧ sm (hI M 135 i)) : Tpe M := by
  refine ⟨fun i => if i < L then (hI M 135 i).toNatClampNeg else 0, L, h, h1, h2, fun i hi => ?_, fun i => ?_⟩
  · obtain ⟨e, v, v1, v2⟩ := h3 i hi
    show hI M 108 i = nI (if i < L then (hI M 135 i).toNatClampNeg else 0) ∧ hI M 135 i = nI (if i < L then (hI M 135 i).toNatClampNeg else 0)
    rw [e, if_pos hi, v2, n_cl (by omega)]
    exact ⟨rfl, rfl⟩
  · by_cases c : i < L
    · obtain ⟨_, v, v1, v2⟩ := h3 i c
      show (if i < L then (hI M 135 i).toNatClampNeg else 0) < 256
      rw [if_pos c, v2, n_cl (by omega)]
      exact v1
    · show (if i < L then (hI M 135 i).toNatClampNeg else 0) < 256
      rw [if_neg c]
      omega
theorem Tpe_get (T : Tpe M) : ∃ L, L ≤ 400 ∧ hI M 107 1 = nI L ∧ hI M 126 13 = nI L ∧ ∀ i, i < L → hI M 108 i = hI M 135 i ∧ sm (hI M 135 i) := by
  obtain ⟨b, L, h1, h2, h3, h4, h5⟩ := T
  exact ⟨L, h1, h2, h3, fun i hi => ⟨(h4 i hi).1.trans (h4 i hi).2.symm, b i, h5 i, (h4 i hi).2⟩⟩
/-- only the tape changes -/
theorem Sim_tape {M2 : hp} (S : Sim M) (a : agr [107, 108, 126, 135] M M2) (e : ∀ k, ¬ k = 13 → hI M2 126 k = hI M 126 k) (T : Tpe M2) : Sim M2 := by
  obtain ⟨B, Z, I, _, C, D, n, nl, lw, H, U⟩ := S
  have lo : low [107, 108, 126, 135] := by intro x q; simp at q; have : kB = 154 := rfl; omega
  have e65 : hI M2 65 = hI M 65 := agr_I a (by decide)
  have e64 : hI M2 64 = hI M 64 := agr_I a (by decide)
  exact ⟨SimB_E B a (by decide) (e 20 (by decide)) (e 0 (by decide)), Scr_E Z a (by decide), Img_E I a lo (by decide), T, Scl_fr C e64 (agr_I a (by decide)) (agr_I a (by decide)) (fun k q => e k (by omega)), Drw_E D a (by decide) (by rw [e64]) (e 53 (by decide)), n, nl, lw, HC_E H a lo (by decide), Und_E U a (by decide) (by rw [e65]) (by rw [e65]) (e 8 (by decide))⟩
theorem p_end {w : Int32} (S : Sim M) (K : Alk d 185 [(0, .ref 126), (1, .int w)] M Q) : Wp none d 97 0 [(0, .ref 64), (1, .int w)] [] M Q := by
  obtain ⟨n, nl, lw, X, H, HO, Y⟩ := Sim_get S
  obtain ⟨L, L4, t1, t2, t3⟩ := Tpe_get S.2.2.2.1
  have F := Y.F
  rw [k97_0, k97_1]
  have bad : (w < 0 ∨ ¬ w ≤ nI L) → Q (some (.int (-1))) M := by
    intro c
    refine K _ _ (fun Q2 h => ?_)
    have h1 := h M S (by omega) (by omega)
    rw [k185_0 (m_9 F), o0_id Y, k185_5, k185_6]
    by_cases q : w < 0
    · rw [if_pos q, k185_17]; exact h1
    · rw [if_neg q, k185_9 (m_9 F), t2, k185_14, if_neg (c.resolve_left q), k185_17]; exact h1
  by_cases c : w < 0
  · rw [if_pos c, k97_15]
    exact bad (Or.inl c)
  rw [if_neg c, x97_4 X, t1, k97_12]
  by_cases c2 : w ≤ nI L
  case neg =>
    rw [if_neg c2, k97_15]
    exact bad (Or.inr c2)
  obtain ⟨m, hm, rfl⟩ := n_of (b := L) c c2 (by omega)
  rw [if_pos c2, x97_17 X, k97_25]
  refine K _ _ (fun Q2 h => ?_)
  have a1 : agr [107] M (sI M 107 1 (nI m)) := agr_sI (by decide)
  have Y1 := RP_64 Y a1 (by decide)
  have e126 : hI (sI M 107 1 (nI m)) 126 = hI M 126 := agr_I a1 (by decide)
  rw [k185_0 (m_9 Y1.F), o0_id Y1, k185_5, k185_6, if_neg c, k185_9 (m_9 Y1.F), e126, t2, k185_14, if_pos c2, k185_19 (m_9 Y1.F), k185_24]
  have aa : agr [107, 108, 126, 135] M (sI (sI M 107 1 (nI m)) 126 13 (nI m)) := agr_trans (agr_mono a1 (by intro x q; simp at q ⊢; omega)) (agr_sI (by decide))
  refine h _ (Sim_tape S aa (fun k q => by rw [hI_sI_k q, e126]) (Tpe_of (L := m) (by omega) (by rw [hI_sI_a (by decide), hI_sI_s]) (hI_sI_s _ _ _ _) (fun i hi => ?_))) (by rw [aa.1]; omega) (by rw [aa.2.1]; omega)
  rw [hI_sI_a (by decide), hI_sI_a (by decide), hI_sI_a (by decide), hI_sI_a (by decide)]
  exact t3 i (by omega)
/-- bytes of m numbers from n on -/
def fdF (v : Nat → Int32) (n m : Nat) (f : Nat → Int32) : Nat → Int32 := fun k => if n ≤ k ∧ k < n + 4 * m then byF (v ((k - n) / 4)) ((k - n) % 4) else f k
theorem fd_0 (v : Nat → Int32) (n : Nat) (f : Nat → Int32) : fdF v n 0 f = f := by
  funext k
  unfold fdF
  rw [if_neg (by omega)]
theorem fd_s {v : Nat → Int32} {n m : Nat} {f g g' : Nat → Int32} (h : g = fdF v n m f) (h' : ∀ k, g' k = if n + 4 * m ≤ k ∧ k < n + 4 * m + 4 then byF (v m) (k - (n + 4 * m)) else g k) : g' = fdF v n (m + 1) f := by
  funext k
  rw [h' k, h]
  unfold fdF
  by_cases c : n + 4 * m ≤ k ∧ k < n + 4 * m + 4
  · rw [if_pos c, if_pos (by omega), show (k - n) / 4 = m by omega, show (k - n) % 4 = k - (n + 4 * m) by omega]
  · rw [if_neg c]
    by_cases c2 : n ≤ k ∧ k < n + 4 * m
    · rw [if_pos c2, if_pos (by omega)]
    · rw [if_neg c2, if_neg (by omega)]
theorem by_sm (v : Int32) (k : Nat) : sm (byF v k) := by
  unfold byF
  rw [Int32.and_comm]
  exact sm_and _ ⟨255, by omega, rfl⟩
theorem mFour {n : Nat} {v : Int32} (F : MF M) (hn : hI M 126 13 = nI n) (h4 : n + 4 ≤ 400) (H : ∀ M', agr [126, 135] M M' → hI M' 126 13 = nI (n + 4) → (∀ k, ¬ k = 13 → hI M' 126 k = hI M 126 k) → (∀ k, hI M' 135 k = if n ≤ k ∧ k < n + 4 then byF v (k - n) else hI M 135 k) → Q none M') : Wp none d 183 0 [(0, .ref 126), (1, .int v)] [] M Q := by
  have stp : ∀ (j : Nat) (M1 : hp), j < 4 → MF M1 → hI M1 126 13 = nI (n + j) → Wp none d 183 3 [(0, .ref 126), (1, .int v), (2, .int (nI (24 - 8 * j)))] [] M1 Q = Wp none d 183 3 [(0, .ref 126), (1, .int v), (2, .int (nI (24 - 8 * j) - 8))] [] (sI (sI M1 135 (n + j) (byF v j)) 126 13 (nI (n + j + 1))) Q := by
    intro j M1 hj F1 h13
    have F2 : MF (sI M1 135 (n + j) (byF v j)) := F1
    rw [k183_3, k183_4, if_neg (nI_pos (by omega)), m183_7 F1 (by rw [h13, vin_n (by omega)]; exact decide_eq_true (by omega)), h13, n_cl (by omega), show (v >>> (nI (24 - 8 * j) &&& 31)) &&& 255 = byF v j from rfl, k183_23 (m_9 F2), hI_sI_a (by decide), h13, nI_1, k183_33, show (nI (24 - 8 * j) + (-8) : Int32) = nI (24 - 8 * j) - 8 from by rw [Int32.sub_eq_add_neg]]
  have m0 : Wp none d 183 0 [(0, .ref 126), (1, .int v)] [] M Q = Wp none d 183 3 [(0, .ref 126), (1, .int v), (2, .int (nI (24 - 8 * 0)))] [] M Q := k183_0
  have F1 : MF (sI (sI M 135 (n + 0) (byF v 0)) 126 13 (nI (n + 0 + 1))) := F
  have F2 : MF (sI (sI (sI (sI M 135 (n + 0) (byF v 0)) 126 13 (nI (n + 0 + 1))) 135 (n + 1) (byF v 1)) 126 13 (nI (n + 1 + 1))) := F
  have F3 : MF (sI (sI (sI (sI (sI (sI M 135 (n + 0) (byF v 0)) 126 13 (nI (n + 0 + 1))) 135 (n + 1) (byF v 1)) 126 13 (nI (n + 1 + 1))) 135 (n + 2) (byF v 2)) 126 13 (nI (n + 2 + 1))) := F
  rw [m0, stp 0 M (by omega) F hn, show nI (24 - 8 * 0) - 8 = nI (24 - 8 * 1) from by decide, stp 1 _ (by omega) F1 (hI_sI_s _ _ _ _), show nI (24 - 8 * 1) - 8 = nI (24 - 8 * 2) from by decide, stp 2 _ (by omega) F2 (hI_sI_s _ _ _ _), show nI (24 - 8 * 2) - 8 = nI (24 - 8 * 3) from by decide, stp 3 _ (by omega) F3 (hI_sI_s _ _ _ _), k183_3, k183_4, if_pos (by decide), k183_39]
  refine H _ (agr_trans (agr_trans (agr_trans (agr_trans (agr_trans (agr_trans (agr_trans (agr_sI (by decide)) (agr_sI (by decide))) (agr_sI (by decide))) (agr_sI (by decide))) (agr_sI (by decide))) (agr_sI (by decide))) (agr_sI (by decide))) (agr_sI (by decide))) (hI_sI_s _ _ _ _) (fun k q => ?_) (fun k => ?_)
  · rw [hI_sI_k q, hI_sI_a (by decide), hI_sI_k q, hI_sI_a (by decide), hI_sI_k q, hI_sI_a (by decide), hI_sI_k q, hI_sI_a (by decide)]
  · rw [hI_sI_a (by decide)]
    by_cases c3 : k = n + 3
    · rw [c3, hI_sI_s, if_pos (by omega), show n + 3 - n = 3 by omega]
    rw [hI_sI_k c3, hI_sI_a (by decide)]
    by_cases c2 : k = n + 2
    · rw [c2, hI_sI_s, if_pos (by omega), show n + 2 - n = 2 by omega]
    rw [hI_sI_k c2, hI_sI_a (by decide)]
    by_cases c1 : k = n + 1
    · rw [c1, hI_sI_s, if_pos (by omega), show n + 1 - n = 1 by omega]
    rw [hI_sI_k c1, hI_sI_a (by decide)]
    by_cases c0 : k = n + 0
    · rw [c0, hI_sI_s, if_pos (by omega), show n + 0 - n = 0 by omega]
    rw [hI_sI_k c0, if_neg (by omega)]
def v5F (a b c e f : Int32) : Nat → Int32
  | 0 => a
  | 1 => b
  | 2 => c
  | 3 => e
  | _ + 4 => f
theorem p_feed {x1 x2 x3 x4 x5 : Int32} (S : Sim M) (K : Alk d 184 [(0, .ref 126), (1, .int x1), (2, .int x2), (3, .int x3), (4, .int x4), (5, .int x5)] M Q) : Wp none d 96 0 [(0, .ref 64), (1, .int x1), (2, .int x2), (3, .int x3), (4, .int x4), (5, .int x5)] [] M Q := by
  obtain ⟨n, nl, lw, X, H, HO, Y⟩ := Sim_get S
  obtain ⟨L, L4, t1, t2, t3⟩ := Tpe_get S.2.2.2.1
  have F := Y.F
  have c400 : ((400 : Int32) = nI 400) := rfl
  rw [x96_0 X, t1, k96_10]
  by_cases c : L ≤ 380
  case neg =>
    rw [if_neg (by rw [show (380 : Int32) = nI 380 from rfl, n_le (by omega) (by omega)]; exact c), k96_13]
    refine K _ _ (fun Q2 h => ?_)
    rw [k184_0 (m_9 F), o0_id Y, k184_5 (m_9 F), t2, show nI L + 20 = nI (L + 20) from n_addl L 20, k184_15, if_neg (by rw [c400, n_le (by omega) (by omega)]; omega), k184_18]
    exact h M S (by omega) (by omega)
  have TS : ∀ M1, XS M1 → TapeS M1 107 := fun M1 X1 => X1.2.2.2.2.2.2.2.2.2.1
  -- the class's five
  have add : ∀ (m : Nat) (M1 : hp) (v : Int32) (Q2 : Option Value → hp → Prop), XS M1 → m < 5 → v = v5F x1 x2 x3 x4 x5 m → agr [107, 108] M M1 → hI M1 107 1 = nI (L + 4 * m) → hI M1 108 = fdF (v5F x1 x2 x3 x4 x5) L m (hI M 108) → (∀ M2, XS M2 → agr [107, 108] M M2 → hI M2 107 1 = nI (L + 4 * (m + 1)) → hI M2 108 = fdF (v5F x1 x2 x3 x4 x5) L (m + 1) (hI M 108) → Q2 none M2) → Wp none d 82 0 [(0, .ref 107), (1, .int v)] [] M1 Q2 := by
    intro m M1 v Q2 X1 hm hv a1 h1 h2 hQ
    rw [Tape_add (TS M1 X1) h1 (by omega)]
    have X2 : XS (sI (sIs M1 (107 + 1) (L + 4 * m) 4 (byF v)) 107 1 (nI (L + 4 * m + 4))) := X1
    refine hQ _ X2 (agr_trans a1 (agr_trans (agr_sIs (by decide)) (agr_sI (by decide)))) (by rw [hI_sI_s, show L + 4 * m + 4 = L + 4 * (m + 1) by omega]) (fd_s h2 (fun k => ?_))
    rw [hI_sI_a (by decide), show (107 + 1 : Nat) = 108 from rfl, hI_sIs, hv]
    by_cases q : L + 4 * m ≤ k ∧ k < L + 4 * m + 4
    · rw [if_pos ⟨rfl, q⟩, if_pos q]
    · rw [if_neg (fun z => q z.2), if_neg q]
  -- the reference's five
  have four : ∀ (m : Nat) (M0 M1 : hp) (v : Int32) (Q2 : Option Value → hp → Prop), MF M1 → m < 5 → v = v5F x1 x2 x3 x4 x5 m → agr [126, 135] M0 M1 → (∀ k, ¬ k = 13 → hI M1 126 k = hI M0 126 k) → hI M1 126 13 = nI (L + 4 * m) → hI M1 135 = fdF (v5F x1 x2 x3 x4 x5) L m (hI M0 135) → (∀ M2, MF M2 → agr [126, 135] M0 M2 → (∀ k, ¬ k = 13 → hI M2 126 k = hI M0 126 k) → hI M2 126 13 = nI (L + 4 * (m + 1)) → hI M2 135 = fdF (v5F x1 x2 x3 x4 x5) L (m + 1) (hI M0 135) → Q2 none M2) → Wp none d 183 0 [(0, .ref 126), (1, .int v)] [] M1 Q2 := by
    intro m M0 M1 v Q2 F1 hm hv a1 e1 h1 h2 hQ
    refine mFour F1 h1 (by omega) (fun M2 a2 g1 g2 g3 => hQ M2 (MF_agr F1 a2) (agr_trans a1 a2) (fun k q => (g2 k q).trans (e1 k q)) (by rw [g1, show L + 4 * m + 4 = L + 4 * (m + 1) by omega]) (fd_s h2 (fun k => by rw [g3 k, hv])))
  have k107 : ∀ M1, XS M1 → (hK M1 107).1 = 6 := fun M1 X1 => x_K107 X1
  rw [if_pos (by rw [show (380 : Int32) = nI 380 from rfl, n_le (by omega) (by omega)]; exact c), x96_15 X, k96_20 (k107 M X)]
  refine add 0 M x1 _ X (by omega) rfl (agr_refl _ _) t1 (fd_0 _ _ _).symm (fun M1 X1 a1 h1 f1 => ?_)
  simp only [oZ]
  rw [x96_23 X1, k96_28 (k107 M1 X1)]
  refine add 1 M1 x2 _ X1 (by omega) rfl a1 h1 f1 (fun M2 X2 a2 h2 f2 => ?_)
  simp only [oZ]
  rw [x96_31 X2, k96_36 (k107 M2 X2)]
  refine add 2 M2 x3 _ X2 (by omega) rfl a2 h2 f2 (fun M3 X3 a3 h3 f3 => ?_)
  simp only [oZ]
  rw [x96_39 X3, k96_45 (k107 M3 X3)]
  refine add 3 M3 x4 _ X3 (by omega) rfl a3 h3 f3 (fun M4 X4 a4 h4 f4 => ?_)
  simp only [oZ]
  rw [x96_48 X4, k96_54 (k107 M4 X4)]
  refine add 4 M4 x5 _ X4 (by omega) rfl a4 h4 f4 (fun M5 X5 a5 h5 f5 => ?_)
  simp only [oZ]
  rw [x96_57 X5, h5]
  refine K _ _ (fun Q2 h => ?_)
  have Y5 := RP_64 Y a5 (by decide)
  have e126 : hI M5 126 = hI M 126 := agr_I a5 (by decide)
  have e135 : hI M5 135 = hI M 135 := agr_I a5 (by decide)
  rw [k184_0 (m_9 Y5.F), o0_id Y5, k184_5 (m_9 Y5.F), e126, t2, show nI L + 20 = nI (L + 20) from n_addl L 20, k184_15, if_pos (by rw [c400, n_le (by omega) (by omega)]; omega), k184_20, k184_22 (m_9 Y5.F)]
  refine four 0 M5 M5 x1 _ Y5.F (by omega) rfl (agr_refl _ _) (fun _ _ => rfl) (by rw [e126]; exact t2) (fd_0 _ _ _).symm (fun N1 G1 b1 q1 i1 j1 => ?_)
  simp only [oZ]
  rw [k184_25, k184_27 (m_9 G1)]
  refine four 1 M5 N1 x2 _ G1 (by omega) rfl b1 q1 i1 j1 (fun N2 G2 b2 q2 i2 j2 => ?_)
  simp only [oZ]
  rw [k184_30, k184_32 (m_9 G2)]
  refine four 2 M5 N2 x3 _ G2 (by omega) rfl b2 q2 i2 j2 (fun N3 G3 b3 q3 i3 j3 => ?_)
  simp only [oZ]
  rw [k184_35, k184_38 (m_9 G3)]
  refine four 3 M5 N3 x4 _ G3 (by omega) rfl b3 q3 i3 j3 (fun N4 G4 b4 q4 i4 j4 => ?_)
  simp only [oZ]
  rw [k184_41, k184_44 (m_9 G4)]
  refine four 4 M5 N4 x5 _ G4 (by omega) rfl b4 q4 i4 j4 (fun N5 G5 b5 q5 i5 j5 => ?_)
  simp only [oZ]
  rw [k184_47 (m_9 G5), i5]
  have aa : agr [107, 108, 126, 135] M N5 := agr_trans (agr_mono a5 (by intro x q; simp at q ⊢; omega)) (agr_mono b5 (by intro x q; simp at q ⊢; omega))
  refine h N5 (Sim_tape S aa (fun k q => by rw [q5 k q, e126]) (Tpe_of (L := L + 4 * (4 + 1)) (by omega) (by rw [agr_I b5 (a := 107) (by decide)]; exact h5) i5 (fun i hi => ?_))) (by rw [aa.1]; omega) (by rw [aa.2.1]; omega)
  rw [agr_I b5 (a := 108) (by decide), f5, j5, e135]
  unfold fdF
  by_cases q : L ≤ i ∧ i < L + 4 * (4 + 1)
  · rw [if_pos q, if_pos q]
    exact ⟨rfl, by_sm _ _⟩
  · rw [if_neg q, if_neg q]
    exact t3 i (by omega)
