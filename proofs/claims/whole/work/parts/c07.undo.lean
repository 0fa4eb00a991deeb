variable {d : Nat} {M : hp} {Q : Option Value → hp → Prop}
/-! undo() -/
theorem PegS_cong {P P' : Nat → Int32} {n : Nat} (H : PegS P n) (h : ∀ j, j < n → P' j = P j) : PegS P' n := by
  refine ⟨fun j hj => by rw [h j hj]; exact H.1 j hj, fun i j hi hj e ne => ?_⟩
  rw [h i hi] at e ne
  rw [h j hj] at e
  exact H.2 i j hi hj e ne
theorem KnoS_cong {W W' : Nat → Int32} {n : Nat} (H : KnoS W n) (h : ∀ j, j < n → W' j = W j) : KnoS W' n := fun j hj => by rw [h j hj]; exact H j hj
theorem p_undo (S : Sim M) (K : Alk d 162 [(0, .ref 126)] M Q) : Wp none d 109 0 [(0, .ref 64)] [] M Q := by
  have kb : kB = 154 := rfl
  obtain ⟨n, nl, lw, X, H, HO, Y⟩ := Sim_get S
  obtain ⟨B, Z, I, T, C, D, n', nl', lw', H', U'⟩ := S
  have S : Sim M := ⟨B, Z, I, T, C, D, n', nl', lw', H', U'⟩
  obtain ⟨c, x, u1, u2, u3, u4, u5, u6⟩ := U'
  have F := Y.F
  rw [x109_0 X, k109_8 (x_K103 X)]
  by_cases c0 : c = 0
  · subst c0
    rw [Past_goBack_n X.2.2.2.2.2.2.2.1 u3]
    simp only [oN]
    rw [k109_11, k109_14, if_neg (fun q => q rfl), k109_17, k109_20 (x_K64 X), T_refused X]
    simp only [oN]
    rw [k109_23, k109_31]
    refine p_refused (v := 3) (Or.inr (Or.inr (Or.inl rfl))) S K (fun Q2 a h => ?_)
    have Y1 := RP_64 Y a (by decide)
    rw [k162_0 (m_9 Y1.F), o0_id Y1, k162_5 (m_9 Y1.F), agr_I a (a := 126) (by decide), u5, k162_9, if_neg (fun q => q rfl), k162_12, k162_15 (m_9 Y1.F), show (-3 : Int32) = -(nI 3) from by decide, mTell_n Y1.F (by omega) (by omega)]
    simp only [oN]
    rw [k162_18]
    exact h
  obtain ⟨c, rfl⟩ : ∃ m, c = m + 1 := ⟨c - 1, by omega⟩
  obtain ⟨v1, v2, v3, v4, v5, v6, v7, v8, v9⟩ := u6 c (by omega)
  have ey : (x + 16 - (c + 1) + c) % 16 = (x + 15) % 16 := by rw [show x + 16 - (c + 1) + c = x + 15 by omega]
  rw [ey] at v1 v2 v5 v6 v7 v8 v9
  have hy : (x + 15) % 16 < 16 := Nat.mod_lt _ (by omega)
  generalize hyy : (x + 15) % 16 = y at *
  obtain ⟨hr, hr1, hr2⟩ := v8
  obtain ⟨ku, ku1, ku2⟩ := v9
  refine Past_goBack X.2.2.2.2.2.2.2.1 X.2.1 u4 u2 u3 (by omega) (Or.inr (by omega)) (fun M1 a g1 g2 g3 g4 g5 => ?_)
  rw [hyy] at g1 g3 g4 g5 ⊢
  have X1 : XS M1 := XS_same (sameS_agq (agq_of (B := []) a) (by intro x q; simp at q)) X
  have e104 : hI M (103 + 1) (16 * y + 15) = nI ku := ku2
  simp only [oN]
  rw [e104, k109_11, k109_14, if_pos (by rw [n_m1 (by omega)]; exact id), k109_26, k109_28 (x_K64 X1), T_accepted X1]
  simp only [oN]
  rw [k109_31]
  refine K _ _ (fun Q2 hQ2 => ?_)
  have a1 : agr [64, 65, 68, 69, 103] M (sI M1 64 19 0) := agr_trans (agr_mono a (by intro x q; simp at q ⊢; omega)) (agr_sI (by decide))
  have Y1 := RP_64 Y a1 (by decide)
  have F1 := Y1.F
  have e126 : hI (sI M1 64 19 0) 126 = hI M 126 := agr_I a1 (by decide)
  have e131 : hI (sI M1 64 19 0) 131 = hI M 131 := agr_I a1 (by decide)
  have e132 : hI (sI M1 64 19 0) 132 = hI M 132 := agr_I a1 (by decide)
  have e128 : hI (sI M1 64 19 0) 128 = hI M 128 := agr_I a1 (by decide)
  generalize hMa : sI M1 64 19 0 = Ma at *
  have F2 : MF (sI Ma 126 8 (nI c)) := F1
  have F3 : MF (sIs (sI Ma 126 8 (nI c)) 128 4 17 (fun i => hI (sI Ma 126 8 (nI c)) 131 (17 * c + i))) := F1
  have e8 : hI (sIs (sI Ma 126 8 (nI c)) 128 4 17 (fun i => hI (sI Ma 126 8 (nI c)) 131 (17 * c + i))) 126 8 = nI c := by rw [hI_sIs_a (by decide), hI_sI_s]
  have e132' : hI (sIs (sI Ma 126 8 (nI c)) 128 4 17 (fun i => hI (sI Ma 126 8 (nI c)) 131 (17 * c + i))) 132 c = nI ku := by
    rw [hI_sIs_a (by decide), hI_sI_a (by decide), e132, v5]
    exact ku2
  have em : nI (c + 1) - 1 = nI c := n_subl (n := 1) (by omega)
  rw [k162_0 (m_9 F1), o0_id Y1, k162_5 (m_9 F1), e126, u5, k162_9, if_pos (by show ¬ nI (c + 1) = nI 0; rw [n_eq (by omega) (by omega)]; omega), k162_19 (m_9 F1), e126, u5, em, k162_29 (m_9 F2), hI_sI_s, k162_34 (m_9 F2), mPut F2 (by omega)]
  simp only [oZ]
  rw [m162_37 F3 (by rw [e8, vin_n (by omega)]; exact decide_eq_true (by omega)), e8, n_cl (by omega), e132', k162_47 (m_9 F3), mTell_p F3 (by show nI 0 ≤ nI ku; rw [n_le (by omega) (by omega)]; omega)]
  simp only [oN]
  rw [k162_50]
  have fin : ∀ M2, M2 = sI (sIs (sI Ma 126 8 (nI c)) 128 4 17 (fun i => hI (sI Ma 126 8 (nI c)) 131 (17 * c + i))) 126 1 0 → Sim M2 ∧ hN M2 = hN M ∧ hS M2 = hS M := by
    intro M2 eM
    have b : agr [126, 128] Ma M2 := by
      rw [eM]
      exact agr_trans (agr_trans (agr_sI (by decide)) (agr_sIs (by decide))) (agr_sI (by decide))
    have aa : agr [64, 65, 68, 69, 103, 126, 128] M M2 := agr_trans (agr_mono a1 (by intro x q; simp at q ⊢; omega)) (agr_mono b (by intro x q; simp at q ⊢; omega))
    have lo : low [64, 65, 68, 69, 103, 126, 128] := by intro x q; simp at q; omega
    have r126 : ∀ k, ¬ k = 1 → ¬ k = 8 → hI M2 126 k = hI M 126 k := by
      intro k q q2
      rw [eM, hI_sI_k q, hI_sIs_a (by decide), hI_sI_k q2, e126]
    have r8 : hI M2 126 8 = nI c := by rw [eM, hI_sI_k (by decide), e8]
    have r1 : hI M2 126 1 = 0 := by rw [eM, hI_sI_s]
    have r128 : ∀ l, hI M2 128 l = if 4 ≤ l ∧ l < 21 then hI M 131 (17 * c + (l - 4)) else hI M 128 l := by
      intro l
      rw [eM, hI_sI_a (by decide), hI_sIs]
      by_cases q : 4 ≤ l ∧ l < 21
      · rw [if_pos ⟨rfl, by omega, by omega⟩, if_pos q, hI_sI_a (by decide), e131]
      · rw [if_neg (fun z => q ⟨z.2.1, by omega⟩), if_neg q, hI_sI_a (by decide), e128]
    have ro : ∀ x, ¬ x = 126 → ¬ x = 128 → ¬ x = 64 → hI M2 x = hI M1 x := by
      intro x q q2 q3
      rw [agr_I b (by simp; omega), ← hMa]
      funext k
      exact hI_sI_a q3
    have r64 : ∀ k, ¬ k = 19 → hI M2 64 k = hI M 64 k := by
      intro k q
      rw [agr_I b (a := 64) (by decide), ← hMa, hI_sI_k q, agr_I a (a := 64) (by decide)]
    have r19 : hI M2 64 19 = 0 := by rw [agr_I b (a := 64) (by decide), ← hMa, hI_sI_s]
    have r65 : ∀ k, hI M2 65 k = if k = 5 then hI M 104 (16 * y + 14) else hI M 65 k := fun k => by rw [ro 65 (by decide) (by decide) (by decide)]; exact g5 k
    have r68 : ∀ k, hI M2 68 k = if k < 7 then hI M 104 (16 * y + k) else hI M 68 k := fun k => by rw [ro 68 (by decide) (by decide) (by decide)]; exact g3 k
    have r69 : ∀ k, hI M2 69 k = if k < 7 then hI M 104 (16 * y + 7 + k) else hI M 69 k := fun k => by rw [ro 69 (by decide) (by decide) (by decide)]; exact g4 k
    obtain ⟨HZ, P, Lw, Hd⟩ := H'
    obtain ⟨p1, p2, p3, p4, p5, p6, p7, p8, p9⟩ := P
    have e66 : hI M2 66 = hI M 66 := agr_I aa (by decide)
    have e67 : hI M2 67 = hI M 67 := agr_I aa (by decide)
    refine ⟨⟨SimB_E B aa (by decide) (r126 20 (by decide) (by decide)) (r126 0 (by decide) (by decide)), Scr_E Z aa (by decide), Img_E I aa lo (by decide), Tpe_E T aa (by decide) (r126 13 (by decide) (by decide)), Scl_acc C ⟨r64 16 (by decide), r64 17 (by decide), r64 18 (by decide), r19⟩ (agr_I aa (by decide)) ⟨r126 11 (by decide) (by decide), r126 18 (by decide) (by decide), r126 49 (by decide) (by decide), r1⟩ (agr_I aa (by decide)), Drw_E D aa (by decide) (r64 15 (by decide)) (r126 53 (by decide) (by decide)), n', nl', lw', ⟨?_, ?_, LwS_c Lw (upk_agr aa lo) (fun k q => by rw [r65, if_neg (by omega)]) (by rw [agr_R aa]) (fun l q => by rw [r128, if_neg (by omega)]), HdS_c Hd (fun k q => by rw [r65, if_neg (by omega)]) (fun l q => by rw [r128, if_neg (by omega)])⟩, ?_⟩, aa.1, aa.2.1⟩
    · intro r q1 q2 k hk
      have : r = 1 ∨ r = 2 ∨ r = 3 ∨ r = 4 := by omega
      rcases this with rfl | rfl | rfl | rfl
      · show hI M2 66 k = 0; rw [e66]; exact HZ 1 (by omega) (by omega) k hk
      · show hI M2 67 k = 0; rw [e67]; exact HZ 2 (by omega) (by omega) k hk
      · show hI M2 68 k = 0; rw [r68, if_neg (by omega)]; exact HZ 3 (by omega) (by omega) k hk
      · show hI M2 69 k = 0; rw [r69, if_neg (by omega)]; exact HZ 4 (by omega) (by omega) k hk
    · refine ⟨by rw [r65, if_neg (by decide)]; exact p1, by rw [r128, if_neg (by decide)]; exact p2, p3, fun j hj => ?_, ⟨?_, ?_, ?_⟩, ?_, ?_, ?_, ?_⟩
      · show hI M2 128 (21 + j) = hI M2 66 j ∧ hI M2 128 (28 + j) = hI M2 67 j ∧ hI M2 128 (7 + j) = hI M2 68 j ∧ hI M2 128 (14 + j) = hI M2 69 j
        rw [r128, r128, r128, r128, if_neg (by omega), if_neg (by omega), if_pos (by omega), if_pos (by omega), e66, e67, r68, r69, if_pos hj, if_pos hj, show 17 * c + (7 + j - 4) = 17 * c + 3 + j by omega, show 17 * c + (14 + j - 4) = 17 * c + 10 + j by omega]
        exact ⟨(p4 j hj).1, (p4 j hj).2.1, (v1 j hj).1, (v1 j hj).2⟩
      · rw [r128, if_pos (by decide), r65, if_pos rfl]; exact v2
      · rw [r128, if_pos (by decide), r65, if_neg (by decide)]; exact v3
      · rw [r128, if_pos (by decide), r65, if_neg (by decide)]; exact v4
      · exact PegS_cong v6 (fun j hj => by show hI M2 68 j = _; rw [r68, if_pos (by omega)])
      · exact KnoS_cong v7 (fun j hj => by show hI M2 69 j = _; rw [r69, if_pos (by omega)])
      · rw [r65, if_pos rfl]; exact ⟨hr, hr1, hr2⟩
      · rw [r65, if_neg (by decide)]; exact p9
    · refine ⟨c, y, by omega, hy, by rw [ro 103 (by decide) (by decide) (by decide)]; exact g2, by rw [ro 103 (by decide) (by decide) (by decide)]; exact g1, r8, fun k hk => ?_⟩
      have ex : (y + 16 - c + k) % 16 = (x + 16 - (c + 1) + k) % 16 := by omega
      rw [ex]
      have old := u6 k (by omega)
      have e104' : hI M2 104 = hI M 104 := agr_I aa (by decide)
      have e131' : hI M2 131 = hI M 131 := agr_I aa (by decide)
      have e132'' : hI M2 132 = hI M 132 := agr_I aa (by decide)
      unfold Un1 at *
      rw [e104', e131', e132'', r65 6, r65 7, if_neg (by decide), if_neg (by decide)]
      exact old
  obtain ⟨f1, f2, f3⟩ := fin _ rfl
  exact hQ2 _ f1 (by omega) (by omega)
