variable {d : Nat} {M : hp} {Q : Option Value → hp → Prop}
/-! hang(), take(), think(), pass() -/
theorem und_u {n : Nat} (U : Und M n) : ∃ u, ClU M u ∧ RfU M (hI M 65 6) (hI M 65 7) u ∧ u.1 ≤ 16 ∧ ∀ k, k < u.1 → WFe n (u.2 k) := by
  obtain ⟨c, x, u1, u2, u3, u4, u5, u6⟩ := U
  refine ⟨(c, fun k => (fun j => hI M 104 (16 * ((x + 16 - c + k) % 16) + j), fun j => hI M 104 (16 * ((x + 16 - c + k) % 16) + 7 + j), hI M 104 (16 * ((x + 16 - c + k) % 16) + 14), hI M 104 (16 * ((x + 16 - c + k) % 16) + 15))), ⟨x, u2, u4, u3, u1, fun k hk => ⟨fun j hj => ⟨rfl, rfl⟩, rfl, rfl⟩⟩, ⟨u5, u1, fun k hk => ?_⟩, u1, fun k hk => ?_⟩
  · obtain ⟨v1, v2, v3, v4, v5, _⟩ := u6 k hk
    exact ⟨v1, v2, v3, v4, v5⟩
  · obtain ⟨_, _, _, _, _, v6, v7, v8, v9⟩ := u6 k hk
    exact ⟨v6, v7, v8, v9⟩
theorem u_und {n : Nat} {u : USt} (hn : n ≤ 7) (C : ClU M u) (R : RfU M (hI M 65 6) (hI M 65 7) u) (W : ∀ k, k < u.1 → WFe n (u.2 k)) : Und M n := by
  obtain ⟨x, c1, c2, c3, c4, c5⟩ := C
  obtain ⟨r1, r2, r3⟩ := R
  refine ⟨u.1, x, c4, c1, c3, c2, r1, fun k hk => ?_⟩
  obtain ⟨a1, a2, a3⟩ := c5 k hk
  obtain ⟨b1, b2, b3, b4, b5⟩ := r3 k hk
  obtain ⟨w1, w2, w3, w4⟩ := W k hk
  refine ⟨fun j hj => ⟨(b1 j hj).1.trans (a1 j hj).1.symm, (b1 j hj).2.trans (a1 j hj).2.symm⟩, b2.trans a2.symm, b3, b4, b5.trans a3.symm, PegS_cong w1 (fun j hj => (a1 j (by omega)).1), KnoS_cong w2 (fun j hj => (a1 j (by omega)).2), ?_, ?_⟩
  · rw [a2]; exact w3
  · rw [a3]; exact w4
def st0 (M : hp) (u : USt) : ASt := (hI M 68, hI M 69, hI M 65 5, u)
theorem st0_WF {n nl : Nat} {lw : Nat → Nat × (Nat → Cls)} {R : Nat → Int32} {u : USt} (H : HC M 65 R n nl lw) (h16 : u.1 ≤ 16) (W : ∀ k, k < u.1 → WFe n (u.2 k)) : WFa n (st0 M u) :=
  ⟨H.2.1.2.2.2.2.2.1, H.2.1.2.2.2.2.2.2.1, H.2.1.2.2.2.2.2.2.2.1, fun k hk => ⟨H.1 3 (by omega) (by omega) k hk, H.1 4 (by omega) (by omega) k hk⟩, h16, W⟩
theorem st0_Cl {u : USt} (U : ClU M u) : ClA M M (st0 M u) := ⟨agr_refl _ _, rfl, rfl, fun k => by
  show hI M 65 k = if k = 5 then hI M 65 5 else hI M 65 k
  by_cases c : k = 5
  · rw [if_pos c, c]
  · rw [if_neg c], U⟩
theorem st0_Rf {M1 : hp} {n : Nat} {D T : Nat → Int32} {rn lk : Int32} {L : Law} {s : ASt} (Y : RP M1 n D T s.1 s.2.1 s.2.2.1 rn L) (h5 : hI M1 128 5 = lk) (U : RfU M1 lk rn s.2.2.2) : RfA M1 M1 n D T rn lk L s := ⟨Y, h5, U, agr_refl _ _, fun _ _ _ _ => rfl, fun _ _ _ => rfl, fun _ _ _ => rfl, fun _ _ => rfl⟩
theorem why_neg {n : Nat} {kind hat num : Int32} {s : ASt} (h : ¬ whyA n kind hat num s = 0) : ∃ v, rsnOk v ∧ whyA n kind hat num s = -(nI v) := by
  unfold whyA at h ⊢
  by_cases c3 : kind = 3
  · rw [if_pos c3] at h ⊢
    by_cases q : s.2.2.1 < 999
    · rw [if_pos q] at h; exact absurd rfl h
    · rw [if_neg q]; exact ⟨3, Or.inr (Or.inr (Or.inl rfl)), by decide⟩
  rw [if_neg c3] at h ⊢
  by_cases cb : badN kind num
  · rw [if_pos cb]; exact ⟨1, Or.inl rfl, by decide⟩
  rw [if_neg cb] at h ⊢
  by_cases ch : ¬ hatOk n hat
  · rw [if_pos ch]; exact ⟨2, Or.inr (Or.inl rfl), by decide⟩
  rw [if_neg ch] at h ⊢
  by_cases cc : canA n kind hat.toNatClampNeg num s.1 s.2.1
  · rw [if_pos cc] at h; exact absurd rfl h
  · rw [if_neg cc]; exact ⟨3, Or.inr (Or.inr (Or.inl rfl)), by decide⟩
theorem rsn_lt {v : Nat} (h : rsnOk v) : 1 ≤ v ∧ v < 7 := by
  unfold rsnOk at h
  omega
theorem neg_n {v : Nat} (h : rsnOk v) : ¬ (0 : Int32) ≤ -(nI v) := by
  rcases h with rfl | rfl | rfl | rfl | rfl <;> decide
theorem nn_n {v : Nat} (h : v < 2147483648) : (0 : Int32) ≤ nI v := by
  show nI 0 ≤ nI v
  rw [n_le (by omega) h]
  omega
theorem do_nn {n v : Nat} {D T : Nat → Int32} {rn : Int32} {L : Law} {hat num : Int32} {s : ASt} (hn : n ≤ 7) (hv : v < 4) (W : WFa n s) (h0 : whyA n (nI v) hat num s = 0) : (0 : Int32) ≤ (doA n D T rn L (nI v) hat num s).1 := by
  obtain ⟨w1, w2, w3, w4, w5, w6⟩ := W
  unfold whyA at h0
  by_cases c3 : nI v = 3
  · unfold doA
    rw [if_neg (by rw [c3]; decide), if_neg (by rw [c3]; decide), if_neg (by rw [c3]; decide)]
    obtain ⟨a, a1, a2, _⟩ := lrn_sum (hourG L D T s.1 n rn (s.2.1, s.2.2.1)) (hourG_sm L D T s.1 n rn (s.2.1, s.2.2.1)) n hn
    show (0 : Int32) ≤ lrnF (hourG L D T s.1 n rn (s.2.1, s.2.2.1)) n
    rw [a2]
    exact nn_n (by omega)
  rw [if_neg c3] at h0
  by_cases cb : badN (nI v) num
  · rw [if_pos cb] at h0; exact absurd h0 (by decide)
  rw [if_neg cb] at h0
  by_cases ch : hatOk n hat
  case neg => rw [if_pos ch] at h0; exact absurd h0 (by decide)
  rw [if_neg (fun q => q ch)] at h0
  by_cases cc : canA n (nI v) hat.toNatClampNeg num s.1 s.2.1
  case neg => rw [if_neg cc] at h0; exact absurd h0 (by decide)
  obtain ⟨j, hj, rfl⟩ := hatOk_j hn ch
  rw [n_cl (by omega)] at cc
  unfold doA
  rw [n_cl (by omega)]
  by_cases c0 : nI v = 0
  · rw [if_pos c0]
    show (0 : Int32) ≤ besC n (updI s.1 j num) j
    unfold besC
    by_cases q1 : hatF n (updI s.1 j num) (updI s.1 j num j - 1) = -1 <;> by_cases q2 : hatF n (updI s.1 j num) (updI s.1 j num j + 1) = -1
    · rw [if_pos q1, if_pos q2]; decide
    · rw [if_pos q1, if_neg q2]; decide
    · rw [if_neg q1, if_pos q2]; decide
    · rw [if_neg q1, if_neg q2]; decide
  rw [if_neg c0]
  by_cases c1 : nI v = 1
  · unfold canA at cc
    rw [if_neg c0, if_pos c1] at cc
    rw [if_pos c1]
    rcases w1.1 j hj with z | ⟨q, q1, q2⟩
    · exact absurd z cc
    · show (0 : Int32) ≤ s.1 j
      rw [q2]
      exact nn_n (by omega)
  rw [if_neg c1]
  have c2 : nI v = 2 := by
    have : ¬ v = 0 := fun e => c0 (by rw [e]; rfl)
    have : ¬ v = 1 := fun e => c1 (by rw [e]; rfl)
    have : ¬ v = 3 := fun e => c3 (by rw [e]; rfl)
    have : v = 2 := by omega
    rw [this]; rfl
  rw [if_pos c2]
  have ht : thOk num := Classical.byContradiction (fun q => cb (Or.inr ⟨c2, q⟩))
  obtain ⟨t, t1, rfl⟩ := (vin_of2 (n := 8) ht.1 ht.2 (by omega)).2
  show (0 : Int32) ≤ mny (s.2.1 j ||| ((1 : Int32) <<< (nI t &&& 31)))
  obtain ⟨y, y1, y2⟩ := sm_or (w2 j hj) (sm_bit t t1)
  rw [y2]
  obtain ⟨z, z1, z2⟩ := mny_sm y y1
  rw [z2]
  exact nn_n (by omega)
/-- an act was done in both -/
theorem Sim_act {M1 M2 : hp} {n nl : Nat} {lw : Nat → Nat × (Nat → Cls)} {s : ASt} {L : Law} (S : Sim M) (H : HC M 65 (hI M 128) n nl lw) (W : WFa n s) (C : ClA M M1 s) (A : RfA (sI M1 64 19 0) M2 n (hI M 66) (hI M 67) (hI M 65 7) (hI M 65 6) L s) : Sim (sI M2 126 1 0) ∧ hN (sI M2 126 1 0) = hN M ∧ hS (sI M2 126 1 0) = hS M := by
  have kb : kB = 154 := rfl
  obtain ⟨Y, h5, U, a, e1, e2, e3, e4⟩ := A
  obtain ⟨a1, c68, c69, c65, cU⟩ := C
  have b : agr (64 :: AE) M (sI M1 64 19 0) := agr_trans (agr_cons 64 a1) (agr_sI (by decide))
  have aa : agr (64 :: AE ++ RAE) M (sI M2 126 1 0) := agr_trans (agr_mono b (by intro x q; simp [AE, nF, RAE] at q ⊢; omega)) (agr_trans (agr_mono a (by intro x q; simp [AE, nF, RAE] at q ⊢; omega)) (agr_sI (by decide)))
  have lo : low (64 :: AE ++ RAE) := by intro x q; simp [AE, nF, RAE] at q; omega
  obtain ⟨B, Z, I, T, Cc, D, _⟩ := S
  obtain ⟨HZ, P, Lw, Hd⟩ := H
  have q126 : ∀ k, ¬ k = 1 → ¬ k = 8 → ¬ k = 34 → ¬ k = 38 → hI (sI M2 126 1 0) 126 k = hI M 126 k := fun k q1 q2 q3 q4 => by rw [hI_sI_k q1, e1 k q2 q3 q4, agr_I b (a := 126) (by decide)]
  have q128 : ∀ l, ¬ l = 4 → ¬ (7 ≤ l ∧ l < 21) → hI (sI M2 126 1 0) 128 l = hI M 128 l := fun l q1 q2 => by rw [hI_sI_a (by decide), e3 l q1 q2, agr_I b (a := 128) (by decide)]
  have q64 : ∀ k, ¬ k = 19 → hI (sI M2 126 1 0) 64 k = hI M 64 k := fun k q => by rw [hI_sI_a (by decide), agr_I a (a := 64) (by decide), hI_sI_k q, agr_I a1 (a := 64) (by decide)]
  have q19 : hI (sI M2 126 1 0) 64 19 = 0 := by rw [hI_sI_a (by decide), agr_I a (a := 64) (by decide), hI_sI_s]
  have qc : ∀ x, (x = 65 ∨ x = 68 ∨ x = 69 ∨ x = 103 ∨ x = 104) → hI (sI M2 126 1 0) x = hI M1 x := by
    intro x hx
    have h1 : hI M2 x = hI (sI M1 64 19 0) x := agr_I a (by simp [RAE]; omega)
    funext k
    rw [hI_sI_a (by omega), h1, hI_sI_a (by omega)]
  have q65 : ∀ k, hI (sI M2 126 1 0) 65 k = if k = 5 then s.2.2.1 else hI M 65 k := fun k => by rw [qc 65 (by omega)]; exact c65 k
  have q66 : hI (sI M2 126 1 0) 66 = hI M 66 := agr_I aa (by decide)
  have q67 : hI (sI M2 126 1 0) 67 = hI M 67 := agr_I aa (by decide)
  have q68 : hI (sI M2 126 1 0) 68 = s.1 := (qc 68 (by omega)).trans c68
  have q69 : hI (sI M2 126 1 0) 69 = s.2.1 := (qc 69 (by omega)).trans c69
  obtain ⟨p1, p2, p3, p4, p5, p6, p7, p8, p9⟩ := P
  have U1 : RfU (sI M2 126 1 0) (hI (sI M2 126 1 0) 65 6) (hI (sI M2 126 1 0) 65 7) s.2.2.2 := by
    rw [q65 6, q65 7, if_neg (by decide), if_neg (by decide)]
    exact RfU_fr U (hI_sI_k (by decide)) (fun l _ => hI_sI_a (by decide)) (by funext k; exact hI_sI_a (by decide))
  refine ⟨⟨SimB_E B aa (by decide) (q126 20 (by decide) (by decide) (by decide) (by decide)) (q126 0 (by decide) (by decide) (by decide) (by decide)), Scr_E Z aa (by decide), Img_E I aa lo (by decide), Tpe_E T aa (by decide) (q126 13 (by decide) (by decide) (by decide) (by decide)), Scl_acc Cc ⟨q64 16 (by decide), q64 17 (by decide), q64 18 (by decide), q19⟩ (agr_I aa (by decide)) ⟨q126 11 (by decide) (by decide) (by decide) (by decide), q126 18 (by decide) (by decide) (by decide) (by decide), q126 49 (by decide) (by decide) (by decide) (by decide), hI_sI_s _ _ _ _⟩ (agr_I aa (by decide)), Drw_E D aa (by decide) (q64 15 (by decide)) (q126 53 (by decide) (by decide) (by decide) (by decide)), n, nl, lw, ⟨?_, ⟨by rw [q65 8, if_neg (by decide)]; exact p1, by rw [q128 0 (by decide) (by decide)]; exact p2, p3, fun j hj => ?_, ⟨?_, ?_, ?_⟩, ?_, ?_, ?_, ?_⟩, LwS_c Lw (upk_agr aa lo) (fun k q => by rw [q65 k, if_neg (by omega)]) (by rw [agr_R aa]) (fun l q => q128 l (by omega) (by omega)), HdS_c Hd (fun k q => by rw [q65 k, if_neg (by omega)]) (fun l q => q128 l (by omega) (by omega))⟩, u_und p3 (ClU_fr cU (qc 103 (by omega)) (qc 104 (by omega))) U1 W.2.2.2.2.2⟩, aa.1, aa.2.1⟩
  · intro r r1 r2 k hk
    have : r = 1 ∨ r = 2 ∨ r = 3 ∨ r = 4 := by omega
    have wk := W.2.2.2.1 k hk
    rcases this with rfl | rfl | rfl | rfl
    · show hI _ 66 k = 0; rw [q66]; exact HZ 1 (by omega) (by omega) k hk
    · show hI _ 67 k = 0; rw [q67]; exact HZ 2 (by omega) (by omega) k hk
    · show hI _ 68 k = 0; rw [q68]; exact wk.1
    · show hI _ 69 k = 0; rw [q69]; exact wk.2
  · show hI _ 128 (21 + j) = hI _ 66 j ∧ hI _ 128 (28 + j) = hI _ 67 j ∧ hI _ 128 (7 + j) = hI _ 68 j ∧ hI _ 128 (14 + j) = hI _ 69 j
    rw [q66, q67, q68, q69, hI_sI_a (by decide), hI_sI_a (by decide), hI_sI_a (by decide), hI_sI_a (by decide)]
    exact ⟨Y.rD j hj, Y.rT j hj, Y.rP j hj, Y.rW j hj⟩
  · rw [q65 5, if_pos rfl, hI_sI_a (by decide)]; exact Y.rh
  · rw [q65 6, if_neg (by decide), hI_sI_a (by decide)]; exact h5
  · rw [q65 7, if_neg (by decide), hI_sI_a (by decide)]; exact Y.rr
  · show PegS (hI _ 68) n; rw [q68]; exact W.1
  · show KnoS (hI _ 69) n; rw [q69]; exact W.2.1
  · rw [q65 5, if_pos rfl]; exact W.2.2.1
  · rw [q65 6, if_neg (by decide)]; exact p9
theorem p_hang {a b : Int32} (S : Sim M) (K : Alk d 227 [(0, .ref 126), (1, .int a), (2, .int b)] M Q) : Wp none d 105 0 [(0, .ref 64), (1, .int a), (2, .int b)] [] M Q := by
  have kb : kB = 154 := rfl
  obtain ⟨n, nl, lw, X, H, HO, Y⟩ := Sim_get S
  obtain ⟨_, _, _, _, _, _, n2, nl2, lw2, H2, U2⟩ := S
  have en : n2 = n := by
    have := H2.2.1.1.symm.trans H.2.1.1
    have h1 := H.2.1.2.2.1
    have h2 := H2.2.1.2.2.1
    rw [n_eq (by omega) (by omega)] at this
    exact this
  subst en
  have S : Sim M := ⟨by assumption, by assumption, by assumption, by assumption, by assumption, by assumption, n2, nl2, lw2, H2, U2⟩
  obtain ⟨u, uC, uR, u16, uW⟩ := und_u U2
  have W0 := st0_WF H u16 uW
  have h5 : hI M 128 5 = hI M 65 6 := H.2.1.2.2.2.2.1.2.1
  have n7 := Y.n7
  have ref : ∀ (M1 : hp) (Q2 : Option Value → hp → Prop), RP M1 n2 (hI M 66) (hI M 67) (hI M 68) (hI M 69) (hI M 65 5) (hI M 65 7) (lawOf (hI M 128 3) lw) → (Wp none d 226 0 [(0, .ref 126), (1, .int a), (2, .int b)] [] M1 (fun r M2 => Wp none d 227 12 [(0, .ref 126), (1, .int a), (2, .int b)] (r.toList ++ [.ref 126]) M2 Q2)) → Wp none d 227 0 [(0, .ref 126), (1, .int a), (2, .int b)] [] M1 Q2 := by
    intro M1 Q2 Y1 h
    rw [k227_0 (m_9 Y1.F), o0_id Y1, k227_5, k227_9 (m_9 Y1.F)]
    exact h
  rw [k105_0, x105_5 X]
  refine act_ok (v := 0) (num := b) X HO (st0_Cl uC) W0 (by omega) (fun c => ?_) (fun c M1 X1 C1 => ?_)
  · obtain ⟨v, hv, ev⟩ := why_neg c
    have bb := rsn_lt hv
    rw [ev]
    simp only [oM]
    rw [x105_8 X, T_settled X, if_neg (neg_n hv)]
    simp only [oN]
    rw [k105_11]
    refine p_refused hv S K (fun Q2 ag h => ?_)
    have Y1 := RP_64 Y ag (by decide)
    have A1 : RfA (refM M (-(nI v))) (refM M (-(nI v))) n2 (hI M 66) (hI M 67) (hI M 65 7) (hI M 65 6) (lawOf (hI M 128 3) lw) (st0 M u) := st0_Rf Y1 (by rw [agr_I ag (a := 128) (by decide)]; exact h5) (RfU_fr uR (by rw [agr_I ag (a := 126) (by decide)]) (fun l _ => by rw [agr_I ag (a := 131) (by decide)]) (agr_I ag (by decide)))
    refine ref _ Q2 Y1 (mHangNow (num := b) A1 W0 (fun _ => ?_) (fun z => absurd z c))
    rw [ev]
    simp only [oM]
    rw [k227_12 (m_9 Y1.F), mTell_n Y1.F bb.1 bb.2]
    simp only [oN]
    rw [k227_15]
    exact h
  · have nn := do_nn (D := hI M 66) (T := hI M 67) (rn := hI M 65 7) (L := lawOf (hI M 128 3) lw) n7 (show 0 < 4 by omega) W0 c
    have W1 := doA_WF (D := hI M 66) (T := hI M 67) (rn := hI M 65 7) (L := lawOf (hI M 128 3) lw) n7 (show 0 < 4 by omega) W0 c
    simp only [oM]
    rw [x105_8 X1, T_settled X1, if_pos nn]
    simp only [oN]
    rw [k105_11]
    refine K _ _ (fun Q2 h => ?_)
    have ag : agr (64 :: AE) M (sI M1 64 19 0) := agr_trans (agr_cons 64 C1.1) (agr_sI (by decide))
    have Y1 := RP_64 Y ag (by decide)
    have A1 : RfA (sI M1 64 19 0) (sI M1 64 19 0) n2 (hI M 66) (hI M 67) (hI M 65 7) (hI M 65 6) (lawOf (hI M 128 3) lw) (st0 M u) := st0_Rf Y1 (by rw [agr_I ag (a := 128) (by decide)]; exact h5) (RfU_fr uR (by rw [agr_I ag (a := 126) (by decide)]) (fun l _ => by rw [agr_I ag (a := 131) (by decide)]) (agr_I ag (by decide)))
    refine ref _ Q2 Y1 (mHangNow (num := b) A1 W0 (fun z => absurd c z) (fun _ M2 A2 => ?_))
    simp only [oM]
    rw [k227_12 (m_9 A2.1.F), mTell_p A2.1.F nn]
    simp only [oN]
    rw [k227_15]
    obtain ⟨f1, f2, f3⟩ := Sim_act S H W1 C1 A2
    exact h _ f1 (by omega) (by omega)
theorem p_take {a : Int32} (S : Sim M) (K : Alk d 229 [(0, .ref 126), (1, .int a)] M Q) : Wp none d 106 0 [(0, .ref 64), (1, .int a)] [] M Q := by
  have kb : kB = 154 := rfl
  obtain ⟨n, nl, lw, X, H, HO, Y⟩ := Sim_get S
  obtain ⟨_, _, _, _, _, _, n2, nl2, lw2, H2, U2⟩ := S
  have en : n2 = n := by
    have := H2.2.1.1.symm.trans H.2.1.1
    have h1 := H.2.1.2.2.1
    have h2 := H2.2.1.2.2.1
    rw [n_eq (by omega) (by omega)] at this
    exact this
  subst en
  have S : Sim M := ⟨by assumption, by assumption, by assumption, by assumption, by assumption, by assumption, n2, nl2, lw2, H2, U2⟩
  obtain ⟨u, uC, uR, u16, uW⟩ := und_u U2
  have W0 := st0_WF H u16 uW
  have h5 : hI M 128 5 = hI M 65 6 := H.2.1.2.2.2.2.1.2.1
  have n7 := Y.n7
  have ref : ∀ (M1 : hp) (Q2 : Option Value → hp → Prop), RP M1 n2 (hI M 66) (hI M 67) (hI M 68) (hI M 69) (hI M 65 5) (hI M 65 7) (lawOf (hI M 128 3) lw) → (Wp none d 228 0 [(0, .ref 126), (1, .int a)] [] M1 (fun r M2 => Wp none d 229 11 [(0, .ref 126), (1, .int a)] (r.toList ++ [.ref 126]) M2 Q2)) → Wp none d 229 0 [(0, .ref 126), (1, .int a)] [] M1 Q2 := by
    intro M1 Q2 Y1 h
    rw [k229_0 (m_9 Y1.F), o0_id Y1, k229_5, k229_8 (m_9 Y1.F)]
    exact h
  rw [k106_0, x106_5 X]
  refine act_ok (v := 1) (num := 0) X HO (st0_Cl uC) W0 (by omega) (fun c => ?_) (fun c M1 X1 C1 => ?_)
  · obtain ⟨v, hv, ev⟩ := why_neg c
    have bb := rsn_lt hv
    rw [ev]
    simp only [oM]
    rw [x106_8 X, T_settled X, if_neg (neg_n hv)]
    simp only [oN]
    rw [k106_11]
    refine p_refused hv S K (fun Q2 ag h => ?_)
    have Y1 := RP_64 Y ag (by decide)
    have A1 : RfA (refM M (-(nI v))) (refM M (-(nI v))) n2 (hI M 66) (hI M 67) (hI M 65 7) (hI M 65 6) (lawOf (hI M 128 3) lw) (st0 M u) := st0_Rf Y1 (by rw [agr_I ag (a := 128) (by decide)]; exact h5) (RfU_fr uR (by rw [agr_I ag (a := 126) (by decide)]) (fun l _ => by rw [agr_I ag (a := 131) (by decide)]) (agr_I ag (by decide)))
    refine ref _ Q2 Y1 (mTakeNow (num := 0) A1 W0 (fun _ => ?_) (fun z => absurd z c))
    rw [ev]
    simp only [oM]
    rw [k229_11 (m_9 Y1.F), mTell_n Y1.F bb.1 bb.2]
    simp only [oN]
    rw [k229_14]
    exact h
  · have nn := do_nn (D := hI M 66) (T := hI M 67) (rn := hI M 65 7) (L := lawOf (hI M 128 3) lw) n7 (show 1 < 4 by omega) W0 c
    have W1 := doA_WF (D := hI M 66) (T := hI M 67) (rn := hI M 65 7) (L := lawOf (hI M 128 3) lw) n7 (show 1 < 4 by omega) W0 c
    simp only [oM]
    rw [x106_8 X1, T_settled X1, if_pos nn]
    simp only [oN]
    rw [k106_11]
    refine K _ _ (fun Q2 h => ?_)
    have ag : agr (64 :: AE) M (sI M1 64 19 0) := agr_trans (agr_cons 64 C1.1) (agr_sI (by decide))
    have Y1 := RP_64 Y ag (by decide)
    have A1 : RfA (sI M1 64 19 0) (sI M1 64 19 0) n2 (hI M 66) (hI M 67) (hI M 65 7) (hI M 65 6) (lawOf (hI M 128 3) lw) (st0 M u) := st0_Rf Y1 (by rw [agr_I ag (a := 128) (by decide)]; exact h5) (RfU_fr uR (by rw [agr_I ag (a := 126) (by decide)]) (fun l _ => by rw [agr_I ag (a := 131) (by decide)]) (agr_I ag (by decide)))
    refine ref _ Q2 Y1 (mTakeNow (num := 0) A1 W0 (fun z => absurd c z) (fun _ M2 A2 => ?_))
    simp only [oM]
    rw [k229_11 (m_9 A2.1.F), mTell_p A2.1.F nn]
    simp only [oN]
    rw [k229_14]
    obtain ⟨f1, f2, f3⟩ := Sim_act S H W1 C1 A2
    exact h _ f1 (by omega) (by omega)
theorem p_think {a b : Int32} (S : Sim M) (K : Alk d 231 [(0, .ref 126), (1, .int a), (2, .int b)] M Q) : Wp none d 107 0 [(0, .ref 64), (1, .int a), (2, .int b)] [] M Q := by
  have kb : kB = 154 := rfl
  obtain ⟨n, nl, lw, X, H, HO, Y⟩ := Sim_get S
  obtain ⟨_, _, _, _, _, _, n2, nl2, lw2, H2, U2⟩ := S
  have en : n2 = n := by
    have := H2.2.1.1.symm.trans H.2.1.1
    have h1 := H.2.1.2.2.1
    have h2 := H2.2.1.2.2.1
    rw [n_eq (by omega) (by omega)] at this
    exact this
  subst en
  have S : Sim M := ⟨by assumption, by assumption, by assumption, by assumption, by assumption, by assumption, n2, nl2, lw2, H2, U2⟩
  obtain ⟨u, uC, uR, u16, uW⟩ := und_u U2
  have W0 := st0_WF H u16 uW
  have h5 : hI M 128 5 = hI M 65 6 := H.2.1.2.2.2.2.1.2.1
  have n7 := Y.n7
  have ref : ∀ (M1 : hp) (Q2 : Option Value → hp → Prop), RP M1 n2 (hI M 66) (hI M 67) (hI M 68) (hI M 69) (hI M 65 5) (hI M 65 7) (lawOf (hI M 128 3) lw) → (Wp none d 230 0 [(0, .ref 126), (1, .int a), (2, .int b)] [] M1 (fun r M2 => Wp none d 231 12 [(0, .ref 126), (1, .int a), (2, .int b)] (r.toList ++ [.ref 126]) M2 Q2)) → Wp none d 231 0 [(0, .ref 126), (1, .int a), (2, .int b)] [] M1 Q2 := by
    intro M1 Q2 Y1 h
    rw [k231_0 (m_9 Y1.F), o0_id Y1, k231_5, k231_9 (m_9 Y1.F)]
    exact h
  rw [k107_0, x107_5 X]
  refine act_ok (v := 2) (num := b) X HO (st0_Cl uC) W0 (by omega) (fun c => ?_) (fun c M1 X1 C1 => ?_)
  · obtain ⟨v, hv, ev⟩ := why_neg c
    have bb := rsn_lt hv
    rw [ev]
    simp only [oM]
    rw [x107_8 X, T_settled X, if_neg (neg_n hv)]
    simp only [oN]
    rw [k107_11]
    refine p_refused hv S K (fun Q2 ag h => ?_)
    have Y1 := RP_64 Y ag (by decide)
    have A1 : RfA (refM M (-(nI v))) (refM M (-(nI v))) n2 (hI M 66) (hI M 67) (hI M 65 7) (hI M 65 6) (lawOf (hI M 128 3) lw) (st0 M u) := st0_Rf Y1 (by rw [agr_I ag (a := 128) (by decide)]; exact h5) (RfU_fr uR (by rw [agr_I ag (a := 126) (by decide)]) (fun l _ => by rw [agr_I ag (a := 131) (by decide)]) (agr_I ag (by decide)))
    refine ref _ Q2 Y1 (mThinkNow (num := b) A1 W0 (fun _ => ?_) (fun z => absurd z c))
    rw [ev]
    simp only [oM]
    rw [k231_12 (m_9 Y1.F), mTell_n Y1.F bb.1 bb.2]
    simp only [oN]
    rw [k231_15]
    exact h
  · have nn := do_nn (D := hI M 66) (T := hI M 67) (rn := hI M 65 7) (L := lawOf (hI M 128 3) lw) n7 (show 2 < 4 by omega) W0 c
    have W1 := doA_WF (D := hI M 66) (T := hI M 67) (rn := hI M 65 7) (L := lawOf (hI M 128 3) lw) n7 (show 2 < 4 by omega) W0 c
    simp only [oM]
    rw [x107_8 X1, T_settled X1, if_pos nn]
    simp only [oN]
    rw [k107_11]
    refine K _ _ (fun Q2 h => ?_)
    have ag : agr (64 :: AE) M (sI M1 64 19 0) := agr_trans (agr_cons 64 C1.1) (agr_sI (by decide))
    have Y1 := RP_64 Y ag (by decide)
    have A1 : RfA (sI M1 64 19 0) (sI M1 64 19 0) n2 (hI M 66) (hI M 67) (hI M 65 7) (hI M 65 6) (lawOf (hI M 128 3) lw) (st0 M u) := st0_Rf Y1 (by rw [agr_I ag (a := 128) (by decide)]; exact h5) (RfU_fr uR (by rw [agr_I ag (a := 126) (by decide)]) (fun l _ => by rw [agr_I ag (a := 131) (by decide)]) (agr_I ag (by decide)))
    refine ref _ Q2 Y1 (mThinkNow (num := b) A1 W0 (fun z => absurd c z) (fun _ M2 A2 => ?_))
    simp only [oM]
    rw [k231_12 (m_9 A2.1.F), mTell_p A2.1.F nn]
    simp only [oN]
    rw [k231_15]
    obtain ⟨f1, f2, f3⟩ := Sim_act S H W1 C1 A2
    exact h _ f1 (by omega) (by omega)
theorem p_pass (S : Sim M) (K : Alk d 234 [(0, .ref 126)] M Q) : Wp none d 108 0 [(0, .ref 64)] [] M Q := by
  have kb : kB = 154 := rfl
  obtain ⟨n, nl, lw, X, H, HO, Y⟩ := Sim_get S
  obtain ⟨_, _, _, _, _, _, n2, nl2, lw2, H2, U2⟩ := S
  have en : n2 = n := by
    have := H2.2.1.1.symm.trans H.2.1.1
    have h1 := H.2.1.2.2.1
    have h2 := H2.2.1.2.2.1
    rw [n_eq (by omega) (by omega)] at this
    exact this
  subst en
  have S : Sim M := ⟨by assumption, by assumption, by assumption, by assumption, by assumption, by assumption, n2, nl2, lw2, H2, U2⟩
  obtain ⟨u, uC, uR, u16, uW⟩ := und_u U2
  have W0 := st0_WF H u16 uW
  have h5 : hI M 128 5 = hI M 65 6 := H.2.1.2.2.2.2.1.2.1
  have n7 := Y.n7
  have ref : ∀ (M1 : hp) (Q2 : Option Value → hp → Prop), RP M1 n2 (hI M 66) (hI M 67) (hI M 68) (hI M 69) (hI M 65 5) (hI M 65 7) (lawOf (hI M 128 3) lw) → (Wp none d 233 0 [(0, .ref 126)] [] M1 (fun r M2 => Wp none d 234 10 [(0, .ref 126)] (r.toList ++ [.ref 126]) M2 Q2)) → Wp none d 234 0 [(0, .ref 126)] [] M1 Q2 := by
    intro M1 Q2 Y1 h
    rw [k234_0 (m_9 Y1.F), o0_id Y1, k234_5, k234_7 (m_9 Y1.F)]
    exact h
  rw [k108_0, x108_5 X]
  refine act_ok (v := 3) (num := 0) X HO (st0_Cl uC) W0 (by omega) (fun c => ?_) (fun c M1 X1 C1 => ?_)
  · obtain ⟨v, hv, ev⟩ := why_neg c
    have bb := rsn_lt hv
    rw [ev]
    simp only [oM]
    rw [x108_8 X, T_settled X, if_neg (neg_n hv)]
    simp only [oN]
    rw [k108_11]
    refine p_refused hv S K (fun Q2 ag h => ?_)
    have Y1 := RP_64 Y ag (by decide)
    have A1 : RfA (refM M (-(nI v))) (refM M (-(nI v))) n2 (hI M 66) (hI M 67) (hI M 65 7) (hI M 65 6) (lawOf (hI M 128 3) lw) (st0 M u) := st0_Rf Y1 (by rw [agr_I ag (a := 128) (by decide)]; exact h5) (RfU_fr uR (by rw [agr_I ag (a := 126) (by decide)]) (fun l _ => by rw [agr_I ag (a := 131) (by decide)]) (agr_I ag (by decide)))
    refine ref _ Q2 Y1 (mPassNow (hat := 0) (num := 0) A1 W0 (fun _ => ?_) (fun z => absurd z c))
    rw [ev]
    simp only [oM]
    rw [k234_10 (m_9 Y1.F), mTell_n Y1.F bb.1 bb.2]
    simp only [oN]
    rw [k234_13]
    exact h
  · have nn := do_nn (D := hI M 66) (T := hI M 67) (rn := hI M 65 7) (L := lawOf (hI M 128 3) lw) n7 (show 3 < 4 by omega) W0 c
    have W1 := doA_WF (D := hI M 66) (T := hI M 67) (rn := hI M 65 7) (L := lawOf (hI M 128 3) lw) n7 (show 3 < 4 by omega) W0 c
    simp only [oM]
    rw [x108_8 X1, T_settled X1, if_pos nn]
    simp only [oN]
    rw [k108_11]
    refine K _ _ (fun Q2 h => ?_)
    have ag : agr (64 :: AE) M (sI M1 64 19 0) := agr_trans (agr_cons 64 C1.1) (agr_sI (by decide))
    have Y1 := RP_64 Y ag (by decide)
    have A1 : RfA (sI M1 64 19 0) (sI M1 64 19 0) n2 (hI M 66) (hI M 67) (hI M 65 7) (hI M 65 6) (lawOf (hI M 128 3) lw) (st0 M u) := st0_Rf Y1 (by rw [agr_I ag (a := 128) (by decide)]; exact h5) (RfU_fr uR (by rw [agr_I ag (a := 126) (by decide)]) (fun l _ => by rw [agr_I ag (a := 131) (by decide)]) (agr_I ag (by decide)))
    refine ref _ Q2 Y1 (mPassNow (hat := 0) (num := 0) A1 W0 (fun z => absurd c z) (fun _ M2 A2 => ?_))
    simp only [oM]
    rw [k234_10 (m_9 A2.1.F), mTell_p A2.1.F nn]
    simp only [oN]
    rw [k234_13]
    obtain ⟨f1, f2, f3⟩ := Sim_act S H W1 C1 A2
    exact h _ f1 (by omega) (by omega)
