variable {d : Nat} {M : hp} {Q : Option Value → hp → Prop}
/-! law(): class and reference -/
def SmL : List Nat := [141, 142, 143, 151, 102, 129, 130, 153] ++ hallC 71 ++ hallC 77 ++ hallC 83 ++ hallC 90 ++ hallC 96
theorem Sim_E2 {E : List Nat} {M2 : hp} (S : Sim M) (un : hN M ≤ hN M2) (gK : ∀ a, a < 64 + hN M → hK M2 a = hK M a) (gI : ∀ a, a < 64 + hN M → E.contains a = false → hI M2 a = hI M a ∧ hL M2 a = hL M a) (gR : ∀ a, a < 64 + hN M → ¬ a = 70 → hR M2 a = hR M a) (hE : nin E SmL = true) (lo : low E) (e20 : hI M2 126 20 = 0) (e0 : hI M2 126 0 = 0) (T2 : Tpe M2) (C2 : Scl M2) (e15 : hI M2 64 15 = hI M 64 15) (e53 : hI M2 126 53 = hI M 126 53) (HU : ∃ n nl lw, HC M2 65 (hI M2 128) n nl lw ∧ Und M2 n) : Sim M2 := by
  have kb : kB = 154 := rfl
  obtain ⟨B, ⟨z1, z2, z3, z4, z5⟩, ⟨i1, i2⟩, T, C, D, _⟩ := S
  have b90 := B.1
  have u : upk M M2 := ⟨un, gK, fun a q1 q2 => ⟨(gI a q2 (low_not lo q1)).1, gR a q2 (by omega)⟩⟩
  have r5 : ∀ r, r ≤ 4 → r = 0 ∨ r = 1 ∨ r = 2 ∨ r = 3 ∨ r = 4 := by omega
  have g : ∀ h, h + 4 < 154 → (∀ r, r ≤ 4 → SmL.contains (h + r) = true) → ∀ r, r ≤ 4 → hI M2 (h + r) = hI M (h + r) := fun h q0 q r hr => (gI _ (by omega) (nin_at hE (q r hr))).1
  have h71 := g 71 (by omega) (fun r hr => by rcases r5 r hr with rfl | rfl | rfl | rfl | rfl <;> decide)
  have h77 := g 77 (by omega) (fun r hr => by rcases r5 r hr with rfl | rfl | rfl | rfl | rfl <;> decide)
  have h83 := g 83 (by omega) (fun r hr => by rcases r5 r hr with rfl | rfl | rfl | rfl | rfl <;> decide)
  have h90 := g 90 (by omega) (fun r hr => by rcases r5 r hr with rfl | rfl | rfl | rfl | rfl <;> decide)
  have h96 := g 96 (by omega) (fun r hr => by rcases r5 r hr with rfl | rfl | rfl | rfl | rfl <;> decide)
  have o : ∀ x, x < 154 → SmL.contains x = true → hI M2 x = hI M x := fun x q0 q => (gI _ (by omega) (nin_at hE q)).1
  have oL : ∀ x, x < 154 → SmL.contains x = true → hL M2 x = hL M x := fun x q0 q => (gI _ (by omega) (nin_at hE q)).2
  exact ⟨SimB_fr B un (fun x q => gK x (by omega)) (fun x q z => gR x (by omega) (fun e => z (by rw [e]; exact Or.inl rfl))) (oL 141 (by decide) (by decide)) (oL 142 (by decide) (by decide)) (oL 143 (by decide) (by decide)) (oL 151 (by decide) (by decide)) (e20.trans B.2.2.2.2.1.symm) (e0.trans B.2.2.2.2.2.symm), ⟨HallZ_fr z1 h71, HallZ_fr z2 h77, HallZ_fr z3 h83, HallZ_fr z4 h90, HallZ_fr z5 h96⟩, ⟨Im1_fr i1 u (o 102 (by decide) (by decide)) (o 130 (by decide) (by decide)) (o 129 (by decide) (by decide)) h90 (gR _ (by omega) (by omega)), Im1_fr i2 u (o 102 (by decide) (by decide)) (o 130 (by decide) (by decide)) (o 129 (by decide) (by decide)) h96 (gR _ (by omega) (by omega))⟩, T2, C2, Drw_fr D e15 (by rw [o 83 (by decide) (by decide)]) e53 (o 153 (by decide) (by decide)) (o 86 (by decide) (by decide)) (o 87 (by decide) (by decide)), HU⟩
def LwE : List Nat := [64, 65, 107, 109, 110, 111, 112, 126, 128, 136, 137, 138, 139, 140]
theorem Sim_law {M1 Mr Mc : hp} {nl n len len2 : Nat} {cf : Nat → Cls} (S : Sim M) (h6 : nl < 6) (h9 : hI M 65 9 = nI nl) (C1 : LwC M M1 nl len n cf) (hlen : len ≤ 400) (hn : n ≤ 12) (hlen2 : len2 ≤ 400) (F : FE 136 M1 Mr) (f18 : hI Mr 126 18 = -1) (c : CpR Mr Mc nl n len2) (hc : ∀ j, j < n → mClsR Mr len2 j (cf j)) : Sim (sI Mc 126 1 0) ∧ hN (sI Mc 126 1 0) ≤ hN M + 3 ∧ hS (sI Mc 126 1 0) ≤ hS M + 500 := by
  have kb : kB = 154 := rfl
  have S0 := S
  obtain ⟨l1, l2, l3, l4, l5, l6, l7, l8, l9, l10, l11, l12⟩ := C1
  obtain ⟨F1, F2, F3, F4, F5⟩ := F
  obtain ⟨c1, c2, c3, c4, c5, c6⟩ := c
  have rr : agr [126, 128, 136, 137, 138, 139, 140] M1 (sI Mc 126 1 0) := agr_trans (agr_mono F1 (by intro x q; simp at q ⊢; omega)) (agr_trans (agr_mono c1 (by intro x q; simp at q ⊢; omega)) (agr_sI (by decide)))
  obtain ⟨B, Z, I, T, C, D, n0, nl', lw, H, U⟩ := S
  have b90 := B.1
  have en : nl' = nl := by
    have q1 := H.2.2.1.1
    have q2 := H.2.2.1.2.2.1
    rw [h9, n_eq (by omega) (by omega)] at q1
    exact q1.symm
  subst en
  have rI : ∀ x, [126, 128, 136, 137, 138, 139, 140].contains x = false → hI (sI Mc 126 1 0) x = hI M1 x := fun x q => agr_I rr q
  have q126 : ∀ k, ¬ k = 1 → hI (sI Mc 126 1 0) 126 k = hI Mr 126 k := fun k q => by rw [hI_sI_k q, agr_I c1 (by decide)]
  have m126 : ∀ k, hI M1 126 k = hI M 126 k := fun k => by rw [(l4 126 (by omega) (by decide)).1]
  have r128 : hI Mr 128 = hI M 128 := (agr_I F1 (by decide)).trans (l4 128 (by omega) (by decide)).1
  have q128 : hI (sI Mc 126 1 0) 128 = hI Mc 128 := by funext l; exact hI_sI_a (by decide)
  have t126 : ∀ k, tf k = false → ¬ k = 1 → hI (sI Mc 126 1 0) 126 k = hI M 126 k := fun k q q2 => (q126 k q2).trans ((F2 k q).trans (m126 k))
  have gI : ∀ a, a < 64 + hN M → LwE.contains a = false → hI (sI Mc 126 1 0) a = hI M a ∧ hL (sI Mc 126 1 0) a = hL M a := by
    intro a q1 q2
    have z1 : [126, 128, 136, 137, 138, 139, 140].contains a = false := by simp [LwE] at q2 ⊢; omega
    have z2 : [64, 65, 107, 109, 110, 111, 112].contains a = false := by simp [LwE] at q2 ⊢; omega
    exact ⟨(agr_I rr z1).trans (l4 a q1 z2).1, (agr_L rr z1).trans (l4 a q1 z2).2⟩
  have gR : ∀ a, a < 64 + hN M → ¬ a = 70 → hR (sI Mc 126 1 0) a = hR M a := fun a q1 q2 => (congrFun (agr_R rr) a).trans (l5 a q1 q2)
  have gK : ∀ a, a < 64 + hN M → hK (sI Mc 126 1 0) a = hK M a := fun a q => (congrFun (agr_K rr) a).trans (l3 a q)
  have gN : hN (sI Mc 126 1 0) = hN M + 3 := rr.1.trans l1
  have lo : low LwE := by intro x q; simp [LwE] at q; omega
  have u : upk M (sI Mc 126 1 0) := ⟨by omega, gK, fun a q1 q2 => ⟨(gI a q2 (low_not lo q1)).1, gR a q2 (by omega)⟩⟩
  have k65 : ∀ k, hI (sI Mc 126 1 0) 65 k = if k = 9 then nI (nl' + 1) else hI M 65 k := fun k => by rw [rI 65 (by decide)]; exact l7 k
  have k64 : ∀ k, hI (sI Mc 126 1 0) 64 k = hI M1 64 k := fun k => by rw [rI 64 (by decide)]
  have e70 : ∀ i, hR (sI Mc 126 1 0) 70 i = if i = nl' then 64 + hN M else hR M 70 i := fun i => (congrFun (congrFun (agr_R rr) 70) i).trans (l6 i)
  have rw' : ∀ l, ¬ l = 2 → ¬ (47 + 900 * nl' ≤ l ∧ l < 947 + 900 * nl') → hI (sI Mc 126 1 0) 128 l = hI M 128 l := fun l q1 q2 => by rw [q128, c6 l q1 q2, r128]
  have TB2 : TxB (sI Mc 126 1 0) (64 + hN M) (n, cf) := by
    refine TxB_up l12 ⟨by rw [rr.1]; exact Nat.le_refl _, fun a _ => by rw [agr_K rr], fun a q1 q2 => ⟨agr_I rr ?_, by rw [agr_R rr]⟩⟩
    simp
    omega
  refine ⟨Sim_E2 S0 (by omega) gK gI gR (E := LwE) (by decide) lo ?_ ?_ ?_ ?_ ?_ ?_ ?_, by omega, ?_⟩
  · rw [q126 20 (by decide)]; exact F4
  · rw [t126 0 (by decide) (by decide)]; exact B.2.2.2.2.2
  · exact ⟨fun _ => 0, 0, by omega, by rw [rI 107 (by decide)]; exact l11, by rw [q126 13 (by decide)]; exact F5, fun i hi => absurd hi (by omega), fun _ => by show 0 < 256; omega⟩
  · obtain ⟨c1, c2, c3, c4, c5⟩ := C
    refine ⟨?_, ?_, ?_, ?_, ?_⟩
    · rw [k64, l8 16 (by decide) (by decide), t126 11 (by decide) (by decide)]; exact c1
    · rw [k64, l9, q126 18 (by decide)]; exact f18.symm
    · rw [k64, l8 18 (by decide) (by decide), t126 49 (by decide) (by decide)]; exact c3
    · rw [k64, l10, hI_sI_s]
    · rw [(gI 125 (by omega) (by decide)).1, (gI 127 (by omega) (by decide)).1]; exact c5
  · rw [k64, l8 15 (by decide) (by decide)]
  · exact t126 53 (by decide) (by decide)
  · have h65 : ∀ r, 1 ≤ r → r ≤ 4 → hI (sI Mc 126 1 0) (65 + r) = hI M (65 + r) := fun r r1 r2 => (gI (65 + r) (by omega) (by simp [LwE]; omega)).1
    refine ⟨n0, nl' + 1, fun i => if i = nl' then (n, cf) else lw i, ⟨HallZ_c H.1 h65, PiS_c H.2.1 (fun k q => by rw [k65, if_neg (by omega)]) h65 (fun l q => rw' l (by omega) (by omega)), ?_, HdS_c H.2.2.2 (fun k q => by rw [k65, if_neg (by omega)]) (fun l q => rw' l (by omega) (by omega))⟩, ?_⟩
    · obtain ⟨w1, w2, w3, w4, w5, w6, w7⟩ := H.2.2.1
      refine ⟨by rw [k65, if_pos rfl], by rw [q128]; exact c2, by omega, fun i hi => ?_, fun i hi => ?_, ?_, ?_⟩
      · rw [show (65 + 5 : Nat) = 70 from rfl, e70]
        by_cases q : i = nl'
        · rw [if_pos q]
          simp only [if_pos q]
          refine ⟨TB2, len2, hlen2, hn, ?_, fun j hj => ?_⟩
          · rw [q128, q]; exact c3
          · have := rowR_of (hc j hj) ⟨c1, c2, c3, c4, c5, c6⟩ hj
            rw [q]
            refine rowR_128 this ?_
            rw [rM_R, q128]
        · rw [if_neg q]
          simp only [if_neg q]
          refine ⟨TxB_up (w4 i (by omega)).1 u, LwF_reg (w4 i (by omega)).2 (fun l q1 q2 => rw' l (by omega) (by omega))⟩
      · rw [show (65 + 5 : Nat) = 70 from rfl, e70]
        by_cases q : i = nl'
        · rw [if_pos q]
          exact Or.inr ⟨TxB_7 TB2, by omega⟩
        · rw [if_neg q]
          rcases w5 i hi with z | z
          · exact Or.inl z
          · have z2 : hR M 70 i < 64 + hN M := z.2
            exact Or.inr ⟨by rw [gK _ z2]; exact z.1, by omega⟩
      · rw [k65, if_neg (by decide), rw' 3 (by decide) (by omega)]; exact w6
      · rw [rw' 3 (by decide) (by omega)]
        rcases w7 with z | ⟨i, z1, z2⟩
        · exact Or.inl z
        · exact Or.inr ⟨i, by omega, z2⟩
    · exact Und_fr U (gI 103 (by omega) (by decide)).1 (gI 104 (by omega) (by decide)).1 (by rw [k65, if_neg (by decide)]) (by rw [k65, if_neg (by decide)]) (t126 8 (by decide) (by decide)) (fun l _ => by rw [(gI 131 (by omega) (by decide)).1]) (gI 132 (by omega) (by decide)).1
  · rw [show hS (sI Mc 126 1 0) = hS M1 from rr.2.1, l2]
    omega
theorem p_law {e : Nat} (S : Sim M) (K : Alk (8 + e) 213 [(0, .ref 126)] M Q) : Wp none (8 + e) 100 0 [(0, .ref 64)] [] M Q := by
  have kb : kB = 154 := rfl
  obtain ⟨n, nl, lw, X, H, HO, Y⟩ := Sim_get S
  have b90 := S.1.1
  have F := Y.F
  obtain ⟨b, L, tL, t1, t2, t3, t4⟩ := S.2.2.2.1
  have Lw := H.2.2.1
  have n6 := Lw.2.2.1
  have T : TB M b L := ⟨t1, tL, fun i hi => (t3 i hi).1, t4⟩
  have Tm : TR M b L := ⟨t2, tL, fun i hi => (t3 i hi).2, t4⟩
  have W := S.1.2.2.2.1
  rw [x100_0 X, Lw.1, k100_9, show (6 : Int32) = nI 6 from rfl]
  have go : ∀ {M1 : hp} {Q2 : Option Value → hp → Prop} (F1 : MF M1), sI M1 126 0 0 = M1 → hI M1 128 2 = nI nl → Wp none (8 + e) 213 13 [(0, .ref 126)] [.int 6, .int (nI nl)] M1 Q2 → Wp none (8 + e) 213 0 [(0, .ref 126)] [] M1 Q2 := by
    intro M1 Q2 F1 o0 q2 w
    rw [m213_0 F1, o0, m213_5 F1 (by decide), show (2 : Int32).toNatClampNeg = 2 from rfl, q2]
    exact w
  by_cases c : nl = 6
  · have X1 : XS (sI M 107 1 0) := X
    rw [if_neg (by rw [n_lt (by omega) (by omega)]; omega), x100_12 X, k100_20, x100_23 X1, T_refused X1]
    simp only [oN]
    rw [k100_26, show (-5 : Int32) = -(nI 5) from by decide]
    refine K _ _ (fun Q2 h => ?_)
    have a : agr [107, 64, 125] M (refM (sI M 107 1 0) (-(nI 5))) := agr_trans (agr_sI (by decide)) (agr_trans (agr_sI (by decide)) (agr_sI (by decide)))
    have Y1 := RP_64 Y a (by decide)
    have F2 : MF (sI (refM (sI M 107 1 0) (-(nI 5))) 126 13 0) := Y1.F
    refine go Y1.F (o0_id Y1) (by rw [agr_I a (by decide)]; exact Lw.2.1) ?_
    rw [k213_13, if_neg (by rw [c]; exact fun q => q rfl), m213_16 Y1.F, k213_21, m213_24 F2, show (-5 : Int32) = -(nI 5) from by decide, mTell_n F2 (by omega) (by omega)]
    simp only [oN]
    rw [k213_27]
    have fr : ∀ k, ¬ k = 13 → hI (sI (refM (sI M 107 1 0) (-(nI 5))) 126 13 0) 126 k = hI M 126 k := fun k q => by rw [hI_sI_k q, agr_I a (a := 126) (by decide)]
    obtain ⟨s1, s2, s3⟩ := Sim_bad (v := 5) (by unfold rsnOk; omega) S (Mx := sI M 107 1 0) (My := sI (refM (sI M 107 1 0) (-(nI 5))) 126 13 0) (agr_sI (by decide)) (fun k _ _ => hI_sI_a (by decide)) (hI_sI_s _ _ _ _) (agr_sI (by decide)) (fun k q _ => fr k (tf_ne q).2.2) ((fr 20 (by decide)).trans S.1.2.2.2.2.1) (hI_sI_s _ _ _ _) (by rw [hI_sI_a (by decide), fr 18 (by decide)]; exact S.2.2.2.2.1.2.1) (by rw [hI_sI_a (by decide), fr 49 (by decide)]; exact S.2.2.2.2.1.2.2.1)
    exact h _ s1 (by omega) (by omega)
  rw [if_pos (by rw [n_lt (by omega) (by omega)]; omega), x100_27 X, x100_32 X (x_K109 X)]
  have start : ∀ {M1 : hp} {Q2 : Option Value → hp → Prop}, agr [64, 65, 107, 109, 110, 111, 112, 125] M M1 ∨ (∀ x, x = 126 ∨ x = 128 → hI M1 x = hI M x) ∧ MF M1 ∧ (∀ i, i < L → hI M1 135 i = hI M 135 i) ∧ MWd M1 → Wp none (8 + e) 213 28 [(0, .ref 126)] [] M1 Q2 → Wp none (8 + e) 213 0 [(0, .ref 126)] [] M1 Q2 := by
    intro M1 Q2 hm w
    have g : (∀ x, x = 126 ∨ x = 128 → hI M1 x = hI M x) ∧ MF M1 := by
      rcases hm with a | z
      · exact ⟨fun x q => by rcases q with rfl | rfl <;> exact agr_I a (by decide), MF_agr F a⟩
      · exact ⟨z.1, z.2.1⟩
    refine go g.2 (o0_id (RP_of Y g.2 (g.1 128 (Or.inr rfl)) (by rw [g.1 126 (Or.inl rfl)]; exact Y.o20) (by rw [g.1 126 (Or.inl rfl)]; exact Y.o0))) (by rw [g.1 128 (Or.inr rfl)]; exact Lw.2.1) ?_
    rw [k213_13, if_pos (by rw [show (6 : Int32) = nI 6 from rfl, n_eq (by omega) (by omega)]; exact c)]
    exact w
  refine read_law (XS_RXF X) T ?_
  cases hP : lawP b L with
  | inl q =>
    intro M' a f
    simp only [oN]
    have X' : XS M' := XS_same (sameS_agq (agq_of (B := []) a) (by intro x q; simp at q)) X
    have Xa : XS (sI M' 64 17 (nI q)) := X'
    have Xb : XS (sI (sI M' 64 17 (nI q)) 107 1 0) := X'
    rw [k100_35, x100_37 X', x138_0 X', f, x138_11 Xa]
    simp only [oZ]
    rw [k100_40, k100_41, if_neg (fun z => z rfl), k100_44, x100_47 Xb, T_refused Xb]
    simp only [oN]
    rw [k100_50, show (-6 : Int32) = -(nI 6) from by decide]
    refine K _ _ (fun Q2 h => ?_)
    have ax : agr [64, 107, 109, 110, 111, 112] M (sI (sI M' 64 17 (nI q)) 107 1 0) := agr_trans (agr_mono a (by intro x q; simp at q ⊢; omega)) (agr_trans (agr_sI (by decide)) (agr_sI (by decide)))
    have ab : agr [64, 125] (sI (sI M' 64 17 (nI q)) 107 1 0) (refM (sI (sI M' 64 17 (nI q)) 107 1 0) (-(nI 6))) := agr_trans (agr_sI (by decide)) (agr_sI (by decide))
    have x64 : ∀ k, ¬ k = 17 → hI (sI (sI M' 64 17 (nI q)) 107 1 0) 64 k = hI M 64 k := fun k z => by rw [hI_sI_a (by decide), hI_sI_k z, agr_I a (a := 64) (by decide)]
    have x17 : hI (sI (sI M' 64 17 (nI q)) 107 1 0) 64 17 = nI q := by rw [hI_sI_a (by decide), hI_sI_s]
    have x107 : hI (sI (sI M' 64 17 (nI q)) 107 1 0) 107 1 = 0 := hI_sI_s _ _ _ _
    generalize sI (sI M' 64 17 (nI q)) 107 1 0 = Mx at *
    have aall : agr [64, 65, 107, 109, 110, 111, 112, 125] M (refM Mx (-(nI 6))) := agr_trans (agr_mono ax (by intro x q; simp at q ⊢; omega)) (agr_mono ab (by intro x q; simp at q ⊢; omega))
    have F1 : MF (refM Mx (-(nI 6))) := MF_agr F aall
    refine start (Or.inl aall) ?_
    refine law_text F1 ⟨by rw [agr_I aall (a := 126) (by decide)]; exact t2, tL, fun i hi => by rw [agr_I aall (a := 135) (by decide)]; exact (t3 i hi).2, t4⟩ (MWd_of W (agr_L aall (by decide)) (agr_L aall (by decide)) (agr_L aall (by decide)) (agr_L aall (by decide))) ?_
    rw [hP]
    intro My FEy f19 f18
    have Fy := MF_agr F1 FEy.1
    show Wp none (8 + e) 213 68 [(0, .ref 126)] [] My Q2
    rw [m213_68 Fy, f19, k213_72, if_neg (by decide), k213_75, m213_78 Fy, show (-6 : Int32) = -(nI 6) from by decide, mTell_n Fy (by omega) (by omega)]
    simp only [oN]
    rw [k213_81]
    obtain ⟨s1, s2, s3⟩ := Sim_bad (v := 6) (by unfold rsnOk; omega) S (Mx := Mx) (My := My) ax (fun k q _ => x64 k q) x107 (agr_mono FEy.1 (by intro x q; simp at q ⊢; omega)) (fun k q _ => (FEy.2.1 k q).trans (by rw [agr_I aall (a := 126) (by decide)])) FEy.2.2.2.1 FEy.2.2.2.2 (x17.trans f18.symm) ((x64 18 (by decide)).trans (S.2.2.2.2.1.2.2.1.trans ((FEy.2.1 49 (by decide)).trans (by rw [agr_I aall (a := 126) (by decide)])).symm))
    exact h _ s1 (by omega) (by omega)
  | inr w =>
    obtain ⟨nn, cf⟩ := w
    intro M' len a f2 f3 f4 hlen hn hc
    simp only [oN]
    rw [k100_35]
    refine law_tail X b90 (show nl < 6 by omega) Lw.1 a f2 f3 f4 hlen hn hc (by decide) (fun M1 C1 => ?_)
    refine K _ _ (fun Q2 h => ?_)
    have C1' := C1
    obtain ⟨l1, l2, l3, l4, l5, l6, l7, l8, l9, l10, l11, l12⟩ := C1'
    have g126 : ∀ x, x = 126 ∨ x = 128 ∨ x = 135 → hI M1 x = hI M x := fun x q => (l4 x (by omega) (by rcases q with rfl | rfl | rfl <;> decide)).1
    have F1 : MF M1 := MF_126 F (fun x q => l3 x (by omega)) (l5 126 (by omega) (by decide))
    have W1 : MWd M1 := MWd_of W (l4 141 (by omega) (by decide)).2 (l4 142 (by omega) (by decide)).2 (l4 143 (by omega) (by decide)).2 (l4 151 (by omega) (by decide)).2
    refine start (Or.inr ⟨fun x q => g126 x (by omega), F1, fun i _ => by rw [g126 135 (by omega)], W1⟩) ?_
    refine law_text F1 ⟨by rw [g126 126 (by omega)]; exact t2, tL, fun i hi => by rw [g126 135 (by omega)]; exact (t3 i hi).2, t4⟩ W1 ?_
    rw [hP]
    intro Mr len2 FEr f19 f18 f21 f23 hlen2 hn1 hn2 hcr
    have Fr := MF_agr F1 FEr.1
    show Wp none (8 + e) 213 68 [(0, .ref 126)] [] Mr Q2
    rw [m213_68 Fr, f19, k213_72, if_pos rfl]
    refine law_copy Fr (show hI Mr 128 2 = nI nl from by rw [agr_I FEr.1 (a := 128) (by decide), g126 128 (by omega)]; exact Lw.2.1) (by omega) f21 hn2 f23 hlen2 (fun Mc cp => ?_)
    have Fc := MF_agr Fr cp.1
    rw [m213_218 Fc, mTell_p Fc (nn_n (by omega))]
    simp only [oN]
    rw [k213_221]
    obtain ⟨s1, s2, s3⟩ := Sim_law S (by omega) Lw.1 C1 hlen hn hlen2 FEr f18 cp hcr
    exact h _ s1 s2 s3
