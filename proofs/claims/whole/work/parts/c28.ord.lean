variable {d : Nat} {M : hp} {Q : Option Value → hp → Prop}
/-! orders(): class and reference -/
theorem p_orders {e : Nat} (S : Sim M) (K : Alk (8 + e) 262 [(0, .ref 126)] M Q) : Wp none (8 + e) 101 0 [(0, .ref 64)] [] M Q := by
  have kb : kB = 154 := rfl
  obtain ⟨n, nl, lw, X, H, HO, Y⟩ := Sim_get S
  have n7 := Y.n7
  have F := Y.F
  obtain ⟨b, L, tL, t1, t2, t3, t4⟩ := S.2.2.2.1
  have W0 := S.1.2.2.2.1
  have Z77 := S.2.1.2.1
  obtain ⟨u, uC, uR, u16, uW⟩ : ∃ u, ClU M u ∧ RfU M (hI M 65 6) (hI M 65 7) u ∧ u.1 ≤ 16 ∧ ∀ k, k < u.1 → WFe n (u.2 k) := by
    obtain ⟨_, _, _, _, _, _, n2, nl2, lw2, H2, U2⟩ := S
    have en : n2 = n := by
      have q := H2.2.1.1.symm.trans H.2.1.1
      have q1 := H2.2.1.2.2.1
      rw [n_eq (by omega) (by omega)] at q
      exact q
    rw [en] at U2
    exact und_u U2
  have Xa : XS (sI M 64 18 (-1)) := X
  have aa : agr [64] M (sI M 64 18 (-1)) := agr_sI (by decide)
  have T : TB (sI M 64 18 (-1)) b L := ⟨by rw [hI_sI_a (by decide)]; exact t1, tL, fun i hi => by rw [hI_sI_a (by decide)]; exact (t3 i hi).1, t4⟩
  have a18 : ∀ k, ¬ k = 18 → hI (sI M 64 18 (-1)) 64 k = hI M 64 k := fun k q => hI_sI_k q
  have a18s : hI (sI M 64 18 (-1)) 64 18 = -1 := hI_sI_s _ _ _ _
  rw [x101_0 X, x101_5 Xa, x101_10 Xa (x_K109 Xa)]
  generalize sI M 64 18 (-1) = Ma at *
  have start : ∀ {M1 : hp} {Q2 : Option Value → hp → Prop}, (∀ x, x = 126 ∨ x = 128 ∨ x = 135 → hI M1 x = hI M x) → MF M1 → (∀ x, x = 141 ∨ x = 142 ∨ x = 143 ∨ x = 151 → hL M1 x = hL M x) → MRes 152 mOrdR (sI M1 126 49 (-1)) (fun M' => Wp none (8 + e) 262 50 [(0, .ref 126)] [] M' Q2) (ordP b L) → Wp none (8 + e) 262 0 [(0, .ref 126)] [] M1 Q2 := by
    intro M1 Q2 g F1 gl w
    have o0 : sI M1 126 0 0 = M1 := o0_id (RP_of Y F1 (g 128 (by omega)) (by rw [g 126 (by omega)]; exact Y.o20) (by rw [g 126 (by omega)]; exact Y.o0))
    have F2 : MF (sI M1 126 49 (-1)) := F1
    rw [m262_0 F1, o0, m262_5 F1]
    refine ord_text F2 ⟨by rw [hI_sI_k (by decide), g 126 (by omega)]; exact t2, tL, fun i hi => by rw [hI_sI_a (by decide), g 135 (by omega)]; exact (t3 i hi).2, t4⟩ (MWd_of W0 (gl 141 (by omega)) (gl 142 (by omega)) (gl 143 (by omega)) (gl 151 (by omega))) w
  refine read_ord (XS_RXF Xa) T ?_
  cases hP : ordP b L with
  | inl q =>
    intro M' a f
    simp only [oN]
    have X' : XS M' := XS_same (sameS_agq (agq_of (B := []) a) (by intro x q; simp at q)) Xa
    have Xc : XS (sI M' 64 17 (nI q)) := X'
    have Xb : XS (sI (sI M' 64 17 (nI q)) 107 1 0) := X'
    rw [k101_13, x101_15 X', x138_0 X', f, x138_11 Xc]
    simp only [oZ]
    rw [k101_18, k101_19, if_neg (fun z => z rfl), k101_22, x101_25 Xb, T_refused Xb]
    simp only [oN]
    rw [k101_28, show (-6 : Int32) = -(nI 6) from by decide]
    refine K _ _ (fun Q2 h => ?_)
    have ax : agr [64, 107, 109, 110, 111, 112] M (sI (sI M' 64 17 (nI q)) 107 1 0) := agr_trans (agr_mono aa (by intro x q; simp at q ⊢; omega)) (agr_trans (agr_mono a (by intro x q; simp at q ⊢; omega)) (agr_trans (agr_sI (by decide)) (agr_sI (by decide))))
    have ab : agr [64, 125] (sI (sI M' 64 17 (nI q)) 107 1 0) (refM (sI (sI M' 64 17 (nI q)) 107 1 0) (-(nI 6))) := agr_trans (agr_sI (by decide)) (agr_sI (by decide))
    have x64 : ∀ k, ¬ k = 17 → hI (sI (sI M' 64 17 (nI q)) 107 1 0) 64 k = hI Ma 64 k := fun k z => by rw [hI_sI_a (by decide), hI_sI_k z, agr_I a (a := 64) (by decide)]
    have x17 : hI (sI (sI M' 64 17 (nI q)) 107 1 0) 64 17 = nI q := by rw [hI_sI_a (by decide), hI_sI_s]
    have x107 : hI (sI (sI M' 64 17 (nI q)) 107 1 0) 107 1 = 0 := hI_sI_s _ _ _ _
    generalize sI (sI M' 64 17 (nI q)) 107 1 0 = Mx at *
    have aall : agr [64, 107, 109, 110, 111, 112, 125] M (refM Mx (-(nI 6))) := agr_trans (agr_mono ax (by intro x q; simp at q ⊢; omega)) (agr_mono ab (by intro x q; simp at q ⊢; omega))
    have F1 : MF (refM Mx (-(nI 6))) := MF_agr F aall
    refine start (fun x q => agr_I aall (by simp; omega)) F1 (fun x q => agr_L aall (by simp; omega)) ?_
    rw [hP]
    intro My FEy f19 f18
    have F2 : MF (sI (refM Mx (-(nI 6))) 126 49 (-1)) := F1
    have Fy := MF_agr F2 FEy.1
    show Wp none (8 + e) 262 50 [(0, .ref 126)] [] My Q2
    rw [m262_50 Fy, f19, k262_54, if_neg (by decide), k262_57, m262_60 Fy, show (-6 : Int32) = -(nI 6) from by decide, mTell_n Fy (by omega) (by omega)]
    simp only [oN]
    rw [k262_63]
    obtain ⟨s1, s2, s3⟩ := Sim_bad (v := 6) (by unfold rsnOk; omega) S (Mx := Mx) (My := My) ax (fun k q1 q2 => (x64 k q1).trans (a18 k q2)) x107 (agr_trans (agr_sI (by decide)) (agr_mono FEy.1 (by intro x q; simp at q ⊢; omega))) (fun k q q2 => (FEy.2.1 k q).trans (by rw [hI_sI_k q2, agr_I aall (a := 126) (by decide)])) FEy.2.2.2.1 FEy.2.2.2.2 (x17.trans f18.symm) ((x64 18 (by decide)).trans (a18s.trans ((FEy.2.1 49 (by decide)).trans (hI_sI_s _ _ _ _)).symm))
    exact h _ s1 (by omega) (by omega)
  | inr w =>
    obtain ⟨nn, cf⟩ := w
    intro M' len a f2 f3 f4 hlen hn hc
    simp only [oN]
    have ok := ord_ok hP
    have X' : XS M' := XS_same (sameS_agq (agq_of (B := []) a) (by intro x q; simp at q)) Xa
    have Xc : XS (sI M' 64 17 (-1)) := X'
    have Xb : XS (sI (sI M' 64 17 (-1)) 107 1 0) := X'
    rw [k101_13, x101_15 X', x138_0 X', f2, x138_11 Xc]
    simp only [oZ]
    rw [k101_18, k101_19, if_pos (by decide)]
    have ax : agr [64, 107, 109, 110, 111, 112] M (sI (sI M' 64 17 (-1)) 107 1 0) := agr_trans (agr_mono aa (by intro x q; simp at q ⊢; omega)) (agr_trans (agr_mono a (by intro x q; simp at q ⊢; omega)) (agr_trans (agr_sI (by decide)) (agr_sI (by decide))))
    have x64 : ∀ k, ¬ k = 17 → hI (sI (sI M' 64 17 (-1)) 107 1 0) 64 k = hI Ma 64 k := fun k z => by rw [hI_sI_a (by decide), hI_sI_k z, agr_I a (a := 64) (by decide)]
    have x17 : hI (sI (sI M' 64 17 (-1)) 107 1 0) 64 17 = -1 := by rw [hI_sI_a (by decide), hI_sI_s]
    have x107 : hI (sI (sI M' 64 17 (-1)) 107 1 0) 107 1 = 0 := hI_sI_s _ _ _ _
    have axy : agr [64, 107] M' (sI (sI M' 64 17 (-1)) 107 1 0) := agr_trans (agr_sI (by decide)) (agr_sI (by decide))
    generalize sI (sI M' 64 17 (-1)) 107 1 0 = Mx at *
    have x18 : hI Mx 64 18 = -1 := (x64 18 (by decide)).trans a18s
    have xo : ∀ x, [64, 107, 109, 110, 111, 112].contains x = false → hI Mx x = hI M x := fun x q => agr_I ax q
    have Ox : HallO Mx 65 n (lawOf (hI M 128 3) lw) := HallO_agq (agq_of (B := []) ax) (by intro x q; simp at q; omega) (by intro x q; simp at q) (by decide) (by decide) (by decide) (by decide) (by decide) (by decide) (by decide) HO
    have es : st0 Mx u = st0 M u := by
      unfold st0
      rw [xo 68 (by decide), xo 69 (by decide), xo 65 (by decide)]
    have WS : WFa n (st0 M u) := st0_WF H u16 uW
    obtain ⟨r, hr⟩ : ∃ r, ordC n (hI M 66) (hI M 67) (hI M 65 7) (lawOf (hI M 128 3) lw) cf nn 0 (st0 M u, 0, -1) = r := ⟨_, rfl⟩
    refine T_ordGo (n := n) (len := len) (nc := nn) (L := lawOf (hI M 128 3) lw) (cf := cf) (u := u) (r := r) Xb Ox (by rw [agr_I axy (a := 110) (by decide)]; exact f4) hlen (by rw [agr_I axy (a := 110) (by decide)]; exact f3) hn (fun j hj => ?_) ok (ClU_fr2 uC (xo 103 (by decide)) (xo 104 (by decide))) (by rw [es]; exact WS) (HallZ_fr Z77 (fun r hr => xo _ (by simp; omega))) x18 (by rw [xo 66 (by decide), xo 67 (by decide), xo 65 (by decide), es]; exact hr) ?_
    · obtain ⟨q1, q2, q3, q4, q5⟩ := hc j hj
      exact ⟨by rw [agr_I axy (a := 112) (by decide)]; exact q1, by rw [agr_I axy (a := 112) (by decide)]; exact q2, Sg_agr q3 axy (by decide) (by decide), Sg_agr q4 axy (by decide) (by decide), Sg_agr q5 axy (by decide) (by decide)⟩
    · cases r with
      | inr s' =>
        intro W' M1 G1
        refine K _ _ (fun Q2 h => ?_)
        have g1 : ∀ x, x = 126 ∨ x = 128 ∨ x = 131 ∨ x = 132 ∨ x = 135 → hI M1 x = hI M x := fun x q => by
          rw [agr_I G1.1 (by simp [OF, OE, AE, nF]; omega), xo x (by simp; omega)]
        have F1 : MF M1 := MF_of F ((agr_K G1.1).trans (agr_K ax)) ((agr_R G1.1).trans (agr_R ax))
        refine start (fun x q => g1 x (by omega)) F1 (fun x q => (agr_L G1.1 (by simp [OF, OE, AE, nF]; omega)).trans (agr_L ax (by simp; omega))) ?_
        rw [hP]
        intro Mr len2 FEr f19 f18 f21 f23 hlen2 hn1 hn2 hcr
        have F2 : MF (sI M1 126 49 (-1)) := F1
        have Fr := MF_agr F2 FEr.1
        have r1 : ∀ x, x = 128 ∨ x = 131 ∨ x = 132 → hI Mr x = hI M x := fun x q => by
          rw [agr_I FEr.1 (by simp; omega), ← g1 x (by omega)]
          funext j
          exact hI_sI_a (by omega)
        have r8 : ∀ k, tf k = false → ¬ k = 49 → hI Mr 126 k = hI M 126 k := fun k q q2 => by
          rw [FEr.2.1 k q, hI_sI_k q2, g1 126 (by omega)]
        show Wp none (8 + e) 262 50 [(0, .ref 126)] [] Mr Q2
        rw [m262_50 Fr, f19, k262_54, if_pos rfl]
        refine mOrdGo (n := n) (len := len2) (nc := nn) (D := hI M 66) (T := hI M 67) (P := hI M 68) (V := hI M 69) (hr := hI M 65 5) (rn := hI M 65 7) (lk := hI M 65 6) (L := lawOf (hI M 128 3) lw) (cf := cf) (u := u) (r := .inr s') (RP_of Y Fr (r1 128 (by omega)) FEr.2.2.2.1 ((r8 0 (by decide) (by decide)).trans Y.o0)) (by rw [r1 128 (by omega)]; exact H.2.1.2.2.2.2.1.2.1) (RfU_fr uR (r8 8 (by decide) (by decide)) (fun l _ => by rw [r1 131 (by omega)]) (r1 132 (by omega))) WS f21 hlen2 hn2 hcr ok hr ?_
        intro M2 G2
        obtain ⟨s1, s2, s3⟩ := Sim_ordGo S H ax (fun k q1 q2 => (x64 k q1).trans (a18 k q2)) x17 x18 x107 G1 FEr f18 G2 W'
        exact h _ s1 (by omega) (by omega)
      | inl y =>
        obtain ⟨i, s'⟩ := y
        intro hi M1 G1
        rw [show (-3 : Int32) = -(nI 3) from by decide]
        refine K _ _ (fun Q2 h => ?_)
        have ar : agr [64, 125] M1 (refM M1 (-(nI 3))) := agr_trans (agr_sI (by decide)) (agr_sI (by decide))
        have g1 : ∀ x, x = 126 ∨ x = 128 ∨ x = 131 ∨ x = 132 ∨ x = 135 → hI (refM M1 (-(nI 3))) x = hI M x := fun x q => by
          rw [agr_I ar (by simp; omega), agr_I G1.1 (by simp [OF, OE, AE, nF]; omega), xo x (by simp; omega)]
        have F1 : MF (refM M1 (-(nI 3))) := MF_of F ((agr_K ar).trans ((agr_K G1.1).trans (agr_K ax))) ((agr_R ar).trans ((agr_R G1.1).trans (agr_R ax)))
        refine start (fun x q => g1 x (by omega)) F1 (fun x q => (agr_L ar (by simp; omega)).trans ((agr_L G1.1 (by simp [OF, OE, AE, nF]; omega)).trans (agr_L ax (by simp; omega)))) ?_
        rw [hP]
        intro Mr len2 FEr f19 f18 f21 f23 hlen2 hn1 hn2 hcr
        have F2 : MF (sI (refM M1 (-(nI 3))) 126 49 (-1)) := F1
        have Fr := MF_agr F2 FEr.1
        have r1 : ∀ x, x = 128 ∨ x = 131 ∨ x = 132 → hI Mr x = hI M x := fun x q => by
          rw [agr_I FEr.1 (by simp; omega), ← g1 x (by omega)]
          funext j
          exact hI_sI_a (by omega)
        have r8 : ∀ k, tf k = false → ¬ k = 49 → hI Mr 126 k = hI M 126 k := fun k q q2 => by
          rw [FEr.2.1 k q, hI_sI_k q2, g1 126 (by omega)]
        show Wp none (8 + e) 262 50 [(0, .ref 126)] [] Mr Q2
        rw [m262_50 Fr, f19, k262_54, if_pos rfl]
        refine mOrdGo (n := n) (len := len2) (nc := nn) (D := hI M 66) (T := hI M 67) (P := hI M 68) (V := hI M 69) (hr := hI M 65 5) (rn := hI M 65 7) (lk := hI M 65 6) (L := lawOf (hI M 128 3) lw) (cf := cf) (u := u) (r := .inl (i, s')) (RP_of Y Fr (r1 128 (by omega)) FEr.2.2.2.1 ((r8 0 (by decide) (by decide)).trans Y.o0)) (by rw [r1 128 (by omega)]; exact H.2.1.2.2.2.2.1.2.1) (RfU_fr uR (r8 8 (by decide) (by decide)) (fun l _ => by rw [r1 131 (by omega)]) (r1 132 (by omega))) WS f21 hlen2 hn2 hcr ok hr ?_
        intro hi2 M2 G2
        obtain ⟨s1, s2, s3⟩ := Sim_ordBk S ax (fun k q1 q2 => (x64 k q1).trans (a18 k q2)) x17 x107 G1 FEr f18 G2
        exact h _ s1 (by omega) (by omega)
