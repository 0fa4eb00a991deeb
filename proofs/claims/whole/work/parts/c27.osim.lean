variable {d : Nat} {M : hp} {Q : Option Value → hp → Prop}
/-! orders: the relation afterwards -/
def EO : List Nat := [64, 65, 68, 69, 77, 80, 81, 103, 104, 105, 106, 107, 109, 110, 111, 112, 113, 114, 115, 117, 118, 119, 120, 121, 125, 126, 127, 128, 131, 132, 133, 134, 137, 138, 139, 140, 144, 145, 146, 147, 152]
theorem EO_low : low EO := by
  intro x q
  have kb : kB = 154 := rfl
  simp [EO] at q
  omega
theorem Scr_O {M2 : hp} (Z : Scr M) (a : agr EO M M2) (z77 : HallZ M2 77) : Scr M2 := by
  have r5 : ∀ r, r ≤ 4 → r = 0 ∨ r = 1 ∨ r = 2 ∨ r = 3 ∨ r = 4 := by omega
  obtain ⟨z1, z2, z3, z4, z5⟩ := Z
  exact ⟨HallZ_fr z1 (fun r hr => agr_I a (by rcases r5 r hr with rfl | rfl | rfl | rfl | rfl <;> decide)), z77, HallZ_fr z3 (fun r hr => agr_I a (by rcases r5 r hr with rfl | rfl | rfl | rfl | rfl <;> decide)), HallZ_fr z4 (fun r hr => agr_I a (by rcases r5 r hr with rfl | rfl | rfl | rfl | rfl <;> decide)), HallZ_fr z5 (fun r hr => agr_I a (by rcases r5 r hr with rfl | rfl | rfl | rfl | rfl <;> decide))⟩
theorem Und_c {M' : hp} {n : Nat} (hn : n ≤ 7) (U : Und M n) (e1 : hI M' 103 1 = hI M 103 1) (e2 : hI M' 103 2 = hI M 103 2) (e3 : ∀ k, k < 256 → hI M' 104 k = hI M 104 k) (e6 : hI M' 65 6 = hI M 65 6) (e7 : hI M' 65 7 = hI M 65 7) (e8 : hI M' 126 8 = hI M 126 8) (e5 : ∀ l, l < 272 → hI M' 131 l = hI M 131 l) (e4 : ∀ k, k < 16 → hI M' 132 k = hI M 132 k) : Und M' n := by
  obtain ⟨c, x, h1, h2, h3, h4, h5, h6⟩ := U
  refine ⟨c, x, h1, h2, e2.trans h3, e1.trans h4, e8.trans h5, fun k hk => ?_⟩
  have hy : (x + 16 - c + k) % 16 < 16 := Nat.mod_lt _ (by omega)
  have := h6 k hk
  generalize (x + 16 - c + k) % 16 = y at *
  obtain ⟨u1, u2, u3, u4, u5, u6, u7, u8, u9⟩ := this
  refine ⟨fun j hj => ?_, ?_, ?_, ?_, ?_, PegS_cong u6 (fun j hj => e3 _ (by omega)), KnoS_cong u7 (fun j hj => e3 _ (by omega)), ?_, ?_⟩
  · rw [e5 _ (by omega), e5 _ (by omega), e3 _ (by omega), e3 _ (by omega)]; exact u1 j hj
  · rw [e5 _ (by omega), e3 _ (by omega)]; exact u2
  · rw [e5 _ (by omega), e6]; exact u3
  · rw [e5 _ (by omega), e7]; exact u4
  · rw [e4 _ (by omega), e3 _ (by omega)]; exact u5
  · rw [e3 _ (by omega)]; exact u8
  · rw [e3 _ (by omega)]; exact u9
theorem Sim_ordGo {Mx M1 Mr M2 : hp} {n nl : Nat} {lw : Nat → Nat × (Nat → Cls)} {L : Law} {s : ASt} (S : Sim M) (H : HC M 65 (hI M 128) n nl lw) (ax : agr [64, 107, 109, 110, 111, 112] M Mx) (x64 : ∀ k, ¬ k = 17 → ¬ k = 18 → hI Mx 64 k = hI M 64 k) (x17 : hI Mx 64 17 = -1) (x18 : hI Mx 64 18 = -1) (x107 : hI Mx 107 1 = 0) (C1 : OGo Mx M1 s) (FEr : FE 152 (sI M1 126 49 (-1)) Mr) (f18 : hI Mr 126 18 = -1) (C2 : MGo Mr M2 n (hI M 66) (hI M 67) (hI M 65 7) (hI M 65 6) L s) (W : WFa n s) : Sim M2 ∧ hN M2 = hN M ∧ hS M2 = hS M := by
  have kb : kB = 154 := rfl
  obtain ⟨c1, c68, c69, c65, cU, cZ, c64, c19⟩ := C1
  obtain ⟨f1, f2, f3, f4, f5⟩ := FEr
  obtain ⟨g1, Y, g5, gU, g126, g1', g128⟩ := C2
  have b1 : agr EO M M1 := agr_trans (agr_mono ax (by intro x q; simp [EO] at q ⊢; omega)) (agr_mono c1 (by intro x q; simp [OF, OE, AE, nF, EO] at q ⊢; omega))
  have b2 : agr [126, 128, 131, 132, 133, 134, 137, 138, 139, 140, 144, 145, 146, 147, 152] M1 M2 := agr_trans (agr_sI (by decide)) (agr_trans (agr_mono f1 (by intro x q; simp at q ⊢; omega)) (agr_mono g1 (by intro x q; simp [OQ] at q ⊢; omega)))
  have aa : agr EO M M2 := agr_trans b1 (agr_mono b2 (by intro x q; simp [EO] at q ⊢; omega))
  obtain ⟨B, Z, I, T, Cc, D, _⟩ := S
  obtain ⟨HZ, P, Lw, Hd⟩ := H
  have m126 : hI M1 126 = hI M 126 := (agr_I c1 (by decide)).trans (agr_I ax (by decide))
  have m128 : hI M1 128 = hI M 128 := (agr_I c1 (by decide)).trans (agr_I ax (by decide))
  have q126 : ∀ k, tf k = false → ¬ k = 1 → ¬ k = 8 → ¬ k = 34 → ¬ k = 38 → ¬ k = 47 → ¬ k = 48 → ¬ k = 49 → ¬ k = 50 → hI M2 126 k = hI M 126 k := fun k t p1 p2 p3 p4 p5 p6 p7 p8 => by
    rw [g126 k p1 p2 p3 p4 p5 p6 p8, f2 k t, hI_sI_k p7, m126]
  have q49 : hI M2 126 49 = -1 := by rw [g126 49 (by decide) (by decide) (by decide) (by decide) (by decide) (by decide) (by decide), f2 49 (by decide), hI_sI_s]
  have q18 : hI M2 126 18 = -1 := by rw [g126 18 (by decide) (by decide) (by decide) (by decide) (by decide) (by decide) (by decide)]; exact f18
  have q20 : hI M2 126 20 = 0 := Y.o20
  have q13 : hI M2 126 13 = 0 := by rw [g126 13 (by decide) (by decide) (by decide) (by decide) (by decide) (by decide) (by decide)]; exact f5
  have r128 : hI Mr 128 = hI M 128 := by rw [agr_I f1 (a := 128) (by decide)]; rw [← m128]; funext l; exact hI_sI_a (by decide)
  have q128 : ∀ l, ¬ l = 4 → ¬ (7 ≤ l ∧ l < 21) → hI M2 128 l = hI M 128 l := fun l p1 p2 => by rw [g128 l p1 p2, r128]
  have qo : ∀ x, [126, 128, 131, 132, 133, 134, 137, 138, 139, 140, 144, 145, 146, 147, 152].contains x = false → hI M2 x = hI M1 x := fun x q => agr_I b2 q
  have q64 : ∀ k, hI M2 64 k = hI M1 64 k := fun k => by rw [qo 64 (by decide)]
  have q65 : ∀ k, hI M2 65 k = if k = 5 then s.2.2.1 else hI M 65 k := fun k => by
    rw [qo 65 (by decide), c65 k, agr_I ax (a := 65) (by decide)]
  have q66 : hI M2 66 = hI M 66 := agr_I aa (by decide)
  have q67 : hI M2 67 = hI M 67 := agr_I aa (by decide)
  have q68 : hI M2 68 = s.1 := (qo 68 (by decide)).trans c68
  have q69 : hI M2 69 = s.2.1 := (qo 69 (by decide)).trans c69
  have q107 : hI M2 107 1 = 0 := by
    rw [qo 107 (by decide), agr_I c1 (a := 107) (by decide)]; exact x107
  obtain ⟨p1, p2, p3, p4, p5, p6, p7, p8, p9⟩ := P
  have U1 : RfU M2 (hI M2 65 6) (hI M2 65 7) s.2.2.2 := by
    rw [q65 6, q65 7, if_neg (by decide), if_neg (by decide)]
    exact gU
  have lo := EO_low
  have C3 : Scl M2 := by
    obtain ⟨k1, k2, k3, k4, k5⟩ := Cc
    refine ⟨?_, ?_, ?_, ?_, ?_⟩
    · rw [q64, c64 16 (by decide), x64 16 (by decide) (by decide), q126 11 (by decide) (by decide) (by decide) (by decide) (by decide) (by decide) (by decide) (by decide) (by decide)]; exact k1
    · rw [q64, c64 17 (by decide), x17, q18]
    · rw [q64, c64 18 (by decide), x18, q49]
    · rw [q64, c19, g1']
    · have e125 : hI M2 125 = hI M 125 := (qo 125 (by decide)).trans ((agr_I c1 (by decide)).trans (agr_I ax (by decide)))
      have e127 : hI M2 127 = hI M 127 := (qo 127 (by decide)).trans ((agr_I c1 (by decide)).trans (agr_I ax (by decide)))
      rw [e125, e127]
      exact k5
  refine ⟨⟨SimB_E B aa (by decide) (q20.trans B.2.2.2.2.1.symm) (q126 0 (by decide) (by decide) (by decide) (by decide) (by decide) (by decide) (by decide) (by decide) (by decide)), Scr_O Z aa (HallZ_c cZ (fun r r1 r2 => qo _ (by simp; omega))), Img_E I aa lo (by decide), ⟨fun _ => 0, 0, by omega, q107, q13, fun i hi => absurd hi (by omega), fun _ => by show 0 < 256; omega⟩, C3, Drw_E D aa (by decide) (by rw [q64, c64 15 (by decide)]; exact x64 15 (by decide) (by decide)) (q126 53 (by decide) (by decide) (by decide) (by decide) (by decide) (by decide) (by decide) (by decide) (by decide)), n, nl, lw, ⟨?_, ⟨by rw [q65 8, if_neg (by decide)]; exact p1, by rw [q128 0 (by decide) (by decide)]; exact p2, p3, fun j hj => ?_, ⟨?_, ?_, ?_⟩, ?_, ?_, ?_, ?_⟩, LwS_c Lw (upk_agr aa lo) (fun k q => by rw [q65 k, if_neg (by omega)]) (by rw [agr_R aa]) (fun l q => q128 l (by omega) (by omega)), HdS_c Hd (fun k q => by rw [q65 k, if_neg (by omega)]) (fun l q => q128 l (by omega) (by omega))⟩, u_und p3 (ClU_fr2 cU (qo 103 (by decide)) (qo 104 (by decide))) U1 W.2.2.2.2.2⟩, aa.1, aa.2.1⟩
  · intro r r1 r2 k hk
    have : r = 1 ∨ r = 2 ∨ r = 3 ∨ r = 4 := by omega
    have wk := W.2.2.2.1 k hk
    rcases this with rfl | rfl | rfl | rfl
    · show hI _ 66 k = 0; rw [q66]; exact HZ 1 (by omega) (by omega) k hk
    · show hI _ 67 k = 0; rw [q67]; exact HZ 2 (by omega) (by omega) k hk
    · show hI _ 68 k = 0; rw [q68]; exact wk.1
    · show hI _ 69 k = 0; rw [q69]; exact wk.2
  · show hI _ 128 (21 + j) = hI _ 66 j ∧ hI _ 128 (28 + j) = hI _ 67 j ∧ hI _ 128 (7 + j) = hI _ 68 j ∧ hI _ 128 (14 + j) = hI _ 69 j
    rw [q66, q67, q68, q69]
    exact ⟨Y.rD j hj, Y.rT j hj, Y.rP j hj, Y.rW j hj⟩
  · rw [q65 5, if_pos rfl]; exact Y.rh
  · rw [q65 6, if_neg (by decide)]; exact g5
  · rw [q65 7, if_neg (by decide)]; exact Y.rr
  · show PegS (hI _ 68) n; rw [q68]; exact W.1
  · show KnoS (hI _ 69) n; rw [q69]; exact W.2.1
  · rw [q65 5, if_pos rfl]; exact W.2.2.1
  · rw [q65 6, if_neg (by decide)]; exact p9
theorem Sim_ordBk {Mx M1 Mr M2 : hp} {i : Nat} (S : Sim M) (ax : agr [64, 107, 109, 110, 111, 112] M Mx) (x64 : ∀ k, ¬ k = 17 → ¬ k = 18 → hI Mx 64 k = hI M 64 k) (x17 : hI Mx 64 17 = -1) (x107 : hI Mx 107 1 = 0) (C1 : OBk Mx M1 i) (FEr : FE 152 (sI (refM M1 (-(nI 3))) 126 49 (-1)) Mr) (f18 : hI Mr 126 18 = -1) (C2 : MBk Mr M2 i) : Sim (mRef M2 3) ∧ hN (mRef M2 3) = hN M ∧ hS (mRef M2 3) = hS M := by
  have kb : kB = 154 := rfl
  obtain ⟨c1, c68, c69, c65, c1031, c1032, c104, cZ, c64, c18⟩ := C1
  obtain ⟨f1, f2, f3, f4, f5⟩ := FEr
  obtain ⟨g1, g128, g131, g132, g126, g49⟩ := C2
  have ar : agr [64, 125] M1 (refM M1 (-(nI 3))) := agr_trans (agr_sI (by decide)) (agr_sI (by decide))
  have am : agr [126, 127] M2 (mRef M2 3) := agr_trans (agr_sI (by decide)) (agr_sI (by decide))
  have b1 : agr EO M M1 := agr_trans (agr_mono ax (by intro x q; simp [EO] at q ⊢; omega)) (agr_mono c1 (by intro x q; simp [OF, OE, AE, nF, EO] at q ⊢; omega))
  have b2 : agr [126, 128, 131, 132, 133, 134, 137, 138, 139, 140, 144, 145, 146, 147, 152] (refM M1 (-(nI 3))) M2 := agr_trans (agr_sI (by decide)) (agr_trans (agr_mono f1 (by intro x q; simp at q ⊢; omega)) (agr_mono g1 (by intro x q; simp [OQ] at q ⊢; omega)))
  have aa : agr EO M (mRef M2 3) := agr_trans b1 (agr_trans (agr_mono ar (by intro x q; simp [EO] at q ⊢; omega)) (agr_trans (agr_mono b2 (by intro x q; simp [EO] at q ⊢; omega)) (agr_mono am (by intro x q; simp [EO] at q ⊢; omega))))
  obtain ⟨B, Z, I, T, Cc, D, n, nl, lw, H, U⟩ := S
  have qo : ∀ x, [64, 125, 126, 127, 128, 131, 132, 133, 134, 137, 138, 139, 140, 144, 145, 146, 147, 152].contains x = false → hI (mRef M2 3) x = hI M1 x := fun x q => by
    have q' : ¬ x = 64 ∧ ¬ x = 125 ∧ ¬ x = 126 ∧ ¬ x = 127 := by simp at q; omega
    rw [agr_I am (by simp; omega), agr_I b2 (by simp at q ⊢; omega), agr_I ar (by simp; omega)]
  have m126 : hI (refM M1 (-(nI 3))) 126 = hI M 126 := (agr_I ar (by decide)).trans ((agr_I c1 (by decide)).trans (agr_I ax (by decide)))
  have mo : ∀ x, (x = 128 ∨ x = 131 ∨ x = 132) → hI Mr x = hI M x := fun x hx => by
    have e1 : hI Mr x = hI (sI (refM M1 (-(nI 3))) 126 49 (-1)) x := agr_I f1 (by simp; omega)
    have e2 : hI (sI (refM M1 (-(nI 3))) 126 49 (-1)) x = hI (refM M1 (-(nI 3))) x := by funext k; exact hI_sI_a (by omega)
    have e3 : hI (refM M1 (-(nI 3))) x = hI M1 x := agr_I ar (by simp; omega)
    have e4 : hI M1 x = hI Mx x := agr_I c1 (by simp [OF, OE, AE, nF]; omega)
    have e5 : hI Mx x = hI M x := agr_I ax (by simp; omega)
    exact e1.trans (e2.trans (e3.trans (e4.trans e5)))
  have r1 : hI (mRef M2 3) 126 1 = -(nI 3) := by unfold mRef; rw [hI_sI_a (by decide), hI_sI_s]
  have rk : ∀ k, ¬ k = 1 → hI (mRef M2 3) 126 k = hI M2 126 k := fun k q => by unfold mRef; rw [hI_sI_a (by decide), hI_sI_k q]
  have q126 : ∀ k, tf k = false → ¬ k = 1 → ¬ k = 34 → ¬ k = 38 → ¬ k = 47 → ¬ k = 48 → ¬ k = 49 → ¬ k = 50 → hI (mRef M2 3) 126 k = hI M 126 k := fun k t p1 p3 p4 p5 p6 p7 p8 => by
    rw [rk k p1, g126 k p3 p4 p5 p6 p7 p8, f2 k t, hI_sI_k p7, m126]
  have q18 : hI (mRef M2 3) 126 18 = -1 := by rw [rk 18 (by decide), g126 18 (by decide) (by decide) (by decide) (by decide) (by decide) (by decide)]; exact f18
  have q20 : hI (mRef M2 3) 126 20 = 0 := by rw [rk 20 (by decide), g126 20 (by decide) (by decide) (by decide) (by decide) (by decide) (by decide)]; exact f4
  have q13 : hI (mRef M2 3) 126 13 = 0 := by rw [rk 13 (by decide), g126 13 (by decide) (by decide) (by decide) (by decide) (by decide) (by decide)]; exact f5
  have q64 : ∀ k, ¬ k = 19 → hI (mRef M2 3) 64 k = hI M1 64 k := fun k q => by
    rw [agr_I am (by decide), agr_I b2 (by decide)]
    unfold refM
    rw [hI_sI_a (by decide), hI_sI_k q]
  have q19 : hI (mRef M2 3) 64 19 = -(nI 3) := by
    rw [agr_I am (by decide), agr_I b2 (by decide)]
    unfold refM
    rw [hI_sI_a (by decide), hI_sI_s]
  have e125 : hI M1 125 = hI M 125 := (agr_I c1 (by decide)).trans (agr_I ax (by decide))
  have q125 : ∀ k, hI (mRef M2 3) 125 k = if k = plcF (-(nI 3)) then hI M 125 k + 1 else hI M 125 k := fun k => by
    rw [agr_I am (by decide), agr_I b2 (by decide)]
    unfold refM
    by_cases c : k = plcF (-(nI 3))
    · rw [c, hI_sI_s, if_pos rfl, e125]
    · rw [hI_sI_k c, hI_sI_a (by decide), if_neg c, e125]
  have e127 : hI M2 127 = hI M 127 := (agr_I b2 (by decide)).trans ((agr_I ar (by decide)).trans ((agr_I c1 (by decide)).trans (agr_I ax (by decide))))
  have q127 : ∀ k, hI (mRef M2 3) 127 k = if k = 3 then hI M 127 k + 1 else hI M 127 k := fun k => by
    unfold mRef
    by_cases c : k = 3
    · rw [c, hI_sI_s, if_pos rfl, e127]
    · rw [hI_sI_k c, hI_sI_a (by decide), e127, if_neg c]
  have q128 : hI (mRef M2 3) 128 = hI M 128 := (agr_I am (by decide)).trans (g128.trans (mo 128 (by omega)))
  have q65 : hI (mRef M2 3) 65 = hI M 65 := (qo 65 (by decide)).trans (c65.trans (agr_I ax (by decide)))
  have q66 : hI (mRef M2 3) 66 = hI M 66 := agr_I aa (by decide)
  have q67 : hI (mRef M2 3) 67 = hI M 67 := agr_I aa (by decide)
  have q68 : hI (mRef M2 3) 68 = hI M 68 := (qo 68 (by decide)).trans (c68.trans (agr_I ax (by decide)))
  have q69 : hI (mRef M2 3) 69 = hI M 69 := (qo 69 (by decide)).trans (c69.trans (agr_I ax (by decide)))
  have q107 : hI (mRef M2 3) 107 1 = 0 := by
    rw [qo 107 (by decide), agr_I c1 (a := 107) (by decide)]; exact x107
  have lo := EO_low
  have C3 : Scl (mRef M2 3) := by
    obtain ⟨k1, k2, k3, k4, k5, k6, k7, k8, k9⟩ := Cc
    refine ⟨?_, ?_, ?_, q19.trans r1.symm, ?_, ?_, ?_, ?_, ?_⟩
    · rw [q64 16 (by decide), c64 16 (by decide), x64 16 (by decide) (by decide), q126 11 (by decide) (by decide) (by decide) (by decide) (by decide) (by decide) (by decide) (by decide)]; exact k1
    · rw [q64 17 (by decide), c64 17 (by decide), x17, q18]
    · rw [q64 18 (by decide), c18, rk 49 (by decide), g49]
    all_goals (rw [q125, q127]; simp_all [plcF, show (-(nI 3)) = (-3 : Int32) from by decide])
  have r5 : ∀ r, r ≤ 4 → r = 0 ∨ r = 1 ∨ r = 2 ∨ r = 3 ∨ r = 4 := by omega
  have h65 : ∀ r, r ≤ 4 → hI (mRef M2 3) (65 + r) = hI M (65 + r) := fun r hr => by
    rcases r5 r hr with rfl | rfl | rfl | rfl | rfl
    · exact q65
    · exact q66
    · exact q67
    · exact q68
    · exact q69
  refine ⟨⟨SimB_E B aa (by decide) (q20.trans B.2.2.2.2.1.symm) (q126 0 (by decide) (by decide) (by decide) (by decide) (by decide) (by decide) (by decide) (by decide)), Scr_O Z aa (HallZ_c cZ (fun r r1 r2 => qo _ (by simp; omega))), Img_E I aa lo (by decide), ⟨fun _ => 0, 0, by omega, q107, q13, fun i hi => absurd hi (by omega), fun _ => by show 0 < 256; omega⟩, C3, Drw_E D aa (by decide) (by rw [q64 15 (by decide), c64 15 (by decide)]; exact x64 15 (by decide) (by decide)) (q126 53 (by decide) (by decide) (by decide) (by decide) (by decide) (by decide) (by decide) (by decide)), n, nl, lw, HC_fr H (upk_agr aa lo) h65 (by rw [agr_R aa]) (fun l _ => by rw [q128]), Und_c H.2.1.2.2.1 U ?_ ?_ (fun k hk => ?_) (by rw [q65]) (by rw [q65]) (q126 8 (by decide) (by decide) (by decide) (by decide) (by decide) (by decide) (by decide) (by decide)) (fun l hl => ?_) (fun k hk => ?_)⟩, aa.1, aa.2.1⟩
  · rw [qo 103 (by decide), c1031, agr_I ax (a := 103) (by decide)]
  · rw [qo 103 (by decide), c1032, agr_I ax (a := 103) (by decide)]
  · rw [qo 104 (by decide), c104 k hk, agr_I ax (a := 104) (by decide)]
  · rw [agr_I am (by decide), g131 l hl, mo 131 (by omega)]
  · rw [agr_I am (by decide), g132 k hk, mo 132 (by omega)]
