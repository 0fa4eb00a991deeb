variable {d : Nat} {M : hp} {Q : Option Value → hp → Prop}
/-! orders: kept, run, given back -/
def OF : List Nat := [64, 77, 80, 81, 105, 106] ++ OE
theorem cpMv_agr (M : hp) (f t : Nat) : agr [t, t + 3, t + 4] M (cpMv M f t) := agr_trans (agr_trans (agr_sIs (by simp)) (agr_sIs (by simp))) (agr_sI (by simp))
theorem pcp_agr (M : hp) (p : Nat) (g : Nat → Int32) (x y : Int32) : agr [p, p + 1] M (sI (sI (sIs M (p + 1) 0 256 g) p 1 x) p 2 y) := agr_trans (agr_trans (agr_sIs (by simp)) (agr_sI (by simp))) (agr_sI (by simp))
theorem HallZ_cpMv {f t : Nat} (Z : HallZ M t) : HallZ (cpMv M f t) t := by
  intro r r1 r2 k hk
  have : r = 1 ∨ r = 2 ∨ r = 3 ∨ r = 4 := by omega
  rcases this with rfl | rfl | rfl | rfl
  · rw [hI_cpMv_o (by omega) (by omega) (by omega)]; exact Z 1 r1 r2 k hk
  · rw [hI_cpMv_o (by omega) (by omega) (by omega)]; exact Z 2 r1 r2 k hk
  · rw [hI_cpMv_P, if_neg (by omega)]; exact Z 3 r1 r2 k hk
  · rw [hI_cpMv_W, if_neg (by omega)]; exact Z 4 r1 r2 k hk
/-- what the class leaves when all was run -/
def OGo (Mx M1 : hp) (s : ASt) : Prop := agr OF Mx M1 ∧ hI M1 68 = s.1 ∧ hI M1 69 = s.2.1 ∧ (∀ k, hI M1 65 k = if k = 5 then s.2.2.1 else hI Mx 65 k) ∧ ClU M1 s.2.2.2 ∧ HallZ M1 77 ∧ (∀ k, ¬ k = 19 → hI M1 64 k = hI Mx 64 k) ∧ hI M1 64 19 = 0
/-- what the class leaves when one could not be run -/
def OBk (Mx M1 : hp) (i : Nat) : Prop := agr OF Mx M1 ∧ hI M1 68 = hI Mx 68 ∧ hI M1 69 = hI Mx 69 ∧ hI M1 65 = hI Mx 65 ∧ hI M1 103 1 = hI Mx 103 1 ∧ hI M1 103 2 = hI Mx 103 2 ∧ (∀ k, k < 256 → hI M1 104 k = hI Mx 104 k) ∧ HallZ M1 77 ∧ (∀ k, ¬ k = 18 → hI M1 64 k = hI Mx 64 k) ∧ hI M1 64 18 = nI i
theorem T_ordGo {n len nc : Nat} {L : Law} {cf : Nat → Ocl} {u : USt} {r : Sum (Nat × OSt) OSt} {x1 : Int32} (X : XS M) (O : HallO M 65 n L) (t2 : hI M 110 2 = nI len) (tl : len ≤ 400) (t3 : hI M 110 3 = nI nc) (tn : nc ≤ 12) (tr : ∀ j, j < nc → OrdR M len j (cf j)) (tk : ∀ j, j < nc → OclOk (cf j)) (U : ClU M u) (W : WFa n (st0 M u)) (Z : HallZ M 77) (h18 : hI M 64 18 = -1) (hr : ordC n (hI M 66) (hI M 67) (hI M 65 7) L cf nc 0 (st0 M u, 0, -1) = r) (H : match r with
    | .inr s' => WFa n s'.1 → ∀ M1, OGo M M1 s'.1 → Q (some (.int s'.2.1)) M1
    | .inl (i, s') => i < nc → ∀ M1, OBk M M1 i → Q (some (.int (-3))) (refM M1 (-3))) : Wp none d 101 29 [(0, .ref 64), (1, .int x1)] [] M Q := by
  have kb : kB = 154 := rfl
  have S77 : HallS M 77 := X.2.2.2.1
  have P103 := X.2.2.2.2.2.2.2.1
  have P105 := X.2.2.2.2.2.2.2.2.1
  rw [x101_29 X, x101_37 X S77.2.1, Hall_copyMoving S77 X.2.1 (Or.inl (by omega))]
  have a1 : agr [77, 80, 81] M (cpMv M 65 77) := cpMv_agr M 65 77
  have X1 : XS (cpMv M 65 77) := XS_same (sameS_agq (agq_of (B := []) a1) (by intro x q; simp at q)) X
  simp only [oZ]
  rw [x101_40 X1, x101_48 X1 (x_K105 X1), Past_copy X1.2.2.2.2.2.2.2.2.1 X1.2.2.2.2.2.2.2.1 (by omega)]
  have a2 := pcp_agr (cpMv M 65 77) 105 (hI (cpMv M 65 77) (103 + 1)) (hI (cpMv M 65 77) 103 1) (hI (cpMv M 65 77) 103 2)
  have b77 : ∀ x, ¬ x = 105 → ¬ x = 106 → hI (sI (sI (sIs (cpMv M 65 77) (105 + 1) 0 256 (hI (cpMv M 65 77) (103 + 1))) 105 1 (hI (cpMv M 65 77) 103 1)) 105 2 (hI (cpMv M 65 77) 103 2)) x = hI (cpMv M 65 77) x := fun x q1 q2 => agr_I a2 (by simp; omega)
  have b1 : hI (sI (sI (sIs (cpMv M 65 77) (105 + 1) 0 256 (hI (cpMv M 65 77) (103 + 1))) 105 1 (hI (cpMv M 65 77) 103 1)) 105 2 (hI (cpMv M 65 77) 103 2)) 105 1 = hI M 103 1 := by
    rw [hI_sI_k (by decide), hI_sI_s, agr_I a1 (by decide)]
  have b2 : hI (sI (sI (sIs (cpMv M 65 77) (105 + 1) 0 256 (hI (cpMv M 65 77) (103 + 1))) 105 1 (hI (cpMv M 65 77) 103 1)) 105 2 (hI (cpMv M 65 77) 103 2)) 105 2 = hI M 103 2 := by
    rw [hI_sI_s, agr_I a1 (by decide)]
  have b6 : ∀ k, k < 256 → hI (sI (sI (sIs (cpMv M 65 77) (105 + 1) 0 256 (hI (cpMv M 65 77) (103 + 1))) 105 1 (hI (cpMv M 65 77) 103 1)) 105 2 (hI (cpMv M 65 77) 103 2)) 106 k = hI M 104 k := fun k hk => by
    rw [hI_sI_a (by decide), hI_sI_a (by decide), hI_sIs_0 hk, show (103 + 1 : Nat) = 104 from rfl, agr_I a1 (by decide)]
  have b80 : ∀ j, j < 7 → hI (sI (sI (sIs (cpMv M 65 77) (105 + 1) 0 256 (hI (cpMv M 65 77) (103 + 1))) 105 1 (hI (cpMv M 65 77) 103 1)) 105 2 (hI (cpMv M 65 77) 103 2)) 80 j = hI M 68 j ∧ hI (sI (sI (sIs (cpMv M 65 77) (105 + 1) 0 256 (hI (cpMv M 65 77) (103 + 1))) 105 1 (hI (cpMv M 65 77) 103 1)) 105 2 (hI (cpMv M 65 77) 103 2)) 81 j = hI M 69 j := fun j hj => by
    rw [b77 80 (by decide) (by decide), b77 81 (by decide) (by decide), show hI (cpMv M 65 77) 80 j = _ from hI_cpMv_P M 65 77 j, show hI (cpMv M 65 77) 81 j = _ from hI_cpMv_W M 65 77 j, if_pos hj, if_pos hj]
    exact ⟨rfl, rfl⟩
  have b775 : hI (sI (sI (sIs (cpMv M 65 77) (105 + 1) 0 256 (hI (cpMv M 65 77) (103 + 1))) 105 1 (hI (cpMv M 65 77) 103 1)) 105 2 (hI (cpMv M 65 77) 103 2)) 77 5 = hI M 65 5 := by
    rw [b77 77 (by decide) (by decide), hI_cpMv_0, if_pos rfl]
  have bZ : HallZ (sI (sI (sIs (cpMv M 65 77) (105 + 1) 0 256 (hI (cpMv M 65 77) (103 + 1))) 105 1 (hI (cpMv M 65 77) 103 1)) 105 2 (hI (cpMv M 65 77) 103 2)) 77 := HallZ_c (HallZ_cpMv (f := 65) Z) (fun r r1 r2 => b77 _ (by omega) (by omega))
  have ab : agr [77, 80, 81, 105, 106] M (sI (sI (sIs (cpMv M 65 77) (105 + 1) 0 256 (hI (cpMv M 65 77) (103 + 1))) 105 1 (hI (cpMv M 65 77) 103 1)) 105 2 (hI (cpMv M 65 77) 103 2)) := agr_trans (agr_mono a1 (by intro x q; simp at q ⊢; omega)) (agr_mono a2 (by intro x q; simp at q ⊢; omega))
  generalize sI (sI (sIs (cpMv M 65 77) (105 + 1) 0 256 (hI (cpMv M 65 77) (103 + 1))) 105 1 (hI (cpMv M 65 77) 103 1)) 105 2 (hI (cpMv M 65 77) 103 2) = Mb at *
  have Xb : XS Mb := XS_same (sameS_agq (agq_of (B := []) ab) (by intro x q; simp at q)) X
  have bo : ∀ x, [77, 80, 81, 105, 106].contains x = false → hI Mb x = hI M x := fun x q => agr_I ab q
  have Ob : HallO Mb 65 n L := HallO_agq (agq_of (B := []) ab) (by intro x q; simp at q; omega) (by intro x q; simp at q) (by decide) (by decide) (by decide) (by decide) (by decide) (by decide) (by decide) O
  have K : OrdK Mb n L len nc cf := ⟨Ob, Xb.2.2.2.2.2.2.2.2.2.2.1.2.2.2, by rw [bo 110 (by decide)]; exact t2, tl, by rw [bo 110 (by decide)]; exact t3, tn, fun j hj => by
    obtain ⟨q1, q2, q3, q4, q5⟩ := tr j hj
    exact ⟨by rw [bo 112 (by decide)]; exact q1, by rw [bo 112 (by decide)]; exact q2, Sg_agr q3 ab (by decide) (by decide), Sg_agr q4 ab (by decide) (by decide), Sg_agr q5 ab (by decide) (by decide)⟩, fun j hj => ⟨(tk j hj).1, (tk j hj).2.1⟩⟩
  have C0 : ClO Mb Mb (st0 M u) := ⟨agr_refl _ _, bo 68 (by decide), bo 69 (by decide), fun k => by
    by_cases q : k = 5
    · rw [if_pos q, q, bo 65 (by decide)]; rfl
    · rw [if_neg q], ClU_fr2 U (bo 103 (by decide)) (bo 104 (by decide))⟩
  simp only [oZ]
  rw [x101_51 Xb, x101_59 Xb, k139_0]
  refine T_ordC (r := r) K ?_ nc 0 (st0 M u, 0, -1) Mb (by omega) Xb C0 W (by rw [bo 66 (by decide), bo 67 (by decide), bo 65 (by decide)]; exact hr)
  have fr : ∀ {M' : hp} {s : ASt}, ClO Mb M' s → agr OF M M' := fun C => agr_trans (agr_mono ab (by intro x q; simp [OF] at q ⊢; omega)) (agr_mono C.1 (by intro x q; simp [OF, OE, AE, nF] at q ⊢; omega))
  have o77 : ∀ {M' : hp} {s : ASt}, ClO Mb M' s → ∀ r, r ≤ 4 → hI M' (77 + r) = hI Mb (77 + r) := fun C r hr => agr_I C.1 (by simp [OE, AE, nF]; omega)
  cases r with
  | inr s' =>
    intro W' M' X' C'
    have C0' := C'
    obtain ⟨c1, c2, c3, c4, c5⟩ := C'
    have e64 : hI M' 64 = hI M 64 := (agr_I c1 (by decide)).trans (bo 64 (by decide))
    simp only [oN]
    rw [x101_62 X', e64, h18, k101_68, if_neg (fun z => z rfl), k101_71, x101_73 X', T_accepted X']
    simp only [oN]
    rw [k101_76]
    refine H W' _ ⟨agr_trans (fr C0') (agr_sI (by decide)), ?_, ?_, fun k => ?_, ClU_fr2 c5 ?_ ?_, ?_, fun k q => ?_, hI_sI_s _ _ _ _⟩
    · rw [← c2]; funext k; exact hI_sI_a (by decide)
    · rw [← c3]; funext k; exact hI_sI_a (by decide)
    · rw [hI_sI_a (by decide), c4, bo 65 (by decide)]
    · funext k; exact hI_sI_a (by decide)
    · funext k; exact hI_sI_a (by decide)
    · exact HallZ_c bZ (fun r r1 r2 => (by funext k; rw [hI_sI_a (by omega), o77 C0' r r2]))
    · rw [hI_sI_k q, e64]
  | inl x =>
    obtain ⟨i, s'⟩ := x
    intro hi W' M' X' C'
    have C0' := C'
    obtain ⟨c1, c2, c3, c4, c5⟩ := C'
    have e64 : hI M' 64 = hI M 64 := (agr_I c1 (by decide)).trans (bo 64 (by decide))
    have Xz : XS (sI M' 64 18 (nI i)) := X'
    have dz : ∀ x, ¬ x = 64 → hI (sI M' 64 18 (nI i)) x = hI M' x := fun x q => by funext k; exact hI_sI_a q
    have dz18 : hI (sI M' 64 18 (nI i)) 64 18 = nI i := hI_sI_s _ _ _ _
    have dz64 : ∀ k, ¬ k = 18 → hI (sI M' 64 18 (nI i)) 64 k = hI M 64 k := fun k q => by rw [hI_sI_k q, e64]
    have az : agr OF M (sI M' 64 18 (nI i)) := agr_trans (fr C0') (agr_sI (by decide))
    simp only [oN]
    generalize sI M' 64 18 (nI i) = Mz at *
    rw [x101_62 Xz, dz18, k101_68, if_pos (by rw [n_m1 (by omega)]; exact id), x101_77 Xz, x101_85 Xz (x_K65 Xz), Hall_copyMoving Xz.2.1 Xz.2.2.2.1 (Or.inr (by omega))]
    have a3 : agr [65, 68, 69] Mz (cpMv Mz 77 65) := cpMv_agr Mz 77 65
    have X3 : XS (cpMv Mz 77 65) := XS_same (sameS_agq (agq_of (B := []) a3) (by intro x q; simp at q)) Xz
    simp only [oZ]
    rw [x101_88 X3, x101_96 X3 (x_K103 X3), Past_copy X3.2.2.2.2.2.2.2.1 X3.2.2.2.2.2.2.2.2.1 (by omega)]
    have a4 := pcp_agr (cpMv Mz 77 65) 103 (hI (cpMv Mz 77 65) (105 + 1)) (hI (cpMv Mz 77 65) 105 1) (hI (cpMv Mz 77 65) 105 2)
    have f1 : hI (sI (sI (sIs (cpMv Mz 77 65) (103 + 1) 0 256 (hI (cpMv Mz 77 65) (105 + 1))) 103 1 (hI (cpMv Mz 77 65) 105 1)) 103 2 (hI (cpMv Mz 77 65) 105 2)) 103 1 = hI M 103 1 := by
      rw [hI_sI_k (by decide), hI_sI_s, agr_I a3 (by decide), dz 105 (by decide), agr_I c1 (by decide)]; exact b1
    have f2 : hI (sI (sI (sIs (cpMv Mz 77 65) (103 + 1) 0 256 (hI (cpMv Mz 77 65) (105 + 1))) 103 1 (hI (cpMv Mz 77 65) 105 1)) 103 2 (hI (cpMv Mz 77 65) 105 2)) 103 2 = hI M 103 2 := by
      rw [hI_sI_s, agr_I a3 (by decide), dz 105 (by decide), agr_I c1 (by decide)]; exact b2
    have f4 : ∀ k, k < 256 → hI (sI (sI (sIs (cpMv Mz 77 65) (103 + 1) 0 256 (hI (cpMv Mz 77 65) (105 + 1))) 103 1 (hI (cpMv Mz 77 65) 105 1)) 103 2 (hI (cpMv Mz 77 65) 105 2)) 104 k = hI M 104 k := fun k hk => by
      rw [hI_sI_a (by decide), hI_sI_a (by decide), hI_sIs_0 hk, show (105 + 1 : Nat) = 106 from rfl, agr_I a3 (by decide), dz 106 (by decide), agr_I c1 (by decide)]; exact b6 k hk
    have fo : ∀ x, ¬ x = 103 → ¬ x = 104 → hI (sI (sI (sIs (cpMv Mz 77 65) (103 + 1) 0 256 (hI (cpMv Mz 77 65) (105 + 1))) 103 1 (hI (cpMv Mz 77 65) 105 1)) 103 2 (hI (cpMv Mz 77 65) 105 2)) x = hI (cpMv Mz 77 65) x := fun x q1 q2 => agr_I a4 (by simp; omega)
    have X4 : XS (sI (sI (sIs (cpMv Mz 77 65) (103 + 1) 0 256 (hI (cpMv Mz 77 65) (105 + 1))) 103 1 (hI (cpMv Mz 77 65) 105 1)) 103 2 (hI (cpMv Mz 77 65) 105 2)) := X3
    have a34 := agr_trans (agr_mono (E' := [65, 68, 69, 103, 104]) a3 (by intro x q; simp at q ⊢; omega)) (agr_mono (E' := [65, 68, 69, 103, 104]) a4 (by intro x q; simp at q ⊢; omega))
    generalize sI (sI (sIs (cpMv Mz 77 65) (103 + 1) 0 256 (hI (cpMv Mz 77 65) (105 + 1))) 103 1 (hI (cpMv Mz 77 65) 105 1)) 103 2 (hI (cpMv Mz 77 65) 105 2) = Mw at *
    simp only [oZ]
    rw [k101_99, x101_102 X4, T_refused X4]
    simp only [oN]
    rw [k101_105]
    have z7 := O.2.2.2.2.2.1
    refine H hi Mw ⟨agr_trans az (agr_mono a34 (by intro x q; simp [OF, OE, AE] at q ⊢; omega)), ?_, ?_, ?_, f1, f2, f4, HallZ_c bZ (fun r r1 r2 => ?_), fun k q => ?_, ?_⟩
    · funext j
      rw [fo 68 (by decide) (by decide), show hI (cpMv Mz 77 65) 68 j = _ from hI_cpMv_P Mz 77 65 j]
      by_cases q : j < 7
      · rw [if_pos q, show hI Mz (77 + 3) = hI M' (77 + 3) from dz 80 (by decide), o77 C0' 3 (by omega)]
        exact (b80 j q).1
      · rw [if_neg q, show hI Mz (65 + 3) = hI M' 68 from dz 68 (by decide), c2, (W'.2.2.2.1 j (by omega)).1]
        exact (z7 3 (by omega) (by omega) j (by omega)).symm
    · funext j
      rw [fo 69 (by decide) (by decide), show hI (cpMv Mz 77 65) 69 j = _ from hI_cpMv_W Mz 77 65 j]
      by_cases q : j < 7
      · rw [if_pos q, show hI Mz (77 + 4) = hI M' (77 + 4) from dz 81 (by decide), o77 C0' 4 (by omega)]
        exact (b80 j q).2
      · rw [if_neg q, show hI Mz (65 + 4) = hI M' 69 from dz 69 (by decide), c3, (W'.2.2.2.1 j (by omega)).2]
        exact (z7 4 (by omega) (by omega) j (by omega)).symm
    · funext j
      rw [fo 65 (by decide) (by decide), hI_cpMv_0]
      by_cases q : j = 5
      · rw [if_pos q, dz 77 (by decide), show hI M' 77 5 = hI Mb 77 5 from congrFun (o77 C0' 0 (by omega)) 5, b775, q]
      · rw [if_neg q, dz 65 (by decide), c4, if_neg q, bo 65 (by decide)]
    · rw [fo _ (by omega) (by omega), agr_I a3 (by simp; omega), dz _ (by omega), o77 C0' r r2]
    · rw [fo 64 (by decide) (by decide), agr_I a3 (by decide)]; exact dz64 k q
    · rw [fo 64 (by decide) (by decide), agr_I a3 (by decide)]; exact dz18
