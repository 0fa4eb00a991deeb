variable {d : Nat} {M : hp} {Q : Option Value → hp → Prop}
/-! orders of the reference: kept, run, given back -/
theorem v272 {j : Nat} (h : j < 272) : vin (nI j) 272 = true := by
  rw [vin_n (by omega)]
  exact decide_eq_true h
theorem v16 {j : Nat} (h : j < 16) : vin (nI j) 16 = true := by
  rw [vin_n (by omega)]
  exact decide_eq_true h
theorem mKeepU {x1 : Int32} (F : MF M) : Wp none d 262 77 [(0, .ref 126), (1, .int x1), (2, .int 0)] [] M Q = Wp none d 262 128 [(0, .ref 126), (1, .int x1), (2, .int (nI 16))] [] (sIs (sIs M 133 0 272 (hI M 131)) 134 0 16 (hI M 132)) Q := by
  have key := for_0 (W := fun i => Wp none d 262 77 [(0, .ref 126), (1, .int x1), (2, .int (nI i))] [] (sIs M 133 0 i (hI M 131)) Q) (n := 272) (fun i hi => by
    have F' : MF (sIs M 133 0 i (hI M 131)) := F
    have st := sIs_1 M 133 0 i (hI M 131)
    rw [Nat.zero_add] at st
    show Wp none d 262 77 [(0, .ref 126), (1, .int x1), (2, .int (nI i))] [] (sIs M 133 0 i (hI M 131)) Q = Wp none d 262 77 [(0, .ref 126), (1, .int x1), (2, .int (nI (i + 1)))] [] (sIs M 133 0 (i + 1) (hI M 131)) Q
    rw [k262_77, k262_81, show (272 : Int32) = nI 272 from rfl, if_neg (by rw [n_le (by omega) (by omega)]; omega), m262_84 F' (v306 (by omega)) (v272 hi), n_cl (by omega), hI_sIs_a (a' := 131) (by decide), st, k262_96, nI_1]) 272 0 (by omega)
  have key1 : Wp none d 262 77 [(0, .ref 126), (1, .int x1), (2, .int 0)] [] M Q = Wp none d 262 77 [(0, .ref 126), (1, .int x1), (2, .int (nI 272))] [] (sIs M 133 0 272 (hI M 131)) Q := by
    have := key
    simp only [sIs_0] at this
    exact this
  have F1 : MF (sIs M 133 0 272 (hI M 131)) := F
  have e132 : hI (sIs M 133 0 272 (hI M 131)) 132 = hI M 132 := by funext j; exact hI_sIs_a (by decide)
  generalize hM1 : sIs M 133 0 272 (hI M 131) = M1 at *
  have key2 := for_0 (W := fun i => Wp none d 262 104 [(0, .ref 126), (1, .int x1), (2, .int (nI i))] [] (sIs M1 134 0 i (hI M1 132)) Q) (n := 16) (fun i hi => by
    have F' : MF (sIs M1 134 0 i (hI M1 132)) := F1
    have st := sIs_1 M1 134 0 i (hI M1 132)
    rw [Nat.zero_add] at st
    show Wp none d 262 104 [(0, .ref 126), (1, .int x1), (2, .int (nI i))] [] (sIs M1 134 0 i (hI M1 132)) Q = Wp none d 262 104 [(0, .ref 126), (1, .int x1), (2, .int (nI (i + 1)))] [] (sIs M1 134 0 (i + 1) (hI M1 132)) Q
    rw [k262_104, k262_107, show (16 : Int32) = nI 16 from rfl, if_neg (by rw [n_le (by omega) (by omega)]; omega), m262_110 F' (v16 hi) (v16 hi), n_cl (by omega), hI_sIs_a (a' := 132) (by decide), st, k262_122, nI_1]) 16 0 (by omega)
  have key3 : Wp none d 262 104 [(0, .ref 126), (1, .int x1), (2, .int 0)] [] M1 Q = Wp none d 262 104 [(0, .ref 126), (1, .int x1), (2, .int (nI 16))] [] (sIs M1 134 0 16 (hI M1 132)) Q := by
    have := key2
    simp only [sIs_0] at this
    exact this
  rw [key1, k262_77, k262_81, if_pos (by decide), k262_102, key3, k262_104, k262_107, if_pos (by decide), e132]
theorem mBackU {x1 : Int32} (F : MF M) : Wp none d 263 0 [(0, .ref 126), (1, .int x1)] [] M Q = Q none (sI (sIs (sIs (sIs M 128 4 17 (fun i => hI M 131 (17 * 17 + i))) 131 0 272 (hI M 133)) 132 0 16 (hI M 134)) 126 8 x1) := by
  have F0 : MF (sIs M 128 4 17 (fun i => hI M 131 (17 * 17 + i))) := F
  have e133 : hI (sIs M 128 4 17 (fun i => hI M 131 (17 * 17 + i))) 133 = hI M 133 := by funext j; exact hI_sIs_a (by decide)
  have e134 : hI (sIs M 128 4 17 (fun i => hI M 131 (17 * 17 + i))) 134 = hI M 134 := by funext j; exact hI_sIs_a (by decide)
  rw [k263_0, m263_3 F, show (17 : Int32) = nI 17 from rfl, mPut F (by omega)]
  simp only [oZ]
  rw [k263_6]
  generalize hM0 : sIs M 128 4 17 (fun i => hI M 131 (17 * 17 + i)) = N0 at *
  have key := for_0 (W := fun i => Wp none d 263 8 [(0, .ref 126), (1, .int x1), (2, .int (nI i))] [] (sIs N0 131 0 i (hI N0 133)) Q) (n := 272) (fun i hi => by
    have F' : MF (sIs N0 131 0 i (hI N0 133)) := F0
    have st := sIs_1 N0 131 0 i (hI N0 133)
    rw [Nat.zero_add] at st
    show Wp none d 263 8 [(0, .ref 126), (1, .int x1), (2, .int (nI i))] [] (sIs N0 131 0 i (hI N0 133)) Q = Wp none d 263 8 [(0, .ref 126), (1, .int x1), (2, .int (nI (i + 1)))] [] (sIs N0 131 0 (i + 1) (hI N0 133)) Q
    rw [k263_8, k263_12, show (272 : Int32) = nI 272 from rfl, if_neg (by rw [n_le (by omega) (by omega)]; omega), m263_15 F' (v272 hi) (v306 (by omega)), n_cl (by omega), hI_sIs_a (a' := 133) (by decide), st, k263_27, nI_1]) 272 0 (by omega)
  have key1 : Wp none d 263 8 [(0, .ref 126), (1, .int x1), (2, .int 0)] [] N0 Q = Wp none d 263 8 [(0, .ref 126), (1, .int x1), (2, .int (nI 272))] [] (sIs N0 131 0 272 (hI N0 133)) Q := by
    have := key
    simp only [sIs_0] at this
    exact this
  have F1 : MF (sIs N0 131 0 272 (hI N0 133)) := F0
  have f134 : hI (sIs N0 131 0 272 (hI N0 133)) 134 = hI N0 134 := by funext j; exact hI_sIs_a (by decide)
  rw [key1, k263_8, k263_12, if_pos (by decide), k263_33, e133]
  rw [e133] at F1 f134
  generalize hM1 : sIs N0 131 0 272 (hI M 133) = N1 at *
  have key2 := for_0 (W := fun i => Wp none d 263 35 [(0, .ref 126), (1, .int x1), (2, .int (nI i))] [] (sIs N1 132 0 i (hI N1 134)) Q) (n := 16) (fun i hi => by
    have F' : MF (sIs N1 132 0 i (hI N1 134)) := F1
    have st := sIs_1 N1 132 0 i (hI N1 134)
    rw [Nat.zero_add] at st
    show Wp none d 263 35 [(0, .ref 126), (1, .int x1), (2, .int (nI i))] [] (sIs N1 132 0 i (hI N1 134)) Q = Wp none d 263 35 [(0, .ref 126), (1, .int x1), (2, .int (nI (i + 1)))] [] (sIs N1 132 0 (i + 1) (hI N1 134)) Q
    rw [k263_35, k263_38, show (16 : Int32) = nI 16 from rfl, if_neg (by rw [n_le (by omega) (by omega)]; omega), m263_41 F' (v16 hi) (v16 hi), n_cl (by omega), hI_sIs_a (a' := 134) (by decide), st, k263_53, nI_1]) 16 0 (by omega)
  have key3 : Wp none d 263 35 [(0, .ref 126), (1, .int x1), (2, .int 0)] [] N1 Q = Wp none d 263 35 [(0, .ref 126), (1, .int x1), (2, .int (nI 16))] [] (sIs N1 132 0 16 (hI N1 134)) Q := by
    have := key2
    simp only [sIs_0] at this
    exact this
  have F2 : MF (sIs N1 132 0 16 (hI N1 134)) := F1
  rw [key3, k263_35, k263_38, if_pos (by decide), m263_59 F2, f134, e134]
def OQ : List Nat := [126, 128, 131, 132, 133, 134, 144, 145, 146, 147]
/-- what the reference leaves when all was run -/
def MGo (Mr M2 : hp) (n : Nat) (D T : Nat → Int32) (rn lk : Int32) (L : Law) (s : ASt) : Prop := agr OQ Mr M2 ∧ RP M2 n D T s.1 s.2.1 s.2.2.1 rn L ∧ hI M2 128 5 = lk ∧ RfU M2 lk rn s.2.2.2 ∧ (∀ k, ¬ k = 1 → ¬ k = 8 → ¬ k = 34 → ¬ k = 38 → ¬ k = 47 → ¬ k = 48 → ¬ k = 50 → hI M2 126 k = hI Mr 126 k) ∧ hI M2 126 1 = 0 ∧ ∀ l, ¬ l = 4 → ¬ (7 ≤ l ∧ l < 21) → hI M2 128 l = hI Mr 128 l
/-- what it leaves when one could not be run, before it tells so -/
def MBk (Mr M2 : hp) (i : Nat) : Prop := agr OQ Mr M2 ∧ hI M2 128 = hI Mr 128 ∧ (∀ l, l < 272 → hI M2 131 l = hI Mr 131 l) ∧ (∀ k, k < 16 → hI M2 132 k = hI Mr 132 k) ∧ (∀ k, ¬ k = 34 → ¬ k = 38 → ¬ k = 47 → ¬ k = 48 → ¬ k = 49 → ¬ k = 50 → hI M2 126 k = hI Mr 126 k) ∧ hI M2 126 49 = nI i
theorem mOrdGo {n len nc : Nat} {D T P V : Nat → Int32} {hr rn lk : Int32} {L : Law} {cf : Nat → Ocl} {u : USt} {r : Sum (Nat × OSt) OSt} (Y : RP M n D T P V hr rn L) (h5 : hI M 128 5 = lk) (U : RfU M lk rn u) (W : WFa n (P, V, hr, u)) (h21 : hI M 126 21 = nI nc) (hlen : len ≤ 400) (hnc : nc ≤ 12) (R : ∀ j, j < nc → mOrdR M len j (cf j)) (B : ∀ j, j < nc → OclOk (cf j)) (he : ordC n D T rn L cf nc 0 ((P, V, hr, u), 0, -1) = r) (H : match r with
    | .inr s' => ∀ M2, MGo M M2 n D T rn lk L s'.1 → Q (some (.int s'.2.1)) M2
    | .inl (i, s') => i < nc → ∀ M2, MBk M M2 i → Q (some (.int (-3))) (mRef M2 3)) : Wp none d 262 64 [(0, .ref 126)] [] M Q := by
  have n7 := Y.n7
  have F := Y.F
  have FK : MF (sIs M 131 (17 * 17) 17 (fun i => hI M 128 (4 + i))) := F
  rw [k262_64, m262_67 F, show (17 : Int32) = nI 17 from rfl, mKeep F (by omega)]
  simp only [oZ]
  have k128 : hI (sIs M 131 (17 * 17) 17 (fun i => hI M 128 (4 + i))) 128 = hI M 128 := by funext l; exact hI_sIs_a (by decide)
  have k132 : hI (sIs M 131 (17 * 17) 17 (fun i => hI M 128 (4 + i))) 132 = hI M 132 := by funext l; exact hI_sIs_a (by decide)
  have k126 : ∀ k, hI (sIs M 131 (17 * 17) 17 (fun i => hI M 128 (4 + i))) 126 k = hI M 126 k := fun k => hI_sIs_a (by decide)
  have k131 : ∀ l, l < 272 → hI (sIs M 131 (17 * 17) 17 (fun i => hI M 128 (4 + i))) 131 l = hI M 131 l := fun l hl => hI_sIs_k (by omega)
  have k131b : ∀ i, i < 17 → hI (sIs M 131 (17 * 17) 17 (fun i => hI M 128 (4 + i))) 131 (289 + i) = hI M 128 (4 + i) := fun i hi => hI_sIs_s (m := 289) hi
  have ak : agr [131] M (sIs M 131 (17 * 17) 17 (fun i => hI M 128 (4 + i))) := agr_sIs (by decide)
  generalize sIs M 131 (17 * 17) 17 (fun i => hI M 128 (4 + i)) = Mk at *
  have F1 : MF (sIs (sIs Mk 133 0 272 (hI Mk 131)) 134 0 16 (hI Mk 132)) := FK
  have F2 : MF (sI (sIs (sIs Mk 133 0 272 (hI Mk 131)) 134 0 16 (hI Mk 132)) 126 47 0) := FK
  rw [m262_70 FK, k126, mKeepU FK, m262_128 F1, m262_133 F2, k262_138]
  have am : agr [126, 131, 133, 134] M (sI (sI (sIs (sIs Mk 133 0 272 (hI Mk 131)) 134 0 16 (hI Mk 132)) 126 47 0) 126 48 (-1)) := agr_trans (agr_mono ak (by intro x q; simp at q ⊢; omega)) (agr_trans (agr_trans (agr_trans (agr_sIs (by decide)) (agr_sIs (by decide))) (agr_sI (by decide))) (agr_sI (by decide)))
  have m126 : ∀ k, ¬ k = 47 → ¬ k = 48 → hI (sI (sI (sIs (sIs Mk 133 0 272 (hI Mk 131)) 134 0 16 (hI Mk 132)) 126 47 0) 126 48 (-1)) 126 k = hI M 126 k := fun k q1 q2 => by
    rw [hI_sI_k q2, hI_sI_k q1, hI_sIs_a (by decide), hI_sIs_a (by decide)]; exact k126 k
  have m47 : hI (sI (sI (sIs (sIs Mk 133 0 272 (hI Mk 131)) 134 0 16 (hI Mk 132)) 126 47 0) 126 48 (-1)) 126 47 = 0 := by rw [hI_sI_k (by decide), hI_sI_s]
  have m48 : hI (sI (sI (sIs (sIs Mk 133 0 272 (hI Mk 131)) 134 0 16 (hI Mk 132)) 126 47 0) 126 48 (-1)) 126 48 = -1 := hI_sI_s _ _ _ _
  have m131 : ∀ l, hI (sI (sI (sIs (sIs Mk 133 0 272 (hI Mk 131)) 134 0 16 (hI Mk 132)) 126 47 0) 126 48 (-1)) 131 l = hI Mk 131 l := fun l => by
    rw [hI_sI_a (by decide), hI_sI_a (by decide), hI_sIs_a (by decide), hI_sIs_a (by decide)]
  have m133 : ∀ l, l < 272 → hI (sI (sI (sIs (sIs Mk 133 0 272 (hI Mk 131)) 134 0 16 (hI Mk 132)) 126 47 0) 126 48 (-1)) 133 l = hI M 131 l := fun l hl => by
    rw [hI_sI_a (by decide), hI_sI_a (by decide), hI_sIs_a (by decide), hI_sIs_0 hl]; exact k131 l hl
  have m134 : ∀ l, l < 16 → hI (sI (sI (sIs (sIs Mk 133 0 272 (hI Mk 131)) 134 0 16 (hI Mk 132)) 126 47 0) 126 48 (-1)) 134 l = hI M 132 l := fun l hl => by
    rw [hI_sI_a (by decide), hI_sI_a (by decide), hI_sIs_0 hl, k132]
  have Fm : MF (sI (sI (sIs (sIs Mk 133 0 272 (hI Mk 131)) 134 0 16 (hI Mk 132)) 126 47 0) 126 48 (-1)) := FK
  generalize sI (sI (sIs (sIs Mk 133 0 272 (hI Mk 131)) 134 0 16 (hI Mk 132)) 126 47 0) 126 48 (-1) = Mm at *
  have m128 : hI Mm 128 = hI M 128 := agr_I am (by decide)
  have m132 : hI Mm 132 = hI M 132 := agr_I am (by decide)
  have A : RfO Mm Mm n D T rn lk L ((P, V, hr, u), 0, -1) := ⟨RP_of Y Fm m128 ((m126 20 (by decide) (by decide)).trans Y.o20) ((m126 0 (by decide) (by decide)).trans Y.o0), by rw [m128]; exact h5, RfU_fr U (m126 8 (by decide) (by decide)) (fun l hl => (m131 l).trans (k131 l hl)) m132, m47, m48, agr_refl _ _, fun _ _ _ _ _ _ _ => rfl, fun _ _ _ => rfl, fun _ _ => rfl⟩
  rw [show (0 : Int32) = nI 0 from rfl]
  refine mOrdC (r := r) n7 ((m126 21 (by decide) (by decide)).trans h21) hlen hnc (fun j hj => mOrdR_cong (R j hj) (agr_I am (by decide)) (agr_I am (by decide)) (agr_I am (by decide))) B ?_ nc 0 ((P, V, hr, u), 0, -1) Mm (by omega) A W he
  cases r with
  | inr s' =>
    intro M' A'
    obtain ⟨a1, a2, a3, a4, a5, a6, a7, a8, a9⟩ := A'
    have F' := a1.F
    obtain ⟨w, w1, w2⟩ := ordC_dn n7 nc 0 ((P, V, hr, u), 0, -1) s' 0 (fun j _ hj => B j (by omega)) W rfl he
    rw [m262_206 F', a4, m262_211 F', mTell_p F' (by rw [w2]; exact nn_n (by omega))]
    simp only [oN]
    rw [k262_214]
    have at1 : agr [126] M' (sI M' 126 1 0) := agr_sI (by decide)
    have t128 : hI (sI M' 126 1 0) 128 = hI M' 128 := agr_I at1 (by decide)
    have t131 : hI (sI M' 126 1 0) 131 = hI M' 131 := agr_I at1 (by decide)
    refine H _ ⟨agr_trans (agr_mono am (by intro x q; simp [OQ] at q ⊢; omega)) (agr_trans (agr_mono a6 (by intro x q; simp [RO, RAE, OQ] at q ⊢; omega)) (agr_mono at1 (by intro x q; simp [OQ] at q ⊢; omega))), RP_of a1 F' t128 ((hI_sI_k (by decide)).trans a1.o20) ((hI_sI_k (by decide)).trans a1.o0), by rw [t128]; exact a2, RfU_fr a3 (hI_sI_k (by decide)) (fun l _ => by rw [t131]) (agr_I at1 (by decide)), fun k q1 q2 q3 q4 q5 q6 q7 => ?_, hI_sI_s _ _ _ _, fun l q1 q2 => ?_⟩
    · rw [hI_sI_k q1, a7 k q2 q3 q4 q5 q6 q7]; exact m126 k q5 q6
    · rw [t128, a8 l q1 q2, m128]
  | inl x =>
    obtain ⟨i, s'⟩ := x
    intro hi M' x3 A'
    obtain ⟨a1, a2, a3, a4, a5, a6, a7, a8, a9⟩ := A'
    have F' := a1.F
    rw [k262_177, m262_179 F', mBackU F']
    simp only [oZ]
    have o133 : ∀ l, l < 272 → hI M' 133 l = hI M 131 l := fun l hl => by rw [agr_I a6 (a := 133) (by decide)]; exact m133 l hl
    have o134 : ∀ l, l < 16 → hI M' 134 l = hI M 132 l := fun l hl => by rw [agr_I a6 (a := 134) (by decide)]; exact m134 l hl
    have Fg : MF (sI (sIs (sIs (sIs M' 128 4 17 (fun i => hI M' 131 (17 * 17 + i))) 131 0 272 (hI M' 133)) 132 0 16 (hI M' 134)) 126 8 (hI M 126 8)) := F'
    have ag : agr [126, 128, 131, 132] M' (sI (sIs (sIs (sIs M' 128 4 17 (fun i => hI M' 131 (17 * 17 + i))) 131 0 272 (hI M' 133)) 132 0 16 (hI M' 134)) 126 8 (hI M 126 8)) := agr_trans (agr_trans (agr_trans (agr_sIs (by decide)) (agr_sIs (by decide))) (agr_sIs (by decide))) (agr_sI (by decide))
    have g126 : ∀ k, ¬ k = 8 → hI (sI (sIs (sIs (sIs M' 128 4 17 (fun i => hI M' 131 (17 * 17 + i))) 131 0 272 (hI M' 133)) 132 0 16 (hI M' 134)) 126 8 (hI M 126 8)) 126 k = hI M' 126 k := fun k q => by
      rw [hI_sI_k q, hI_sIs_a (by decide), hI_sIs_a (by decide), hI_sIs_a (by decide)]
    have g8 : hI (sI (sIs (sIs (sIs M' 128 4 17 (fun i => hI M' 131 (17 * 17 + i))) 131 0 272 (hI M' 133)) 132 0 16 (hI M' 134)) 126 8 (hI M 126 8)) 126 8 = hI M 126 8 := hI_sI_s _ _ _ _
    have g128 : ∀ l, hI (sI (sIs (sIs (sIs M' 128 4 17 (fun i => hI M' 131 (17 * 17 + i))) 131 0 272 (hI M' 133)) 132 0 16 (hI M' 134)) 126 8 (hI M 126 8)) 128 l = hI M 128 l := fun l => by
      rw [hI_sI_a (by decide), hI_sIs_a (by decide), hI_sIs_a (by decide)]
      by_cases c : 4 ≤ l ∧ l < 21
      · have := hI_sIs_s (M := M') (a := 128) (m := 4) (n := 17) (k' := l - 4) (g := fun i => hI M' 131 (17 * 17 + i)) (by omega)
        rw [show 4 + (l - 4) = l by omega] at this
        rw [this, show 17 * 17 + (l - 4) = 289 + (l - 4) by omega, a9 _ (by omega), m131, k131b (l - 4) (by omega), show 4 + (l - 4) = l by omega]
      · rw [hI_sIs_k (by omega), a8 l (by omega) (by omega), m128]
    have g131 : ∀ l, l < 272 → hI (sI (sIs (sIs (sIs M' 128 4 17 (fun i => hI M' 131 (17 * 17 + i))) 131 0 272 (hI M' 133)) 132 0 16 (hI M' 134)) 126 8 (hI M 126 8)) 131 l = hI M 131 l := fun l hl => by
      rw [hI_sI_a (by decide), hI_sIs_a (by decide), hI_sIs_0 hl]; exact o133 l hl
    have g132 : ∀ l, l < 16 → hI (sI (sIs (sIs (sIs M' 128 4 17 (fun i => hI M' 131 (17 * 17 + i))) 131 0 272 (hI M' 133)) 132 0 16 (hI M' 134)) 126 8 (hI M 126 8)) 132 l = hI M 132 l := fun l hl => by
      rw [hI_sI_a (by decide), hI_sIs_0 hl]; exact o134 l hl
    generalize sI (sIs (sIs (sIs M' 128 4 17 (fun i => hI M' 131 (17 * 17 + i))) 131 0 272 (hI M' 133)) 132 0 16 (hI M' 134)) 126 8 (hI M 126 8) = Mg at *
    have Fh : MF (sI Mg 126 49 (nI i)) := Fg
    have ah : agr [126] Mg (sI Mg 126 49 (nI i)) := agr_sI (by decide)
    rw [m262_182 Fg, k262_187, m262_190 Fh, show (-3 : Int32) = -(nI 3) from by decide, mTell_n Fh (by omega) (by omega)]
    simp only [oN]
    rw [k262_193]
    refine H hi _ ⟨agr_trans (agr_mono am (by intro x q; simp [OQ] at q ⊢; omega)) (agr_trans (agr_mono a6 (by intro x q; simp [RO, RAE, OQ] at q ⊢; omega)) (agr_trans (agr_mono ag (by intro x q; simp [OQ] at q ⊢; omega)) (agr_mono ah (by intro x q; simp [OQ] at q ⊢; omega)))), ?_, fun l hl => ?_, fun k hk => ?_, fun k q1 q2 q3 q4 q5 q6 => ?_, hI_sI_s _ _ _ _⟩
    · funext l; rw [agr_I ah (a := 128) (by decide)]; exact g128 l
    · rw [agr_I ah (a := 131) (by decide)]; exact g131 l hl
    · rw [agr_I ah (a := 132) (by decide)]; exact g132 k hk
    · rw [hI_sI_k q5]
      by_cases c8 : k = 8
      · rw [c8]; exact g8
      · rw [g126 k c8, a7 k c8 q1 q2 q3 q4 q6]; exact m126 k q3 q4
