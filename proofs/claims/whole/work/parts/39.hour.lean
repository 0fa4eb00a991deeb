variable {d : Nat} {M : hp} {Q : Option Value → hp → Prop}
/-- the last hat on a peg, -1: none -/
def lastH (P : Nat → Int32) (q : Nat) : Nat → Int32 := fun n => fo (fun j x => if P j = nI q then nI j else x) 0 n (-1)
theorem lastH_s (P : Nat → Int32) (q n : Nat) : lastH P q (n + 1) = if P n = nI q then nI n else lastH P q n := by
  unfold lastH
  rw [fo_end, Nat.zero_add]
/-- pegs as they can be -/
def PegS (P : Nat → Int32) (n : Nat) : Prop := (∀ j, j < n → P j = -1 ∨ ∃ q, q < 10 ∧ P j = nI q) ∧ ∀ i j, i < n → j < n → P i = P j → ¬ P i = -1 → i = j
def KnoS (W : Nat → Int32) (n : Nat) : Prop := ∀ j, j < n → sm (W j)
theorem agr_cons {E : List Nat} {M M' : hp} (a : Nat) (h : agr E M M') : agr (a :: E) M M' := agr_mono h (fun b q => by simp at q ⊢; exact Or.inr q)
theorem seat_ok {p h n : Nat} (HN : NightS M p) (H : HallS M h) (N : HallN M h n) (HP : PegS (hI M (h + 3)) n) (ha : p + 5 < h ∨ h + 5 < p) (hQ : ∀ M', agr [p + 4, p + 5] M M' → (∀ q, q < 10 → hI M' (p + 4) q = lastH (hI M (h + 3)) q n) → (∀ k, k < 7 → hI M' (p + 5) k = 0) → Q none M') : Wp none d 41 0 [(0, .ref p), (1, .ref h)] [] M Q := by
  have p64 := HN.1
  have h64 := H.1
  have h7 := N.2
  have k4 : hK M (p + 4) = (20, 10) := HN.2.2.2.2.2.2.1
  have k5 : hK M (p + 5) = (20, 7) := HN.2.2.2.2.2.2.2
  have r1 : hR M p 1 = p + 4 := HN.2.2.2.1
  have r2 : hR M p 2 = p + 5 := HN.2.2.2.2.1
  -- the pegs
  have l1 : ∀ (k i : Nat) (M1 : hp), i + k = 10 → agr [p + 4, p + 5] M M1 → (∀ q, q < i → hI M1 (p + 4) q = -1) → (∀ M', agr [p + 4, p + 5] M M' → (∀ q, q < 10 → hI M' (p + 4) q = -1) → Wp none d 41 23 [(0, .ref p), (1, .ref h), (2, .int (nI 10))] [] M' Q) → Wp none d 41 2 [(0, .ref p), (1, .ref h), (2, .int (nI i))] [] M1 Q := by
    intro k
    induction k with
    | zero =>
      intro i M1 e a1 hq hk
      have : i = 10 := by omega
      subst this
      rw [k41_2, k41_5, if_pos (by decide)]
      exact hk M1 a1 hq
    | succ k ih =>
      intro i M1 e a1 hq hk
      have c : ¬ (10 : Int32) ≤ nI i := by
        show ¬ nI 10 ≤ nI i
        rw [n_le (by omega) (by omega)]
        omega
      rw [k41_2, k41_5, if_neg c, k41_8 (by rw [agr_K a1]; exact HN.2.1) (by rw [agr_R a1, r1]; omega), agr_R a1, r1, k41_14, T_put (by rw [agr_K a1]; exact k4) (by omega) (by omega), pI_n (by omega) (by omega)]
      simp only [oZ]
      rw [k41_17, nI_1]
      refine ih (i + 1) _ (by omega) (agr_trans a1 (agr_sI (by simp))) ?_ hk
      intro q hqi
      rw [hI_sI]
      by_cases z : q = i
      · rw [if_pos ⟨rfl, z⟩]
      · rw [if_neg (fun w => z w.2)]
        exact hq q (by omega)
  have l2 : ∀ (k i : Nat) (M1 : hp), i + k = 7 → agr [p + 4, p + 5] M M1 → (∀ q, q < 10 → hI M1 (p + 4) q = lastH (hI M (h + 3)) q (min i n)) → (∀ q, q < i → hI M1 (p + 5) q = 0) → Wp none d 41 25 [(0, .ref p), (1, .ref h), (2, .int (nI i))] [] M1 Q := by
    intro k
    induction k with
    | zero =>
      intro i M1 e a1 hq hz
      have : i = 7 := by omega
      subst this
      rw [k41_25, k41_28, if_pos (by decide), k41_70]
      refine hQ M1 a1 ?_ hz
      intro q w
      rw [hq q w, show min 7 n = n by omega]
    | succ k ih =>
      intro i M1 e a1 hq hz
      have c : ¬ (7 : Int32) ≤ nI i := by
        show ¬ nI 7 ≤ nI i
        rw [n_le (by omega) (by omega)]
        omega
      rw [k41_25, k41_28, if_neg c, k41_31 (by rw [agr_K a1]; exact HN.2.1) (by rw [agr_R a1, r2]; omega), agr_R a1, r2, k41_37, T_put (by rw [agr_K a1]; exact k5) (by omega) (by omega), pI_n (by omega) (by omega)]
      simp only [oZ]
      have a2 : agr [p + 4, p + 5] M (sI M1 (p + 5) i 0) := agr_trans a1 (agr_sI (by simp))
      have H2 := HallS_agr a2 H
      have nin : ∀ a, ¬ a = p + 4 → ¬ a = p + 5 → ([p + 4, p + 5] : List Nat).contains a = false := by intro a q1 q2; simp [q1, q2]
      have N2 : HallN (sI M1 (p + 5) i 0) h n := by
        unfold HallN
        rw [agr_I a2 (nin h (by omega) (by omega))]
        exact N
      have P2 : hI (sI M1 (p + 5) i 0) (h + 3) = hI M (h + 3) := agr_I a2 (nin _ (by omega) (by omega))
      have z2 : ∀ q, q < i + 1 → hI (sI M1 (p + 5) i 0) (p + 5) q = 0 := by
        intro q hqi
        rw [hI_sI]
        by_cases z : q = i
        · rw [if_pos ⟨rfl, z⟩]
        · rw [if_neg (fun w => z w.2)]
          exact hz q (by omega)
      have q2 : ∀ q, q < 10 → hI (sI M1 (p + 5) i 0) (p + 4) q = lastH (hI M (h + 3)) q (min i n) := by
        intro q w
        rw [hI_sI_a (by omega)]
        exact hq q w
      rw [k41_40, k41_42 (by rw [agr_K a2]; exact H.2.1), Hall_isHung H2 N2 (by omega)]
      simp only [oN]
      rw [k41_45, P2]
      simp only [bz_eq0]
      generalize sI M1 (p + 5) i 0 = M2 at *
      by_cases c1 : i < n ∧ ¬ hI M (h + 3) i = -1
      · rw [if_neg (fun q => q c1), k41_48 (by rw [agr_K a2]; exact HN.2.1) (by rw [agr_R a2, r1]; omega) (by rw [agr_K a2]; exact H.2.1) (by rw [agr_R a2, H.2.2.2.2.1]; omega), agr_R a2, r1, H.2.2.2.2.1, k41_57, at_P H2 (by omega)]
        simp only [oM]
        rw [P2, k41_60, k41_61]
        obtain ⟨q0, hq0, eq0⟩ := (HP.1 i c1.1).resolve_left c1.2
        rw [eq0, T_put (by rw [agr_K a2]; exact k4) (by omega) (by omega), pI_n hq0 (by omega)]
        simp only [oZ]
        rw [k41_64, nI_1]
        refine ih (i + 1) _ (by omega) (agr_trans a2 (agr_sI (by simp))) ?_ ?_
        · intro q w
          rw [show min (i + 1) n = i + 1 by omega, lastH_s, hI_sI]
          by_cases z : q = q0
          · rw [if_pos ⟨rfl, z⟩, z, if_pos eq0]
          · rw [if_neg (fun v => z v.2), if_neg (by rw [eq0, n_eq (by omega) (by omega)]; omega), q2 q w, show min i n = i by omega]
        · intro q w
          rw [hI_sI_a (by omega)]
          exact z2 q w
      · rw [if_pos c1, k41_64, nI_1]
        refine ih (i + 1) _ (by omega) a2 ?_ z2
        intro q w
        rw [q2 q w]
        by_cases z : i < n
        · rw [show min (i + 1) n = i + 1 by omega, show min i n = i by omega, lastH_s]
          have z2 : hI M (h + 3) i = -1 := Classical.not_not.mp (fun v => c1 ⟨z, v⟩)
          rw [z2, if_neg]
          rw [n_m1' (by omega)]
          exact id
        · rw [show min (i + 1) n = min i n by omega]
  rw [k41_0]
  refine l1 10 0 M (by omega) (agr_refl _ _) (fun q w => absurd w (by omega)) ?_
  intro M' a1 hq
  rw [k41_23]
  refine l2 7 0 M' (by omega) a1 ?_ (fun q w => absurd w (by omega))
  intro q w
  rw [hq q w, show min 0 n = 0 by omega]
  rfl
theorem lastH_cases (P : Nat → Int32) (q : Nat) : ∀ n, lastH P q n = -1 ∨ ∃ j, j < n ∧ lastH P q n = nI j ∧ P j = nI q
  | 0 => Or.inl rfl
  | n + 1 => by
    rw [lastH_s]
    by_cases c : P n = nI q
    · rw [if_pos c]
      exact Or.inr ⟨n, by omega, rfl, c⟩
    · rw [if_neg c]
      rcases lastH_cases P q n with z | ⟨j, z1, z2, z3⟩
      · exact Or.inl z
      · exact Or.inr ⟨j, by omega, z2, z3⟩
def updI (T : Nat → Int32) (k : Nat) (v : Int32) : Nat → Int32 := fun j => if j = k then v else T j
/-- what is told at the pegs q and q + 1 -/
def tStep (F : Nat → Nat → Int32) (O : Nat → Int32) (q : Nat) (T : Nat → Int32) : Nat → Int32 :=
  if O q = -1 ∨ O (q + 1) = -1 then T else updI (updI T (O (q + 1)).toNatClampNeg (T (O (q + 1)).toNatClampNeg ||| F (O q).toNatClampNeg (O (q + 1)).toNatClampNeg)) (O q).toNatClampNeg (updI T (O (q + 1)).toNatClampNeg (T (O (q + 1)).toNatClampNeg ||| F (O q).toNatClampNeg (O (q + 1)).toNatClampNeg) (O q).toNatClampNeg ||| F (O (q + 1)).toNatClampNeg (O q).toNatClampNeg)
def tAll (F : Nat → Nat → Int32) (O : Nat → Int32) : Nat → Int32 := fo (tStep F O) 0 9 (fun _ => 0)
def nF (p : Nat) : List Nat := [p + 1, p + 2, p + 3, p + 4, p + 5]
theorem nF_not {p a : Nat} (h : a ≤ p ∨ p + 6 ≤ a) : (nF p).contains a = false := by
  unfold nF
  simp
  omega
theorem nF_low {p : Nat} (h : p + 5 < kB) : low (nF p) := by
  intro a q
  unfold nF at q
  simp at q
  omega
theorem nE_nF {p : Nat} {M M' : hp} (h : agr (nE p) M M') : agr (nF p) M M' := agr_mono h (by
  intro a q
  unfold nE at q
  unfold nF
  simp at q ⊢
  omega)
theorem toldF_agr {p h j o : Nat} {L : Law} {M M' : hp} (h1 : agr (nF p) M M') (ha : p + 5 < h ∨ h + 5 < p) : toldF L M' h j o = toldF L M h j o := by
  unfold toldF envF
  rw [agr_I h1 (nF_not (a := h) (by omega)), agr_I h1 (nF_not (a := h + 1) (by omega)), agr_I h1 (nF_not (a := h + 2) (by omega)), agr_I h1 (nF_not (a := h + 4) (by omega))]
theorem told_loop {p h n : Nat} {L : Law} {O : Nat → Int32} {M0 : hp} (HN : NightS M0 p) (H : HallS M0 h) (N : HallN M0 h n) (HL : LawIn M0 h L) (HK : KnoS (hI M0 (h + 4)) n) (hO : ∀ q, q < 10 → O q = -1 ∨ ∃ j, j < n ∧ O q = nI j) (ha : p + 5 < h ∨ h + 5 < p) (hB : p + 5 < kB) (hh : h < kB)
    (hQ : ∀ M', agr (nF p) M0 M' → (∀ k, k < 7 → hI M' (p + 5) k = tAll (toldF L M0 h) O k) → Wp none d 40 105 [(0, .ref p), (1, .ref h), (2, .int (nI 9))] [] M' Q) :
    ∀ (k q : Nat) (T : Nat → Int32) (M : hp), q + k = 9 → agr (nF p) M0 M → (∀ q, q < 10 → hI M (p + 4) q = O q) → (∀ k, k < 7 → hI M (p + 5) k = T k) → fo (tStep (toldF L M0 h) O) q k T = tAll (toldF L M0 h) O → Wp none d 40 7 [(0, .ref p), (1, .ref h), (2, .int (nI q))] [] M Q := by
  have p64 := HN.1
  have h64 := H.1
  have h7 := N.2
  have k4 : hK M0 (p + 4) = (20, 10) := HN.2.2.2.2.2.2.1
  have k5 : hK M0 (p + 5) = (20, 7) := HN.2.2.2.2.2.2.2
  have r1 : hR M0 p 1 = p + 4 := HN.2.2.2.1
  have r2 : hR M0 p 2 = p + 5 := HN.2.2.2.2.1
  intro k
  induction k with
  | zero =>
    intro q T M e a1 h4 h5 hT
    have : q = 9 := by omega
    subst this
    rw [k40_7, k40_12, if_pos (by decide)]
    refine hQ M a1 ?_
    intro k hk
    rw [h5 k hk, ← hT]
    rfl
  | succ k ih =>
    intro q T M e a1 h4 h5 hT
    have c : ¬ (10 : Int32) ≤ nI q + 1 := by
      rw [nI_1]
      show ¬ nI 10 ≤ nI (q + 1)
      rw [n_le (by omega) (by omega)]
      omega
    have hn0 : (hK M p).1 = 2 := by rw [agr_K a1]; exact HN.2.1
    have hr1 : hR M p 1 = p + 4 := by rw [agr_R a1]; exact r1
    have hr2 : hR M p 2 = p + 5 := by rw [agr_R a1]; exact r2
    have hk4 : hK M (p + 4) = (20, 10) := by rw [agr_K a1]; exact k4
    have hk5 : hK M (p + 5) = (20, 7) := by rw [agr_K a1]; exact k5
    have hT2 : fo (tStep (toldF L M0 h) O) (q + 1) k (tStep (toldF L M0 h) O q T) = tAll (toldF L M0 h) O := hT
    rw [k40_7, k40_12, if_neg c, k40_15 hn0 (by rw [hr1]; omega), hr1, k40_20, T_at hk4 (by omega) (by omega), gI_n (by omega) (by omega), h4 q (by omega)]
    simp only [oN]
    rw [k40_23 hn0 (by rw [hr1]; omega), hr1, nI_1, k40_31, T_at hk4 (by omega) (by omega), gI_n (by omega) (by omega), h4 (q + 1) (by omega)]
    simp only [oN]
    rw [k40_34, k40_38]
    have skip : (O q = -1 ∨ O (q + 1) = -1) → Wp none d 40 99 [(0, .ref p), (1, .ref h), (2, .int (nI q)), (3, .int (O q)), (4, .int (O (q + 1)))] [] M Q := by
      intro z
      rw [k40_99, nI_1]
      have : tStep (toldF L M0 h) O q T = T := by unfold tStep; rw [if_pos z]
      rw [this] at hT2
      exact ih (q + 1) T M (by omega) a1 h4 h5 hT2
    by_cases c1 : O q = -1
    · rw [if_pos c1]
      exact skip (Or.inl c1)
    · rw [if_neg c1, k40_41, k40_44]
      by_cases c2 : O (q + 1) = -1
      · rw [if_pos c2]
        exact skip (Or.inr c2)
      · rw [if_neg c2]
        obtain ⟨a, ha1, ha2⟩ := (hO q (by omega)).resolve_left c1
        obtain ⟨b, hb1, hb2⟩ := (hO (q + 1) (by omega)).resolve_left c2
        have eT : tStep (toldF L M0 h) O q T = updI (updI T b (T b ||| toldF L M0 h a b)) a (updI T b (T b ||| toldF L M0 h a b) a ||| toldF L M0 h b a) := by
          unfold tStep
          rw [if_neg (by intro z; exact z.elim c1 c2), ha2, hb2, n_cl (by omega), n_cl (by omega)]
        rw [eT] at hT2
        rw [ha2, hb2, k40_47 hn0 (by rw [hr2]; omega), hr2, k40_59, T_at hk5 (by omega) (by omega), gI_n (by omega) (by omega), h5 b (by omega)]
        simp only [oM]
        rw [k40_62, k40_67 hn0]
        refine Night_toldBy (L := L) (NightS_agr a1 HN) (HallS_agr a1 H) (LawIn_agr a1 (nF_low hB) (nF_not (by omega)) HL) (by omega) (by omega) (by rw [agr_I a1 (nF_not (by omega))]; exact HK a ha1) ha hB ?_
        intro M1 w1
        have a2 := agr_trans a1 (nE_nF w1)
        rw [toldF_agr a1 ha]
        simp only [oM]
        have t1 : hI M1 (p + 5) = hI M (p + 5) := agr_I w1 (nE_not (by omega))
        have t2 : hI M1 (p + 4) = hI M (p + 4) := agr_I w1 (nE_not (by omega))
        rw [k40_70, k40_71, T_put (by rw [agr_K a2]; exact k5) (by omega) (by omega), pI_n (by omega) (by omega)]
        simp only [oZ]
        have a3 : agr (nF p) M0 (sI M1 (p + 5) b (T b ||| toldF L M0 h a b)) := agr_trans a2 (agr_sI (by unfold nF; simp))
        have t3 : ∀ k, k < 7 → hI (sI M1 (p + 5) b (T b ||| toldF L M0 h a b)) (p + 5) k = updI T b (T b ||| toldF L M0 h a b) k := by
          intro k hk
          unfold updI
          rw [hI_sI]
          by_cases z : k = b
          · rw [if_pos ⟨rfl, z⟩, if_pos z]
          · rw [if_neg (fun y => z y.2), if_neg z, t1, h5 k hk]
        have t4 : ∀ q, q < 10 → hI (sI M1 (p + 5) b (T b ||| toldF L M0 h a b)) (p + 4) q = O q := by
          intro q hq
          rw [hI_sI_a (by omega), t2, h4 q hq]
        generalize sI M1 (p + 5) b (T b ||| toldF L M0 h a b) = M2 at *
        have hn2 : (hK M2 p).1 = 2 := by rw [agr_K a3]; exact HN.2.1
        have hr22 : hR M2 p 2 = p + 5 := by rw [agr_R a3]; exact r2
        rw [k40_74 hn2 (by rw [hr22]; omega), hr22, k40_84, T_at (by rw [agr_K a3]; exact k5) (by omega) (by omega), gI_n (by omega) (by omega), t3 a (by omega)]
        simp only [oM]
        rw [k40_87, k40_92 hn2]
        refine Night_toldBy (L := L) (NightS_agr a3 HN) (HallS_agr a3 H) (LawIn_agr a3 (nF_low hB) (nF_not (by omega)) HL) (by omega) (by omega) (by rw [agr_I a3 (nF_not (by omega))]; exact HK b hb1) ha hB ?_
        intro M3 w3
        have a4 := agr_trans a3 (nE_nF w3)
        rw [toldF_agr a3 ha]
        simp only [oM]
        have t5 : hI M3 (p + 5) = hI M2 (p + 5) := agr_I w3 (nE_not (by omega))
        have t6 : hI M3 (p + 4) = hI M2 (p + 4) := agr_I w3 (nE_not (by omega))
        rw [k40_95, k40_96, T_put (by rw [agr_K a4]; exact k5) (by omega) (by omega), pI_n (by omega) (by omega)]
        simp only [oZ]
        rw [k40_99, nI_1]
        refine ih (q + 1) _ _ (by omega) (agr_trans a4 (agr_sI (by unfold nF; simp))) ?_ ?_ hT2
        · intro q hq
          rw [hI_sI_a (by omega), t6, t4 q hq]
        · intro k hk
          show _ = (if k = a then _ else _)
          rw [hI_sI]
          by_cases z : k = a
          · rw [if_pos ⟨rfl, z⟩, if_pos z]
          · rw [if_neg (fun y => z y.2), if_neg z, t5, t3 k hk]
theorem tAll_sm (F : Nat → Nat → Int32) (O : Nat → Int32) (hF : ∀ a b, sm (F a b)) : ∀ j, sm (tAll F O j) := by
  unfold tAll
  refine fo_inv (fun T : Nat → Int32 => ∀ j, sm (T j)) 9 0 _ ?_ ?_
  · intro j; exact sm_0
  · intro q T _ _ hT j
    unfold tStep
    split
    · exact hT j
    · unfold updI
      split
      · exact sm_or (by split; exact sm_or (hT _) (hF _ _); exact hT _) (hF _ _)
      · split
        · exact sm_or (hT _) (hF _ _)
        · exact hT j
/-- the hats on the pegs -/
def onF (P : Nat → Int32) (n : Nat) : Nat → Int32 := fun q => lastH P q n
def lrnF (T : Nat → Int32) (n : Nat) : Int32 := fo (fun j s => s + mny (T j)) 0 n 0
/-- what an hour tells each hat -/
def hourT (L : Law) (M : hp) (h n : Nat) : Nat → Int32 := tAll (toldF L M h) (onF (hI M (h + 3)) n)
def hE (p h : Nat) : List Nat := h :: (h + 4) :: nF p
theorem hE_not {p h a : Nat} (h1 : ¬ a = h) (h2 : ¬ a = h + 4) (h3 : a ≤ p ∨ p + 6 ≤ a) : (hE p h).contains a = false := by
  unfold hE nF
  simp
  omega
theorem hE_low {p h : Nat} (h1 : p + 5 < kB) (h2 : h + 5 < kB) : low (hE p h) := by
  intro a q
  unfold hE nF at q
  simp at q
  omega
theorem Night_oneHour {p h n : Nat} {L : Law} (HN : NightS M p) (H : HallS M h) (N : HallN M h n) (HP : PegS (hI M (h + 3)) n) (HK : KnoS (hI M (h + 4)) n) (HL : LawIn M h L) (ha : p + 5 < h ∨ h + 5 < p) (hB : p + 5 < kB) (hh : h < kB)
    (hQ : ∀ M', agr (hE p h) M M' → (∀ k, hI M' (h + 4) k = if k < n then hI M (h + 4) k ||| hourT L M h n k else hI M (h + 4) k) → (∀ k, hI M' h k = if k = 5 then hI M h 5 + 1 else hI M h k) → Q (some (.int (lrnF (hourT L M h n) n))) M') : Wp none d 40 0 [(0, .ref p), (1, .ref h)] [] M Q := by
  have p64 := HN.1
  have h64 := H.1
  have h7 := N.2
  have hn : n < 2147483648 := by omega
  rw [k40_0, k40_2 HN.2.1]
  refine seat_ok HN H N HP ha ?_
  intro M1 a0 q4 q5
  have a1 : agr (nF p) M M1 := agr_mono a0 (by
    intro a q
    unfold nF
    simp at q ⊢
    omega)
  simp only [oZ]
  rw [k40_5]
  have z4 : hI M1 (h + 4) = hI M (h + 4) := agr_I a1 (nF_not (by omega))
  have z3 : hI M1 (h + 3) = hI M (h + 3) := agr_I a1 (nF_not (by omega))
  have z0 : hI M1 h = hI M h := agr_I a1 (nF_not (by omega))
  have eF : toldF L M1 h = toldF L M h := by
    funext j o
    exact toldF_agr a1 ha
  refine told_loop (M0 := M1) (L := L) (O := onF (hI M (h + 3)) n) (n := n) (NightS_agr a1 HN) (HallS_agr a1 H) (by unfold HallN; rw [z0]; exact N) (LawIn_agr a1 (nF_low hB) (nF_not (by omega)) HL) (by rw [z4]; exact HK) ?_ ha hB hh ?_ 9 0 (fun _ => 0) M1 (by omega) (agr_refl _ _) q4 q5 rfl
  · intro q hq
    rcases lastH_cases (hI M (h + 3)) q n with z | ⟨j, y1, y2, _⟩
    · exact Or.inl z
    · exact Or.inr ⟨j, y1, y2⟩
  · intro M2 a2 t5
    rw [eF] at t5
    have a3 := agr_trans a1 a2
    have w4 : hI M2 (h + 4) = hI M (h + 4) := agr_I a3 (nF_not (by omega))
    have w0 : hI M2 h = hI M h := agr_I a3 (nF_not (by omega))
    rw [k40_105]
    have tsm : ∀ j, sm (hourT L M h n j) := tAll_sm _ _ (fun a b => toldF_sm L M h a b)
    have loop : ∀ (k j : Nat) (s : Int32) (M3 : hp), j + k = n → agr (hE p h) M M3 → (∀ k, k < 7 → hI M3 (p + 5) k = hourT L M h n k) → (∀ k, hI M3 (h + 4) k = if k < j then hI M (h + 4) k ||| hourT L M h n k else hI M (h + 4) k) → (hI M3 h = hI M h) → fo (fun j s => s + mny (hourT L M h n j)) j k s = lrnF (hourT L M h n) n → Wp none d 40 109 [(0, .ref p), (1, .ref h), (2, .int s), (3, .int (nI j))] [] M3 Q := by
      intro k
      induction k with
      | zero =>
        intro j s M3 e b1 b2 b3 b4 b5
        have : j = n := by omega
        subst this
        have hb0 : (hK M3 h).1 = 0 := by rw [agr_K b1]; exact H.2.1
        rw [k40_109 hb0, k40_114, b4, N.1, if_pos (by rw [n_le hn hn]; exact Nat.le_refl j), k40_150 hb0, k40_160]
        have b6 : s = lrnF (hourT L M h j) j := b5
        rw [b6]
        refine hQ _ (agr_trans b1 (agr_sI (by unfold hE; simp))) ?_ ?_
        · intro k
          rw [hI_sI_a (by omega)]
          exact b3 k
        · intro k
          rw [hI_sI, b4]
          by_cases z : k = 5
          · rw [if_pos ⟨rfl, z⟩, if_pos z]
          · rw [if_neg (fun y => z y.2), if_neg z]
      | succ k ih =>
        intro j s M3 e b1 b2 b3 b4 b5
        have hj2 : j < 2147483648 := by omega
        have hb0 : (hK M3 h).1 = 0 := by rw [agr_K b1]; exact H.2.1
        have hbn : (hK M3 p).1 = 2 := by rw [agr_K b1]; exact HN.2.1
        have hbr : hR M3 p 2 = p + 5 := by rw [agr_R b1]; exact HN.2.2.2.2.1
        have hbk : hK M3 (p + 5) = (20, 7) := by rw [agr_K b1]; exact HN.2.2.2.2.2.2.2
        rw [k40_109 hb0, k40_114, b4, N.1, if_neg (by rw [n_le hn hj2]; omega), k40_117 hbn (by rw [hbr]; omega), hbr, k40_123, T_at hbk (by omega) (by omega), gI_n (by omega) (by omega), b2 j (by omega)]
        simp only [oM]
        rw [k40_126, bitCount_ok (tsm j)]
        simp only [oM]
        rw [k40_129 hbn (by rw [hbr]; omega), hbr, k40_138, T_at hbk (by omega) (by omega), gI_n (by omega) (by omega), b2 j (by omega)]
        simp only [oM]
        rw [k40_141 hb0, Hall_learn (HallS_agr b1 H) (by omega)]
        simp only [oZ]
        rw [k40_144, nI_1, b3 j, if_neg (by omega)]
        refine ih (j + 1) _ _ (by omega) (agr_trans b1 (agr_sI (by unfold hE; simp))) ?_ ?_ ?_ b5
        · intro k hk
          rw [hI_sI_a (by omega)]
          exact b2 k hk
        · intro k
          rw [hI_sI]
          by_cases z : k = j
          · rw [if_pos ⟨rfl, z⟩, z, if_pos (by omega)]
          · rw [if_neg (fun y => z y.2), b3 k]
            by_cases y : k < j
            · rw [if_pos y, if_pos (by omega)]
            · rw [if_neg y, if_neg (by omega)]
        · funext k
          rw [hI_sI_a (by omega), b4]
    exact loop n 0 0 M2 (by omega) (agr_mono a3 (by
      intro a q
      unfold hE
      unfold nF at q ⊢
      simp at q ⊢
      omega)) (fun k hk => t5 k hk) (fun k => by rw [w4, if_neg (by omega)]) w0 rfl
