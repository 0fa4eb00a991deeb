variable {d : Nat} {M : hp} {Q : Option Value → hp → Prop}
theorem n_addl (a n : Nat) : nI a + (OfNat.ofNat n : Int32) = nI (a + n) := by rw [fa_lit, nI_add]
theorem n_mul (a b : Nat) : nI a * nI b = nI (a * b) := (Int32.ofNat_mul a b).symm
theorem n_mull (a n : Nat) : nI a * (OfNat.ofNat n : Int32) = nI (a * n) := by rw [fa_lit, n_mul]
theorem n_sub {a b : Nat} (h : b ≤ a) : nI a - nI b = nI (a - b) := (Int32.ofNat_sub a b h).symm
theorem n_subl {a n : Nat} (h : n ≤ a) : nI a - (OfNat.ofNat n : Int32) = nI (a - n) := by rw [fa_lit, n_sub h]
theorem n_div {a b : Nat} (ha : a < 2147483648) (hb : b < 2147483648) : nI a / nI b = nI (a / b) := (Int32.ofNat_div ha hb).symm
theorem n_divl {a n : Nat} (ha : a < 2147483648) (hb : n < 2147483648) : nI a / (OfNat.ofNat n : Int32) = nI (a / n) := by rw [fa_lit, n_div ha hb]
theorem n_modl {a n : Nat} (ha : a < 2147483648) (hb : n < 2147483648) : nI a - nI a / (OfNat.ofNat n : Int32) * (OfNat.ofNat n : Int32) = nI (a % n) := by
  rw [n_divl ha hb, n_mull, n_sub (Nat.div_mul_le_self a n)]
  congr 1
  have := Nat.mod_add_div a n
  rw [Nat.mul_comm] at this
  omega
/-- a memory whose ints alone differ -/
def wI (M : hp) (f : Nat → Nat → Int32) : hp := (M.1, M.2.1, M.2.2.1, f, M.2.2.2.2.1, M.2.2.2.2.2)
theorem wI_ext {M : hp} {f g : Nat → Nat → Int32} (h : ∀ a k, f a k = g a k) : wI M f = wI M g := by
  have : f = g := by funext a k; exact h a k
  rw [this]
theorem sI_w (M : hp) (a k : Nat) (v : Int32) : sI M a k v = wI M (fun a' k' => if a' = a ∧ k' = k then v else hI M a' k') := rfl
theorem sIs_w (M : hp) (a m n : Nat) (g : Nat → Int32) : sIs M a m n g = wI M (fun a' k' => if a' = a ∧ m ≤ k' ∧ k' < m + n then g (k' - m) else hI M a' k') := rfl
theorem hI_wI (M : hp) (f : Nat → Nat → Int32) : hI (wI M f) = f := rfl
theorem wI_wI (M : hp) (f g : Nat → Nat → Int32) : wI (wI M f) g = wI M g := rfl
theorem hI_sIs_k {M : hp} {a m n a' k' : Nat} {g : Nat → Int32} (h : ¬ (m ≤ k' ∧ k' < m + n)) : hI (sIs M a m n g) a' k' = hI M a' k' := by rw [hI_sIs, if_neg (fun q => h q.2)]
theorem hI_sIs_s {M : hp} {a m n k' : Nat} {g : Nat → Int32} (h : k' < n) : hI (sIs M a m n g) a (m + k') = g k' := by rw [hI_sIs, if_pos ⟨rfl, by omega, by omega⟩, Nat.add_sub_cancel_left]
theorem hI_sIs_0 {M : hp} {a n k' : Nat} {g : Nat → Int32} (h : k' < n) : hI (sIs M a 0 n g) a k' = g k' := by rw [hI_sIs, if_pos ⟨rfl, by omega, by omega⟩, Nat.sub_zero]
theorem T_copyCells {a b La Lb : Nat} (ka : hK M a = (20, La)) (kb : hK M b = (20, Lb)) (hab : ¬ a = b) (a1 : ¬ a = 1) (b1 : ¬ b = 1) (hLa : La < 2147483648) (hLb : Lb < 2147483648) : Wp none d 149 0 [(0, .ref a), (1, .ref b)] [] M Q = Q none (sIs M b 0 (min La Lb) (hI M a)) := by
  have ea : (hK M a).1 = 20 := by rw [ka]
  have eb : (hK M b).1 = 20 := by rw [kb]
  have ea2 : (hK M a).2 = La := by rw [ka]
  have eb2 : (hK M b).2 = Lb := by rw [kb]
  have key := for_0 (W := fun i => Wp none d 149 2 [(0, .ref a), (1, .ref b), (2, .int (nI i))] [] (sIs M b 0 i (hI M a)) Q) (n := min La Lb) (fun i hi => by
    have hi2 : i < 2147483648 := by omega
    have e := sIs_1 M b 0 i (hI M a)
    rw [Nat.zero_add] at e
    rw [← e]
    have w : hI (sIs M b 0 i (hI M a)) a i = hI M a i := hI_sIs_a hab
    generalize hM : sIs M b 0 i (hI M a) = M1 at *
    have k1 : hK M1 = hK M := by rw [← hM]; rfl
    rw [k149_2 a1 (by rw [k1, ea]; omega), k149_5, k1, ea2, nI_def, if_neg (show ¬ nI La ≤ nI i by rw [n_le hLa hi2]; omega), k149_8 b1 (by rw [k1, eb]; omega), k149_11, k1, eb2, nI_def, if_neg (show ¬ nI Lb ≤ nI i by rw [n_le hLb hi2]; omega), k149_14 a1 (by rw [k1, ea]) (by rw [k1, ea2, vin_n hi2]; exact decide_eq_true (by omega)) (by rw [k1, eb]) (by rw [k1, eb2, vin_n hi2]; exact decide_eq_true (by omega)), k149_20, nI_1, n_cl hi2, w]) (min La Lb) 0 (by omega)
  rw [k149_0]
  rw [show M = sIs M b 0 0 (hI M a) from (sIs_0 _ _ _ _).symm]
  refine (show _ = _ from key).trans ?_
  rw [sIs_0]
  have hm : min La Lb < 2147483648 := by omega
  have k1 : hK (sIs M b 0 (min La Lb) (hI M a)) = hK M := rfl
  rw [k149_2 a1 (by rw [k1, ea]; omega), k149_5, k1, ea2, nI_def]
  by_cases c : La ≤ min La Lb
  · rw [if_pos (by rw [n_le hLa hm]; exact c), k149_26]
  · rw [if_neg (by rw [n_le hLa hm]; exact c), k149_8 b1 (by rw [k1, eb]; omega), k149_11, k1, eb2, nI_def, if_pos (by rw [n_le hLb hm]; omega), k149_26]
theorem T_clear {a L : Nat} (ka : hK M a = (21, L)) (a1 : ¬ a = 1) (hl : L < 2147483648) : Wp none d 150 0 [(0, .ref a)] [] M Q = Q none (sLs M a 0 L (fun _ => 0)) := by
  have ea : (hK M a).1 = 21 := by rw [ka]
  have ea2 : (hK M a).2 = L := by rw [ka]
  have key := for_0 (W := fun i => Wp none d 150 2 [(0, .ref a), (1, .int (nI i))] [] (sLs M a 0 i (fun _ => 0)) Q) (n := L) (fun i hi => by
    have hi2 : i < 2147483648 := by omega
    have e := sLs_1 M a 0 i (fun _ => 0)
    rw [Nat.zero_add] at e
    rw [← e]
    generalize hM : sLs M a 0 i (fun _ => 0) = M1 at *
    have k1 : hK M1 = hK M := by rw [← hM]; rfl
    rw [k150_2 a1 (by rw [k1, ea]; omega), k150_5, k1, ea2, nI_def, if_neg (show ¬ nI L ≤ nI i by rw [n_le hl hi2]; omega), k150_8 (by rw [k1, ea]) (by rw [k1, ea2, vin_n hi2]; exact decide_eq_true (by omega)), k150_12, nI_1, n_cl hi2]) L 0 (by omega)
  rw [k150_0]
  rw [show M = sLs M a 0 0 (fun _ => 0) from (sLs_0 _ _ _ _).symm]
  refine (show _ = _ from key).trans ?_
  rw [sLs_0]
  have k1 : hK (sLs M a 0 L (fun _ => 0)) = hK M := rfl
  rw [k150_2 a1 (by rw [k1, ea]; omega), k150_5, k1, ea2, nI_def, if_pos (show nI L ≤ nI L by rw [n_le hl hl]; exact Nat.le_refl L), k150_18]
/-- what orders and hours change, taken from another hall -/
def cpMv (M : hp) (f t : Nat) : hp := sI (sIs (sIs M (t + 3) 0 7 (hI M (f + 3))) (t + 4) 0 7 (hI M (f + 4))) t 5 (hI M f 5)
/-- two halls that don't meet -/
def apart (f t : Nat) : Prop := f + 5 < t ∨ t + 5 < f
theorem T_cc7 {a b : Nat} (ka : hK M a = (20, 7)) (kb : hK M b = (20, 7)) (hab : ¬ a = b) (a1 : ¬ a = 1) (b1 : ¬ b = 1) : Wp none d 149 0 [(0, .ref a), (1, .ref b)] [] M Q = Q none (sIs M b 0 7 (hI M a)) := T_copyCells ka kb hab a1 b1 (by omega) (by omega)
theorem Hall_copyMoving {f t : Nat} (H : HallS M t) (H2 : HallS M f) (ha : apart f t) : Wp none d 2 0 [(0, .ref t), (1, .ref f)] [] M Q = Q none (cpMv M f t) := by
  unfold apart at ha
  have h64 := H.1
  have h642 := H2.1
  have kP := H.2.2.2.2.2.2.2.2.2.1
  have kW := H.2.2.2.2.2.2.2.2.2.2.1
  have kP2 := H2.2.2.2.2.2.2.2.2.2.1
  have kW2 := H2.2.2.2.2.2.2.2.2.2.2.1
  have e1 : hI (sIs M (t + 3) 0 7 (hI M (f + 3))) (f + 4) = hI M (f + 4) := by funext k; exact hI_sIs_a (by omega)
  have e2 : hI (sIs (sIs M (t + 3) 0 7 (hI M (f + 3))) (t + 4) 0 7 (hI M (f + 4))) f 5 = hI M f 5 := by rw [hI_sIs_a (by omega), hI_sIs_a (by omega)]
  simp only [k2_0, k2_8, k2_11, k2_19, k2_22, H.2.1, H2.2.1, H.2.2.2.2.1, H2.2.2.2.2.1, H.2.2.2.2.2.1, H2.2.2.2.2.2.1, hK_sIs, hR_sIs, T_cc7, kP, kW, kP2, kW2, show ¬ f + 3 = t + 3 by omega, show ¬ f + 4 = t + 4 by omega, show ¬ f + 3 = 1 by omega, show ¬ t + 3 = 1 by omega, show ¬ f + 4 = 1 by omega, show ¬ t + 4 = 1 by omega, e1, e2, oN, oM, oZ, eq_self, true_or, or_true, not_false_eq_true, not_true_eq_false, Nat.add_eq_zero_iff, and_false, false_and, and_self, Nat.reduceEqDiff, Nat.reduceLT, Nat.reduceLeDiff, Nat.reduceAdd]
  rfl
def cpF (M : hp) (f t : Nat) : hp := sI (sI (sI (sI (sI (sI (sI (sI M t 6 (hI M f 6)) t 7 (hI M f 7)) t 8 (hI M f 8)) t 9 (hI M f 9)) t 10 (hI M f 10)) t 11 (hI M f 11)) t 12 (hI M f 12)) t 13 (hI M f 13)
def cpI (M : hp) (f t : Nat) : hp := cpF (cpMv (sIs (sIs M (t + 1) 0 7 (hI M (f + 1))) (t + 2) 0 7 (hI M (f + 2))) f t) f t
theorem hR_cpF (M : hp) (f t : Nat) : hR (cpF M f t) = hR M := by simp only [cpF, hR_sI]
theorem hK_cpF (M : hp) (f t : Nat) : hK (cpF M f t) = hK M := by simp only [cpF, hK_sI]
theorem hR_cpMv (M : hp) (f t : Nat) : hR (cpMv M f t) = hR M := by simp only [cpMv, hR_sI, hR_sIs]
theorem hK_cpMv (M : hp) (f t : Nat) : hK (cpMv M f t) = hK M := by simp only [cpMv, hK_sI, hK_sIs]
theorem HallS_of {M M' : hp} {h : Nat} (H : HallS M h) (e : hK M' = hK M) (e2 : hR M' = hR M) : HallS M' h := by
  unfold HallS at *
  rw [e, e2]
  exact H
/-- a hall as another one is -/
def cpH (M : hp) (f t : Nat) : hp := sRs (cpI M f t) (t + 5) 0 6 (hR M (f + 5))
theorem laws_loop {f t : Nat} (H : HallS M t) (H2 : HallS M f) (ha : apart f t) (he : ∀ i, i < 6 → hR M (f + 5) i = 0 ∨ (hK M (hR M (f + 5) i)).1 = 7) : Wp none d 1 93 [(0, .ref t), (1, .ref f), (2, .int (nI 0))] [] M Q = Q none (sRs M (t + 5) 0 6 (hR M (f + 5))) := by
  unfold apart at ha
  have h64 := H.1
  have h642 := H2.1
  have k5 := H.2.2.2.2.2.2.2.2.2.2.2
  have k52 := H2.2.2.2.2.2.2.2.2.2.2.2
  have key := for_0 (W := fun i => Wp none d 1 93 [(0, .ref t), (1, .ref f), (2, .int (nI i))] [] (sRs M (t + 5) 0 i (hR M (f + 5))) Q) (n := 6) (fun i hi => by
    have hi2 : i < 2147483648 := by omega
    have e := sRs_1 M (t + 5) 0 i (hR M (f + 5))
    rw [Nat.zero_add] at e
    rw [← e]
    have w : hR (sRs M (t + 5) 0 i (hR M (f + 5))) (f + 5) i = hR M (f + 5) i := hR_sRs_a (by omega)
    have w1 : hR (sRs M (t + 5) 0 i (hR M (f + 5))) t 4 = t + 5 := by rw [hR_sRs_a (by omega)]; exact H.2.2.2.2.2.2.1
    have w2 : hR (sRs M (t + 5) 0 i (hR M (f + 5))) f 4 = f + 5 := by rw [hR_sRs_a (by omega)]; exact H2.2.2.2.2.2.2.1
    have k1 : hK (sRs M (t + 5) 0 i (hR M (f + 5))) = hK M := rfl
    generalize hM : sRs M (t + 5) 0 i (hR M (f + 5)) = M1 at *
    have c1 : ¬ nI 6 ≤ nI i := by rw [n_le (by omega) hi2]; omega
    have v1 : vin (nI i) 6 = true := by rw [vin_n hi2]; exact decide_eq_true hi
    simp only [k1_93 (x2 := nI i), k1, H.2.1, H2.2.1, w1, w2, k5, k52, k1_99, k1_102, k1_108, k1_111, nI_def, c1, if_false, v1, n_cl hi2, w, show ¬ f + 5 = 1 by omega, show ¬ t + 5 = 1 by omega, oN, oM, oZ, eq_self, true_or, or_true, not_false_eq_true, not_true_eq_false, Nat.add_eq_zero_iff, and_false, false_and, and_self, Nat.reduceEqDiff, Nat.reduceLT, Nat.reduceLeDiff, Nat.reduceAdd]
    have he' := he i hi
    by_cases z : hR M (f + 5) i = 0
    · rw [z]
      show Wp none d 1 122 [(0, .ref t), (1, .ref f), (2, .int (nI i))] [.null, .int (nI i), .ref (t + 5)] M1 Q = _
      rw [k1_122n (by rw [k1, k5]; exact Or.inl rfl) (by rw [k1, k5]; exact v1), k1_123, n_cl hi2, nI_1]
    · rw [krv_ne z, k1_122r (by rw [k1, k5]; exact Or.inl ⟨rfl, (he').resolve_left z⟩) (by rw [k1, k5]; exact v1), k1_123, n_cl hi2, nI_1]) 6 0 (by omega)
  rw [show M = sRs M (t + 5) 0 0 (hR M (f + 5)) from (sRs_0 _ _ _ _).symm]
  refine (show _ = _ from key).trans ?_
  rw [sRs_0]
  have w1 : hR (sRs M (t + 5) 0 6 (hR M (f + 5))) t 4 = t + 5 := by rw [hR_sRs_a (by omega)]; exact H.2.2.2.2.2.2.1
  have k1 : hK (sRs M (t + 5) 0 6 (hR M (f + 5))) = hK M := rfl
  have c1 : nI 6 ≤ nI 6 := by decide
  simp only [k1_93, k1, H.2.1, w1, k5, k1_99, nI_def, c1, if_true, k1_129, show ¬ t + 5 = 1 by omega, oN, oM, oZ, eq_self, true_or, or_true, not_false_eq_true, not_true_eq_false, Nat.add_eq_zero_iff, and_false, false_and, and_self, Nat.reduceEqDiff, Nat.reduceLT, Nat.reduceLeDiff, Nat.reduceAdd]
theorem Hall_copy {f t : Nat} (H : HallS M t) (H2 : HallS M f) (ha : apart f t) (he : ∀ i, i < 6 → hR M (f + 5) i = 0 ∨ (hK M (hR M (f + 5) i)).1 = 7) : Wp none d 1 0 [(0, .ref t), (1, .ref f)] [] M Q = Q none (cpH M f t) := by
  have hx := ha
  unfold apart at ha
  have h64 := H.1
  have h642 := H2.1
  have kD := H.2.2.2.2.2.2.2.1
  have kT := H.2.2.2.2.2.2.2.2.1
  have kD2 := H2.2.2.2.2.2.2.2.1
  have kT2 := H2.2.2.2.2.2.2.2.2.1
  have ft : ¬ f = t := by omega
  have e1 : hI (sIs M (t + 1) 0 7 (hI M (f + 1))) (f + 2) = hI M (f + 2) := by funext k; exact hI_sIs_a (by omega)
  simp only [k1_0, k1_8, k1_11, k1_19, k1_22, k1_24, H.2.1, H2.2.1, H.2.2.1, H2.2.2.1, H.2.2.2.1, H2.2.2.2.1, hK_sIs, hR_sIs, T_cc7, kD, kT, kD2, kT2, show ¬ f + 1 = t + 1 by omega, show ¬ f + 2 = t + 2 by omega, show ¬ f + 1 = 1 by omega, show ¬ t + 1 = 1 by omega, show ¬ f + 2 = 1 by omega, show ¬ t + 2 = 1 by omega, e1, oN, oM, oZ, eq_self, true_or, or_true, not_false_eq_true, not_true_eq_false, Nat.add_eq_zero_iff, and_false, false_and, and_self, Nat.reduceEqDiff, Nat.reduceLT, Nat.reduceLeDiff, Nat.reduceAdd]
  rw [Hall_copyMoving (M := sIs (sIs M (t + 1) 0 7 (hI M (f + 1))) (t + 2) 0 7 (hI M (f + 2))) H H2 hx]
  have e : cpI M f t = cpF (cpMv (sIs (sIs M (t + 1) 0 7 (hI M (f + 1))) (t + 2) 0 7 (hI M (f + 2))) f t) f t := rfl
  have eR : hR (cpMv (sIs (sIs M (t + 1) 0 7 (hI M (f + 1))) (t + 2) 0 7 (hI M (f + 2))) f t) = hR M := by rw [hR_cpMv]; rfl
  have eK : hK (cpMv (sIs (sIs M (t + 1) 0 7 (hI M (f + 1))) (t + 2) 0 7 (hI M (f + 2))) f t) = hK M := by rw [hK_cpMv]; rfl
  generalize cpMv (sIs (sIs M (t + 1) 0 7 (hI M (f + 1))) (t + 2) 0 7 (hI M (f + 2))) f t = M1 at *
  have H3 : HallS M1 t := HallS_of H eK eR
  have H4 : HallS M1 f := HallS_of H2 eK eR
  simp only [oZ, k1_27 H4.2.1 H3.2.1]
  have st : ∀ (k : Nat) (v : Int32) (M : hp) (j : Nat), hI (sI M t k v) f j = hI M f j := fun k v M j => hI_sI_a ft
  simp only [k1_35, k1_43, k1_51, k1_59, k1_67, k1_75, k1_83, k1_91, hK_sI, H3.2.1, H4.2.1, st, oN, oM, oZ, eq_self, true_or, or_true, not_false_eq_true, not_true_eq_false, Nat.add_eq_zero_iff, and_false, false_and, and_self, Nat.reduceEqDiff, Nat.reduceLT, Nat.reduceLeDiff, Nat.reduceAdd]
  have e2 : hR (cpF M1 f t) (f + 5) = hR M (f + 5) := by rw [hR_cpF, eR]
  show Wp none d 1 93 [(0, .ref t), (1, .ref f), (2, .int (nI 0))] [] (cpF M1 f t) Q = _
  rw [laws_loop (M := cpF M1 f t) (HallS_of H3 (hK_cpF _ _ _) (hR_cpF _ _ _)) (HallS_of H4 (hK_cpF _ _ _) (hR_cpF _ _ _)) hx (by rw [hK_cpF, hR_cpF, eK, eR]; exact he), e2, ← e]
  rfl
theorem Hall_addHat {h n : Nat} {a b c : Int32} (H : HallS M h) (hn : hI M h 8 = nI n) (h7 : n < 7) : Wp none d 5 0 [(0, .ref h), (1, .int a), (2, .int b), (3, .int c)] [] M Q = Q none (sI (sI (sI (sI (sI M (h + 1) n a) (h + 2) n b) (h + 3) n (-1)) (h + 4) n c) h 8 (nI (n + 1))) := by
  have st1 : ∀ (k : Nat) (v : Int32) (M : hp) (j : Nat), hI (sI M (h + 1) k v) h j = hI M h j := fun k v M j => hI_sI_a (by omega)
  have st2 : ∀ (k : Nat) (v : Int32) (M : hp) (j : Nat), hI (sI M (h + 2) k v) h j = hI M h j := fun k v M j => hI_sI_a (by omega)
  have st3 : ∀ (k : Nat) (v : Int32) (M : hp) (j : Nat), hI (sI M (h + 3) k v) h j = hI M h j := fun k v M j => hI_sI_a (by omega)
  have st4 : ∀ (k : Nat) (v : Int32) (M : hp) (j : Nat), hI (sI M (h + 4) k v) h j = hI M h j := fun k v M j => hI_sI_a (by omega)
  simp only [k5_0, k5_9, k5_12, k5_21, k5_24, k5_33, k5_36, k5_45, k5_48, hK_sI, hR_sI, H.2.1, H.2.2.1, H.2.2.2.1, H.2.2.2.2.1, H.2.2.2.2.2.1, H.2.2.2.2.2.2.1, st1, st2, st3, st4, hn, oN, oM, oZ, eq_self, true_or, or_true, not_false_eq_true, not_true_eq_false, Nat.add_eq_zero_iff, and_false, false_and, and_self, Nat.reduceEqDiff, Nat.reduceLT, Nat.reduceLeDiff, Nat.reduceAdd]
  rw [put_D H h7]
  simp only [oZ, k5_12, hK_sI, hR_sI, H.2.1, H.2.2.1, H.2.2.2.1, H.2.2.2.2.1, H.2.2.2.2.2.1, H.2.2.2.2.2.2.1, st1, st2, st3, st4, hn, k5_21, oN, oM, oZ, eq_self, true_or, or_true, not_false_eq_true, not_true_eq_false, Nat.add_eq_zero_iff, and_false, false_and, and_self, Nat.reduceEqDiff, Nat.reduceLT, Nat.reduceLeDiff, Nat.reduceAdd]
  rw [put_T (M := sI M (h + 1) n a) H h7]
  simp only [oZ, k5_24, hK_sI, hR_sI, H.2.1, H.2.2.1, H.2.2.2.1, H.2.2.2.2.1, H.2.2.2.2.2.1, H.2.2.2.2.2.2.1, st1, st2, st3, st4, hn, k5_33, oN, oM, oZ, eq_self, true_or, or_true, not_false_eq_true, not_true_eq_false, Nat.add_eq_zero_iff, and_false, false_and, and_self, Nat.reduceEqDiff, Nat.reduceLT, Nat.reduceLeDiff, Nat.reduceAdd]
  rw [put_P (M := sI (sI M (h + 1) n a) (h + 2) n b) H h7]
  simp only [oZ, k5_36, hK_sI, hR_sI, H.2.1, H.2.2.1, H.2.2.2.1, H.2.2.2.2.1, H.2.2.2.2.2.1, H.2.2.2.2.2.2.1, st1, st2, st3, st4, hn, k5_45, oN, oM, oZ, eq_self, true_or, or_true, not_false_eq_true, not_true_eq_false, Nat.add_eq_zero_iff, and_false, false_and, and_self, Nat.reduceEqDiff, Nat.reduceLT, Nat.reduceLeDiff, Nat.reduceAdd]
  rw [put_W (M := sI (sI (sI M (h + 1) n a) (h + 2) n b) (h + 3) n (-1)) H h7]
  simp only [oZ, k5_48, hK_sI, hR_sI, H.2.1, H.2.2.1, H.2.2.2.1, H.2.2.2.2.1, H.2.2.2.2.2.1, H.2.2.2.2.2.2.1, st1, st2, st3, st4, hn, nI_1, oN, oM, oZ, eq_self, true_or, or_true, not_false_eq_true, not_true_eq_false, Nat.add_eq_zero_iff, and_false, false_and, and_self, Nat.reduceEqDiff, Nat.reduceLT, Nat.reduceLeDiff, Nat.reduceAdd]
  rw [if_neg (show ¬ (7 : Int32) < nI (n + 1) by show ¬ nI 7 < nI (n + 1); rw [n_lt (by omega) (by omega)]; omega)]
theorem Hall_addLaw {h k t : Nat} (H : HallS M h) (hn : hI M h 9 = nI k) (h6 : k < 6) (ht : (hK M t).1 = 7) : Wp none d 6 0 [(0, .ref h), (1, .ref t)] [] M Q = Q none (sI (sR M (h + 5) k t) h 9 (nI (k + 1))) := by
  have h64 := H.1
  have k5 := H.2.2.2.2.2.2.2.2.2.2.2
  have hi2 : k < 2147483648 := by omega
  have c1 : ¬ nI 6 ≤ nI k := by rw [n_le (by omega) hi2]; omega
  have c2 : ¬ nI k < 0 := nI_pos hi2
  have v1 : vin (nI k) 6 = true := by rw [vin_n hi2]; exact decide_eq_true h6
  simp only [k6_0, k6_4, k6_7, k6_16, k6_19, H.2.1, H.2.2.1, H.2.2.2.1, H.2.2.2.2.1, H.2.2.2.2.2.1, H.2.2.2.2.2.2.1, hn, c2, if_false, k5, nI_def, c1, show ¬ h + 5 = 1 by omega, oN, oM, oZ, eq_self, true_or, or_true, not_false_eq_true, not_true_eq_false, Nat.add_eq_zero_iff, and_false, false_and, and_self, Nat.reduceEqDiff, Nat.reduceLT, Nat.reduceLeDiff, Nat.reduceAdd]
  rw [k6_28 (by rw [k5]; exact Or.inl ⟨rfl, ht⟩) (by rw [k5]; exact v1), k6_29 (M := sR M (h + 5) (nI k).toNatClampNeg t) H.2.1, k6_39, n_cl hi2, hI_sR, hn, nI_1]
