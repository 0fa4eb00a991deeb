variable {d : Nat} {M : hp} {Q : Option Value → hp → Prop}
theorem n_addm1 (x : Int32) : x + (-1) = x - 1 := (Int32.sub_eq_add_neg x 1).symm
def gdn (n : Nat) (P : Nat → Int32) : Nat → Int32 → Int32
  | 0, s => s
  | p + 1, s => if hatF n P (nI p) = -1 then s else gdn n P p (s ||| ((1 : Int32) <<< (hatF n P (nI p) &&& 31)))
def gup (n : Nat) (P : Nat → Int32) : Nat → Nat → Int32 → Int32
  | 0, _, s => s
  | k + 1, p, s => if hatF n P (nI p) = -1 then s else gup n P k (p + 1) (s ||| ((1 : Int32) <<< (hatF n P (nI p) &&& 31)))
theorem gup_loop {h n : Nat} {x : Int32} (H : HallS M h) (N : HallN M h n) : ∀ (k p : Nat) (s : Int32), p + k = 10 → Wp none d 24 65 [(0, .ref h), (1, .int x), (2, .int s), (3, .int (nI p))] [] M Q = Q (some (.int (gup n (hI M (h + 3)) k p s))) M := by
  intro k
  induction k with
  | zero =>
    intro p s e
    have : p = 10 := by omega
    subst this
    simp only [k24_65, k24_68, show (10 : Int32) ≤ nI 10 by decide, if_true, k24_96]
    rfl
  | succ k ih =>
    intro p s e
    have c : ¬ (10 : Int32) ≤ nI p := by
      show ¬ nI 10 ≤ nI p
      rw [n_le (by omega) (by omega)]
      omega
    simp only [k24_65 (x3 := nI p), k24_68, c, if_false, k24_71, k24_73 H.2.1, Hall_hatOn H N, k24_76, k24_77, k24_80, k24_84 H.2.1, k24_87, k24_96, nI_1, oN, oM, ih (p + 1) _ (by omega)]
    show _ = Q (some (.int (if hatF n (hI M (h + 3)) (nI p) = -1 then s else _))) M
    by_cases c : hatF n (hI M (h + 3)) (nI p) = -1
    · rw [if_pos c, if_pos c]
    · rw [if_neg c, if_neg c]
theorem gdn_loop {h n j : Nat} (H : HallS M h) (N : HallN M h n) (hj : j < 7) : ∀ (p : Nat) (s : Int32), p ≤ 10 → Wp none d 24 25 [(0, .ref h), (1, .int (nI j)), (2, .int s), (3, .int (nI p - 1))] [] M Q = Wp none d 24 65 [(0, .ref h), (1, .int (nI j)), (2, .int (gdn n (hI M (h + 3)) p s)), (3, .int (hI M (h + 3) j + 1))] [] M Q := by
  have ex : ∀ (s y : Int32), Wp none d 24 54 [(0, .ref h), (1, .int (nI j)), (2, .int s), (3, .int y)] [] M Q = Wp none d 24 65 [(0, .ref h), (1, .int (nI j)), (2, .int s), (3, .int (hI M (h + 3) j + 1))] [] M Q := by
    intro s y
    simp only [k24_54, k24_59, k24_62, H.2.1, H.2.2.1, H.2.2.2.1, H.2.2.2.2.1, H.2.2.2.2.2.1, H.2.2.2.2.2.2.1, at_P H hj, oN, oM, oZ, eq_self, true_or, or_true, not_false_eq_true, not_true_eq_false, Nat.add_eq_zero_iff, and_false, false_and, and_self, Nat.reduceEqDiff, Nat.reduceLT, Nat.reduceLeDiff, Nat.reduceAdd]
  intro p
  induction p with
  | zero =>
    intro s e
    have c : nI 0 - 1 < 0 := by decide
    simp only [k24_25, k24_26, c, if_true, ex]
    rfl
  | succ p ih =>
    intro s e
    have c : ¬ nI p < 0 := nI_pos (by omega)
    rw [nI_pred]
    simp only [k24_25 (x3 := nI p), k24_26, c, if_false, k24_29, k24_31 H.2.1, Hall_hatOn H N, k24_34, k24_35, k24_38, k24_42 H.2.1, k24_45, ex, n_addm1, oN, oM, ih _ (show p ≤ 10 by omega)]
    show _ = Wp none d 24 65 [(0, .ref h), (1, .int (nI j)), (2, .int (if hatF n (hI M (h + 3)) (nI p) = -1 then s else _)), (3, .int (hI M (h + 3) j + 1))] [] M Q
    by_cases c : hatF n (hI M (h + 3)) (nI p) = -1
    · rw [if_pos c, if_pos c]
    · rw [if_neg c, if_neg c]
def grpF (n : Nat) (P : Nat → Int32) (j p : Nat) : Int32 := gup n P (9 - p) (p + 1) (gdn n P p ((1 : Int32) <<< (nI j &&& 31)))
theorem Hall_groupOf_n {h n j : Nat} (H : HallS M h) (N : HallN M h n) (hj : j < n) (hp : hI M (h + 3) j = -1) : Wp none d 24 0 [(0, .ref h), (1, .int (nI j))] [] M Q = Q (some (.int 0)) M := by
  have h7 := N.2
  simp only [k24_0, k24_2 H.2.1, Hall_isHung H N (show j < 7 by omega), hp, bz_eq0, k24_5, k24_8, not_true_eq_false, and_false, not_false_eq_true, if_false, oN]
theorem Hall_groupOf {h n j p : Nat} (H : HallS M h) (N : HallN M h n) (hj : j < n) (hp : hI M (h + 3) j = nI p) (hp10 : p < 10) : Wp none d 24 0 [(0, .ref h), (1, .int (nI j))] [] M Q = Q (some (.int (grpF n (hI M (h + 3)) j p))) M := by
  have h7 := N.2
  have c : ¬ nI p = -1 := by rw [n_m1 (by omega)]; exact id
  have w := gdn_loop (d := d) (Q := Q) H N (show j < 7 by omega) p ((1 : Int32) <<< (nI j &&& 31)) (by omega)
  simp only [k24_0, k24_2 H.2.1, Hall_isHung H N (show j < 7 by omega), hp, bz_eq0, k24_5, c, hj, not_true_eq_false, not_false_eq_true, and_self, if_true, oN, k24_10 H.2.1 (show ¬ hR M h 2 = 0 by rw [H.2.2.2.2.1]; omega), H.2.2.2.2.1, k24_19, at_P H (show j < 7 by omega), k24_22, w, nI_1]
  exact gup_loop H N (9 - p) (p + 1) _ (by omega)
def grpCnt (n : Nat) (P : Nat → Int32) : Int32 := fo (fun p s => if ¬ hatF n P (nI p) = -1 ∧ hatF n P (nI p - 1) = -1 then s + 1 else s) 0 10 0
theorem Hall_groupCount {h n : Nat} (H : HallS M h) (N : HallN M h n) : Wp none d 23 0 [(0, .ref h)] [] M Q = Q (some (.int (grpCnt n (hI M (h + 3))))) M := by
  have key := for_up (W := fun i a => Wp none d 23 4 [(0, .ref h), (1, .int a), (2, .int (nI i))] [] M Q) (f := fun p s => if ¬ hatF n (hI M (h + 3)) (nI p) = -1 ∧ hatF n (hI M (h + 3)) (nI p - 1) = -1 then s + 1 else s) (n := 10) (fun i a hi => by
    have c : ¬ (10 : Int32) ≤ nI i := by
      show ¬ nI 10 ≤ nI i
      rw [n_le (by omega) (by omega)]
      omega
    simp only [k23_4 (x2 := nI i), k23_7, c, if_false, k23_10, k23_12 H.2.1, Hall_hatOn H N, k23_15, k23_16, k23_19, k23_23 H.2.1, k23_26, k23_27, k23_30, k23_33, nI_1, oN]
    by_cases c1 : hatF n (hI M (h + 3)) (nI i) = -1
    · simp only [c1, not_true_eq_false, if_true, if_false, false_and]
    · by_cases c2 : hatF n (hI M (h + 3)) (nI i - 1) = -1
      · simp only [c1, c2, not_true_eq_false, not_false_eq_true, if_true, if_false, and_self]
      · simp only [c1, c2, not_true_eq_false, not_false_eq_true, if_true, if_false, and_false]) 10 0 0 (by omega)
  rw [k23_0]
  refine (show _ = _ from key).trans ?_
  simp only [k23_4, k23_7, show (10 : Int32) ≤ nI 10 by decide, if_true, k23_39]
  rfl
/-! the tape -/
def TapeS (M : hp) (t : Nat) : Prop := 64 ≤ t ∧ (hK M t).1 = 6 ∧ hR M t 0 = t + 1 ∧ hK M (t + 1) = (20, 400)
/-- four bytes of a number -/
def byF (v : Int32) (k : Nat) : Int32 := (v >>> (nI (24 - 8 * k) &&& 31)) &&& 255
theorem Tape_add {t n : Nat} {v : Int32} (H : TapeS M t) (hn : hI M t 1 = nI n) (h4 : n + 4 ≤ 400) : Wp none d 82 0 [(0, .ref t), (1, .int v)] [] M Q = Q none (sI (sIs M (t + 1) n 4 (byF v)) t 1 (nI (n + 4))) := by
  have h64 := H.1
  have step : ∀ (M : hp) (k s : Nat), TapeS M t → hI M t 1 = nI k → k < 400 → s ≤ 24 → Wp none d 82 3 [(0, .ref t), (1, .int v), (2, .int (nI s))] [] M Q = Wp none d 82 3 [(0, .ref t), (1, .int v), (2, .int (nI s - 8))] [] (sI (sI M (t + 1) k ((v >>> (nI s &&& 31)) &&& 255)) t 1 (nI (k + 1))) Q := by
    intro M k s H hk hk4 hs
    have c : ¬ nI s < 0 := nI_pos (by omega)
    have c2 : ¬ (400 : Int32) < nI (k + 1) := by
      show ¬ nI 400 < nI (k + 1)
      rw [n_lt (by omega) (by omega)]
      omega
    have e1 : ∀ M : hp, nI s + (-8) = nI s - 8 := fun _ => (Int32.sub_eq_add_neg (nI s) 8).symm
    simp only [k82_3 (x2 := nI s), k82_4, c, if_false, k82_7 H.2.1 (show ¬ hR M t 0 = 0 by rw [H.2.2.1]; omega), H.2.2.1, k82_22, hk]
    rw [T_put H.2.2.2 (by omega) (by omega), pI_n hk4 (by omega)]
    simp only [oZ]
    rw [k82_25 (M := sI M (t + 1) k _) H.2.1, k82_41, hI_sI_a (by omega), hk, nI_1, if_neg c2, e1 M]
  have H1 : ∀ (M : hp) (a k : Nat) (w : Int32) (b l : Nat) (z : Int32), TapeS M t → TapeS (sI (sI M a k w) b l z) t := fun _ _ _ _ _ _ _ h => h
  rw [k82_0]
  show Wp none d 82 3 [(0, .ref t), (1, .int v), (2, .int (nI 24))] [] M Q = _
  rw [step M n 24 H hn (by omega) (by omega)]
  rw [show nI 24 - 8 = nI 16 by decide, step _ (n + 1) 16 (H1 _ _ _ _ _ _ _ H) (hI_sI_s _ _ _ _) (by omega) (by omega)]
  rw [show nI 16 - 8 = nI 8 by decide, step _ (n + 2) 8 (H1 _ _ _ _ _ _ _ (H1 _ _ _ _ _ _ _ H)) (hI_sI_s _ _ _ _) (by omega) (by omega)]
  rw [show nI 8 - 8 = nI 0 by decide, step _ (n + 3) 0 (H1 _ _ _ _ _ _ _ (H1 _ _ _ _ _ _ _ (H1 _ _ _ _ _ _ _ H))) (hI_sI_s _ _ _ _) (by omega) (by omega)]
  rw [k82_3, k82_4, if_pos (show nI 0 - 8 < 0 by decide), k82_47]
  congr 1
  simp only [sI_w, sIs_w, wI_wI, hI_wI]
  apply wI_ext
  intro a k
  by_cases ha : a = t
  · subst ha
    by_cases hk : k = 1
    · subst hk; simp
    · have z : ¬ a = a + 1 := by omega
      simp only [hk, z, and_false, false_and, if_false]
  · by_cases hb : a = t + 1
    · subst hb
      simp only [ha, false_and, if_false, true_and]
      by_cases q0 : k = n + 3
      · subst q0
        rw [if_pos rfl, if_pos (by omega), show n + 3 - n = 3 by omega]; rfl
      · by_cases q1 : k = n + 2
        · subst q1
          rw [if_neg (by omega), if_pos rfl, if_pos (by omega), show n + 2 - n = 2 by omega]; rfl
        · by_cases q2 : k = n + 1
          · subst q2
            rw [if_neg (by omega), if_neg (by omega), if_pos rfl, if_pos (by omega), show n + 1 - n = 1 by omega]; rfl
          · by_cases q3 : k = n
            · subst q3
              rw [if_neg (by omega), if_neg (by omega), if_neg (by omega), if_pos rfl, if_pos (by omega), show k - k = 0 by omega]; rfl
            · rw [if_neg q0, if_neg q1, if_neg q2, if_neg q3, if_neg (by omega)]
    · simp only [ha, hb, false_and, if_false]
