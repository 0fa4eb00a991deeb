variable {d : Nat} {M : hp} {Q : Option Value → hp → Prop}
theorem Text_cell {t c r lc lr i w : Nat} (HT : TextS M t c r lc lr) (hi : 8 * i + w < lr) : Wp none d 85 0 [(0, .ref t), (1, .int (nI i)), (2, .int (nI w))] [] M Q = Q (some (.int (hI M r (8 * i + w)))) M := by
  have h64 : 64 ≤ r := HT.2.2.2.2.2.2.1
  have hl : lr ≤ 96 := HT.2.2.2.2.2.2.2.2
  have e : nI i * 8 + nI w = nI (8 * i + w) := by
    rw [n_mull, nI_add, Nat.mul_comm]
  have b : 8 * i + w < 2147483648 := by omega
  have c1 : ¬ nI (8 * i + w) < 0 := nI_pos b
  have c2 : ¬ nI lr ≤ nI (8 * i + w) := by rw [n_le (by omega) b]; omega
  have v1 : vin (nI (8 * i + w)) lr = true := by rw [vin_n b]; exact decide_eq_true hi
  have hne : ¬ r = 0 := by omega
  have hn1 : ¬ r = 1 := by omega
  simp only [k85_0, k85_8, k85_11, k85_17, k85_20, k85_30, e, c1, if_false, HT.1, HT.2.2.1, HT.2.2.2.2.1, nI_def, c2, v1, n_cl b, hne, hn1, oN, oM, oZ, eq_self, true_or, or_true, not_false_eq_true, not_true_eq_false, Nat.add_eq_zero_iff, and_false, false_and, and_self, Nat.reduceEqDiff, Nat.reduceLT, Nat.reduceLeDiff, Nat.reduceAdd]
theorem cell_lt {i w lr : Nat} (h : 8 * i + w < lr) : True := trivial
/-- a clause's stretch of code -/
theorem Machine_run {m t tc tr lc lr i w f g len : Nat} {C : Nat → Int32} {E : Int32 → Int32} (HM : MachS M m) (HT : TextS M t tc tr lc lr) (hC : ∀ i, gI M tc lc (nI i) = C i) (hE : ∀ x, gI M (m + 2) 18 x = E x) (d1 : ¬ tc = m) (d2 : ¬ tc = m + 1) (d3 : ¬ tr = m) (d4 : ¬ t = m) (hi : 8 * i + w + 1 < lr) (hf : hI M tr (8 * i + w) = nI f) (hg : hI M tr (8 * i + w + 1) = nI g) (hl : hI M t 2 = nI len) (hfg : f ≤ g) (hgl : g ≤ len) (hlen : len ≤ 400)
    (hQ : ∀ M', agr [m, m + 1] M M' → hI M' m 3 = hI M m 3 → hI M' m 4 = hI M m 4 → (hI M' m 2 = if crun C E (g - f) f (nI f) 0 1 (hL M (m + 1)) = none then 1 else 0) → Q (some (.long ((crun C E (g - f) f (nI f) 0 1 (hL M (m + 1))).getD 0))) M') : Wp none d 31 0 [(0, .ref m), (1, .ref t), (2, .int (nI i)), (3, .int (nI w))] [] M Q := by
  have hm := HM.2.1
  have e1 : nI w + 1 = nI (w + 1) := nI_1 w
  have c0 : (if hI M t 2 < nI g then hI M t 2 else nI g) = nI g := by
    rw [hl, if_neg (by rw [n_lt (by omega) (by omega)]; omega)]
  have HT1 : TextS (sI M m 2 0) t tc tr lc lr := HT
  rw [k31_0, e1, k31_5 HT.1, Text_cell HT (show 8 * i + (w + 1) < lr by omega), show 8 * i + (w + 1) = 8 * i + w + 1 by omega, hg]
  simp only [oN]
  rw [k31_8 HT.1 hm, c0, k31_25, k31_31 (M := sI M m 2 0) HT.1, Text_cell HT1 (show 8 * i + w < lr by omega), hI_sI_a d3, hf]
  simp only [oN]
  rw [k31_34, if_neg (nI_pos (by omega))]
  exact run_loop (M0 := M) HM HT hC hE d1 d2 (show g ≤ 400 by omega) hQ (g - f) f (nI f) 0 1 (hL M (m + 1)) (sI M m 2 0) (by omega) (by omega) (agr_sI (by simp)) (hI_sI_k (by decide)) (hI_sI_k (by decide)) (hI_sI_s _ _ _ _) (fun j => rfl) rfl
/-! the words of a law -/
def lwF (j : Nat) (D T W : Nat → Int32) (oth ko th hour rain : Int32) : Nat → Int32
  | 0 => nI j
  | 1 => D j
  | 2 => T j
  | 3 => mny (W j)
  | 4 => oth
  | 5 => ko
  | 6 => th
  | 7 => hour
  | 8 => rain
  | _ + 9 => 0
theorem put_18 {a : Nat} (hk : hK M a = (20, 18)) (ha : ¬ a = 1) {i : Nat} (hi : i < 18) {v : Int32} : Wp none d 147 0 [(0, .ref a), (1, .int (nI i)), (2, .int v)] [] M Q = Q none (sI M a i v) := by
  rw [T_put hk ha (by omega), pI_n hi (by omega)]
def sW (M : hp) (a : Nat) (f : Nat → Int32) : Nat → hp
  | 0 => M
  | k + 1 => sI (sW M a f k) a k (f k)
theorem sW_is (M : hp) (a : Nat) (f : Nat → Int32) : ∀ k, sW M a f k = sIs M a 0 k f
  | 0 => (sIs_0 M a 0 f).symm
  | k + 1 => by
    have e := sIs_1 M a 0 k f
    rw [Nat.zero_add] at e
    show sI (sW M a f k) a k (f k) = _
    rw [sW_is M a f k, e]
theorem setLawWords_ok {m h j : Nat} {oth ko th : Int32} (HM : MachS M m) (H : HallS M h) (hj : j < 7) (hs : sm (hI M (h + 4) j)) (ho : (oth = -1 ∧ ko = -1) ∨ ∃ o, o < 7 ∧ oth = nI o ∧ ko = hI M (h + 1) o) (ha : m + 2 < h ∨ h + 5 < m) : Wp none d 29 0 [(0, .ref m), (1, .ref h), (2, .int (nI j)), (3, .int oth), (4, .int th)] [] M Q = Q none (sIs M (m + 2) 0 9 (lwF j (hI M (h + 1)) (hI M (h + 2)) (hI M (h + 4)) oth ko th (hI M h 5) (hI M h 7))) := by
  have h64 := H.1
  have m64 := HM.1
  have kW : hK M (m + 2) = (20, 18) := HM.2.2.2.2.2
  have st : ∀ (b k : Nat) (v : Int32) (M : hp) (i : Nat), ¬ b = m + 2 → hI (sI M (m + 2) k v) b i = hI M b i := fun b k v M i q => hI_sI_a q
  have s0 : ∀ (k : Nat) (v : Int32) (M : hp) (i : Nat), hI (sI M (m + 2) k v) h i = hI M h i := fun k v M i => st _ k v M i (by omega)
  have s1 : ∀ (k : Nat) (v : Int32) (M : hp) (i : Nat), hI (sI M (m + 2) k v) (h + 1) i = hI M (h + 1) i := fun k v M i => st _ k v M i (by omega)
  have s2 : ∀ (k : Nat) (v : Int32) (M : hp) (i : Nat), hI (sI M (m + 2) k v) (h + 2) i = hI M (h + 2) i := fun k v M i => st _ k v M i (by omega)
  have s4 : ∀ (k : Nat) (v : Int32) (M : hp) (i : Nat), hI (sI M (m + 2) k v) (h + 4) i = hI M (h + 4) i := fun k v M i => st _ k v M i (by omega)
  have p : ∀ (M1 : hp) (i : Nat) (v : Int32) (Q : Option Value → hp → Prop), hK M1 (m + 2) = (20, 18) → i < 18 → Wp none d 147 0 [(0, .ref (m + 2)), (1, .int (nI i)), (2, .int v)] [] M1 Q = Q none (sI M1 (m + 2) i v) := fun M1 i v Q k q => put_18 k (by omega) q
  have l : ∀ n : Nat, (OfNat.ofNat n : Int32) = nI n := fun n => rfl
  have p0 : ∀ (M1 : hp) (v : Int32) (Q : Option Value → hp → Prop), hK M1 (m + 2) = (20, 18) → Wp none d 147 0 [(0, .ref (m + 2)), (1, .int 0), (2, .int v)] [] M1 Q = Q none (sI M1 (m + 2) 0 v) := fun M1 v Q k => p M1 0 v Q k (by omega)
  have p1 : ∀ (M1 : hp) (v : Int32) (Q : Option Value → hp → Prop), hK M1 (m + 2) = (20, 18) → Wp none d 147 0 [(0, .ref (m + 2)), (1, .int 1), (2, .int v)] [] M1 Q = Q none (sI M1 (m + 2) 1 v) := fun M1 v Q k => p M1 1 v Q k (by omega)
  have p2 : ∀ (M1 : hp) (v : Int32) (Q : Option Value → hp → Prop), hK M1 (m + 2) = (20, 18) → Wp none d 147 0 [(0, .ref (m + 2)), (1, .int 2), (2, .int v)] [] M1 Q = Q none (sI M1 (m + 2) 2 v) := fun M1 v Q k => p M1 2 v Q k (by omega)
  have p3 : ∀ (M1 : hp) (v : Int32) (Q : Option Value → hp → Prop), hK M1 (m + 2) = (20, 18) → Wp none d 147 0 [(0, .ref (m + 2)), (1, .int 3), (2, .int v)] [] M1 Q = Q none (sI M1 (m + 2) 3 v) := fun M1 v Q k => p M1 3 v Q k (by omega)
  have p4 : ∀ (M1 : hp) (v : Int32) (Q : Option Value → hp → Prop), hK M1 (m + 2) = (20, 18) → Wp none d 147 0 [(0, .ref (m + 2)), (1, .int 4), (2, .int v)] [] M1 Q = Q none (sI M1 (m + 2) 4 v) := fun M1 v Q k => p M1 4 v Q k (by omega)
  have p5 : ∀ (M1 : hp) (v : Int32) (Q : Option Value → hp → Prop), hK M1 (m + 2) = (20, 18) → Wp none d 147 0 [(0, .ref (m + 2)), (1, .int 5), (2, .int v)] [] M1 Q = Q none (sI M1 (m + 2) 5 v) := fun M1 v Q k => p M1 5 v Q k (by omega)
  have p6 : ∀ (M1 : hp) (v : Int32) (Q : Option Value → hp → Prop), hK M1 (m + 2) = (20, 18) → Wp none d 147 0 [(0, .ref (m + 2)), (1, .int 6), (2, .int v)] [] M1 Q = Q none (sI M1 (m + 2) 6 v) := fun M1 v Q k => p M1 6 v Q k (by omega)
  have p7 : ∀ (M1 : hp) (v : Int32) (Q : Option Value → hp → Prop), hK M1 (m + 2) = (20, 18) → Wp none d 147 0 [(0, .ref (m + 2)), (1, .int 7), (2, .int v)] [] M1 Q = Q none (sI M1 (m + 2) 7 v) := fun M1 v Q k => p M1 7 v Q k (by omega)
  have p8 : ∀ (M1 : hp) (v : Int32) (Q : Option Value → hp → Prop), hK M1 (m + 2) = (20, 18) → Wp none d 147 0 [(0, .ref (m + 2)), (1, .int 8), (2, .int v)] [] M1 Q = Q none (sI M1 (m + 2) 8 v) := fun M1 v Q k => p M1 8 v Q k (by omega)
  have aD : ∀ (M1 : hp) (i : Nat) (Q : Option Value → hp → Prop), hK M1 (h + 1) = (20, 7) → i < 7 → Wp none d 145 0 [(0, .ref (h + 1)), (1, .int (nI i))] [] M1 Q = Q (some (.int (hI M1 (h + 1) i))) M1 := fun M1 i Q k q => at_7 k (by omega) q
  have aT : ∀ (M1 : hp) (i : Nat) (Q : Option Value → hp → Prop), hK M1 (h + 2) = (20, 7) → i < 7 → Wp none d 145 0 [(0, .ref (h + 2)), (1, .int (nI i))] [] M1 Q = Q (some (.int (hI M1 (h + 2) i))) M1 := fun M1 i Q k q => at_7 k (by omega) q
  have aW : ∀ (M1 : hp) (i : Nat) (Q : Option Value → hp → Prop), hK M1 (h + 4) = (20, 7) → i < 7 → Wp none d 145 0 [(0, .ref (h + 4)), (1, .int (nI i))] [] M1 Q = Q (some (.int (hI M1 (h + 4) i))) M1 := fun M1 i Q k q => at_7 k (by omega) q
  have kD := H.2.2.2.2.2.2.2.1
  have kT := H.2.2.2.2.2.2.2.2.1
  have kW2 := H.2.2.2.2.2.2.2.2.2.2.1
  rw [← sW_is]
  rcases ho with ⟨o1, o2⟩ | ⟨o, o7, o1, o2⟩
  · subst o1; subst o2
    simp only [k29_0, k29_6, k29_9, k29_19, k29_22, k29_25, k29_35, k29_38, k29_41, k29_51, k29_54, k29_57, k29_60, k29_66, k29_69, k29_76, k29_79, k29_83, k29_88, k29_91, k29_94, k29_102, k29_105, k29_115, k29_118, k29_128, k29_131, HM.2.1, HM.2.2.2.1, H.2.1, H.2.2.1, H.2.2.2.1, H.2.2.2.2.1, H.2.2.2.2.2.1, H.2.2.2.2.2.2.1, hK_sI, hR_sI, kW, kD, kT, kW2, p0, p1, p2, p3, p4, p5, p6, p7, p8, aD, aT, aW, hj, s0, s1, s2, s4, bitCount_ok hs, if_false, oN, oM, oZ, eq_self, true_or, or_true, not_false_eq_true, not_true_eq_false, Nat.add_eq_zero_iff, and_false, false_and, and_self, Nat.reduceEqDiff, Nat.reduceLT, Nat.reduceLeDiff, Nat.reduceAdd]
    rfl
  · subst o1; subst o2
    have c : (nI o = -1) = False := n_m1 (by omega)
    simp only [k29_0, k29_6, k29_9, k29_19, k29_22, k29_25, k29_35, k29_38, k29_41, k29_51, k29_54, k29_57, k29_60, k29_66, k29_69, k29_76, k29_79, k29_83, k29_88, k29_91, k29_94, k29_102, k29_105, k29_115, k29_118, k29_128, k29_131, HM.2.1, HM.2.2.2.1, H.2.1, H.2.2.1, H.2.2.2.1, H.2.2.2.2.1, H.2.2.2.2.2.1, H.2.2.2.2.2.2.1, hK_sI, hR_sI, kW, kD, kT, kW2, p0, p1, p2, p3, p4, p5, p6, p7, p8, aD, aT, aW, hj, o7, c, s0, s1, s2, s4, bitCount_ok hs, if_true, oN, oM, oZ, eq_self, true_or, or_true, not_false_eq_true, not_true_eq_false, Nat.add_eq_zero_iff, and_false, false_and, and_self, Nat.reduceEqDiff, Nat.reduceLT, Nat.reduceLeDiff, Nat.reduceAdd]
    rfl
