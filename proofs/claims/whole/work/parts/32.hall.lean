variable {d : Nat} {M : hp} {Q : Option Value → hp → Prop}
/-! loops -/
def fo {α : Type} (f : Nat → α → α) : Nat → Nat → α → α
  | _, 0, a => a
  | i, k + 1, a => fo f (i + 1) k (f i a)
theorem for_up {α : Type} {W : Nat → α → Prop} {f : Nat → α → α} {n : Nat} (h : ∀ i a, i < n → W i a = W (i + 1) (f i a)) : ∀ k i a, i + k = n → W i a = W n (fo f i k a)
  | 0, i, a, e => by
    have : i = n := by omega
    subst this
    rfl
  | k + 1, i, a, e => by
    rw [h i a (by omega), for_up h k (i + 1) (f i a) (by omega)]
    rfl
theorem for_0 {W : Nat → Prop} {n : Nat} (h : ∀ i, i < n → W i = W (i + 1)) : ∀ k i, i + k = n → W i = W n
  | 0, i, e => by
    have : i = n := by omega
    subst this
    rfl
  | k + 1, i, e => by rw [h i (by omega), for_0 h k (i + 1) (by omega)]
theorem fo_cong {α : Type} {f g : Nat → α → α} : ∀ (k i : Nat) (a : α), (∀ j a, i ≤ j → j < i + k → f j a = g j a) → fo f i k a = fo g i k a
  | 0, _, _, _ => rfl
  | k + 1, i, a, h => by
    show fo f (i + 1) k (f i a) = fo g (i + 1) k (g i a)
    rw [h i a (Nat.le_refl i) (by omega), fo_cong k (i + 1) (g i a) (fun j a q w => h j a (by omega) (by omega))]
theorem fo_end {α : Type} {f : Nat → α → α} : ∀ (k i : Nat) (a : α), fo f i (k + 1) a = f (i + k) (fo f i k a)
  | 0, _, _ => rfl
  | k + 1, i, a => by
    show fo f (i + 1) (k + 1) (f i a) = _
    rw [fo_end k (i + 1) (f i a), show i + 1 + k = i + (k + 1) by omega]
    rfl
/-- an answer that is the next state's stack -/
theorem oN (v : Value) : (some v).toList ++ [] = [v] := rfl
theorem oM (v : Value) (r : List Value) : (some v).toList ++ r = v :: r := rfl
theorem oZ (r : List Value) : (none : Option Value).toList ++ r = r := rfl
def bz (p : Prop) [Decidable p] : Int32 := if p then 1 else 0
theorem bz_or (p : Prop) [Decidable p] : bz p = 0 ∨ bz p = 1 := by
  unfold bz
  split
  · exact Or.inr rfl
  · exact Or.inl rfl
theorem bz_eq0 (p : Prop) [Decidable p] : (bz p = 0) = ¬ p := by
  unfold bz
  by_cases h : p
  · rw [if_pos h]; simp [h]
  · rw [if_neg h]; simp [h]
theorem bz_eq1 (p : Prop) [Decidable p] : (bz p = 1) = p := by
  unfold bz
  by_cases h : p
  · rw [if_pos h]; simp [h]
  · rw [if_neg h]; simp [h]
/-! a hall at h: its rows stand behind it -/
def HallS (M : hp) (h : Nat) : Prop := 64 ≤ h ∧ (hK M h).1 = 0 ∧ hR M h 0 = h + 1 ∧ hR M h 1 = h + 2 ∧ hR M h 2 = h + 3 ∧ hR M h 3 = h + 4 ∧ hR M h 4 = h + 5 ∧ hK M (h + 1) = (20, 7) ∧ hK M (h + 2) = (20, 7) ∧ hK M (h + 3) = (20, 7) ∧ hK M (h + 4) = (20, 7) ∧ hK M (h + 5) = (23, 6)
def HallN (M : hp) (h n : Nat) : Prop := hI M h 8 = nI n ∧ n ≤ 7
theorem at_7 {a : Nat} (hk : hK M a = (20, 7)) (ha : ¬ a = 1) {i : Nat} (hi : i < 7) : Wp none d 145 0 [(0, .ref a), (1, .int (nI i))] [] M Q = Q (some (.int (hI M a i))) M := by
  rw [T_at hk ha (by omega), gI_n hi (by omega)]
theorem put_7 {a : Nat} (hk : hK M a = (20, 7)) (ha : ¬ a = 1) {i : Nat} (hi : i < 7) {v : Int32} : Wp none d 147 0 [(0, .ref a), (1, .int (nI i)), (2, .int v)] [] M Q = Q none (sI M a i v) := by
  rw [T_put hk ha (by omega), pI_n hi (by omega)]
theorem Hall_hasHat {h n : Nat} {i : Int32} (H : HallS M h) (N : HallN M h n) : Wp none d 7 0 [(0, .ref h), (1, .int i)] [] M Q = Q (some (.int (bz (¬ i < 0 ∧ ¬ nI n ≤ i)))) M := by
  simp only [k7_0, k7_1, k7_4, k7_9, k7_12, k7_16, k7_17, H.2.1, N.1, oN, oM, oZ, eq_self, true_or, or_true, not_false_eq_true, not_true_eq_false, Nat.add_eq_zero_iff, and_false, false_and, and_self, Nat.reduceEqDiff, Nat.reduceLT, Nat.reduceLeDiff, Nat.reduceAdd]
  unfold bz
  by_cases h1 : i < 0
  · rw [if_pos h1, if_neg (fun q => q.1 h1)]
  · by_cases h2 : nI n ≤ i
    · rw [if_neg h1, if_pos h2, if_neg (fun q => q.2 h2)]
    · rw [if_neg h1, if_neg h2, if_pos ⟨h1, h2⟩]
theorem hasHat_n {h n i : Nat} (H : HallS M h) (N : HallN M h n) (hi : i < 2147483648) : Wp none d 7 0 [(0, .ref h), (1, .int (nI i))] [] M Q = Q (some (.int (bz (i < n)))) M := by
  have := N.2
  rw [Hall_hasHat H N]
  have e : (¬ nI i < 0 ∧ ¬ nI n ≤ nI i) ↔ i < n := by
    rw [n_le (by omega) hi]
    constructor
    · intro q; omega
    · intro q; exact ⟨nI_pos hi, by omega⟩
  unfold bz
  by_cases q : i < n
  · rw [if_pos q, if_pos (e.mpr q)]
  · rw [if_neg q, if_neg (fun w => q (e.mp w))]
theorem Hall_isHung {h n i : Nat} (H : HallS M h) (N : HallN M h n) (hi : i < 7) : Wp none d 13 0 [(0, .ref h), (1, .int (nI i))] [] M Q = Q (some (.int (bz (i < n ∧ ¬ hI M (h + 3) i = -1)))) M := by
  have hi2 : i < 2147483648 := by omega
  simp only [k13_0, k13_2, k13_5, k13_8, k13_13, k13_16, k13_17, k13_20, k13_24, k13_25, H.2.1, hasHat_n H N hi2, H.2.2.2.2.1, at_7 H.2.2.2.2.2.2.2.2.2.1 (by have := H.1; omega) hi, bz_eq0, oN, oM, oZ, eq_self, true_or, or_true, not_false_eq_true, not_true_eq_false, Nat.add_eq_zero_iff, and_false, false_and, and_self, Nat.reduceEqDiff, Nat.reduceLT, Nat.reduceLeDiff, Nat.reduceAdd]
  unfold bz
  by_cases h1 : i < n
  · by_cases h2 : hI M (h + 3) i = -1
    · simp [h1, h2]
    · simp [h1, h2]
  · simp [h1]
/-- the first hat on a peg, -1: none -/
def fst1 (P : Nat → Int32) (p : Int32) : Nat → Nat → Int32
  | _, 0 => -1
  | i, k + 1 => if P i = p then nI i else fst1 P p (i + 1) k
def hatF (n : Nat) (P : Nat → Int32) (p : Int32) : Int32 := if p < 0 then -1 else fst1 P p 0 n
theorem hatOn_loop {h n : Nat} {p : Int32} (H : HallS M h) (N : HallN M h n) (hp : ¬ p < 0) : ∀ k i, i + k = n → Wp none d 12 2 [(0, .ref h), (1, .int p), (2, .int (nI i))] [] M Q = Q (some (.int (fst1 (hI M (h + 3)) p i k))) M := by
  have h7 := N.2
  have hn : n < 2147483648 := by omega
  have h1 : ¬ h + 3 = 1 := by have := H.1; omega
  intro k
  induction k with
  | zero =>
    intro i e
    have hi : i = n := by omega
    subst hi
    simp only [k12_2 H.2.1, N.1, k12_7, n_le hn hn, Nat.le_refl, if_true, k12_34]
    rfl
  | succ k ih =>
    intro i e
    have hi : i < n := by omega
    have hi2 : i < 2147483648 := by omega
    simp only [k12_2 (x2 := nI i) H.2.1, N.1, k12_7, n_le hn hi2, show ¬ n ≤ i by omega, if_false, k12_10, k12_11, hp, k12_14 H.2.1 (show ¬ hR M h 2 = 0 by rw [H.2.2.2.2.1]; omega), H.2.2.2.2.1, k12_19, at_7 H.2.2.2.2.2.2.2.2.2.1 h1 (show i < 7 by omega), oN, k12_22, k12_23, k12_28, k12_26, nI_1, ih (i + 1) (by omega)]
    show _ = Q (some (.int (if hI M (h + 3) i = p then nI i else fst1 (hI M (h + 3)) p (i + 1) k))) M
    by_cases c : hI M (h + 3) i = p
    · rw [if_neg (fun q => q c), if_pos c]
    · rw [if_pos c, if_neg c]
theorem Hall_hatOn {h n : Nat} {p : Int32} (H : HallS M h) (N : HallN M h n) : Wp none d 12 0 [(0, .ref h), (1, .int p)] [] M Q = Q (some (.int (hatF n (hI M (h + 3)) p))) M := by
  have h7 := N.2
  have hn : n < 2147483648 := by omega
  unfold hatF
  by_cases hp : p < 0
  · have z : (0 : Int32) = nI 0 := rfl
    rw [k12_0, if_pos hp]
    rw [k12_2 H.2.1, k12_7]
    split
    · rw [k12_34]
    · rw [k12_10, k12_11, if_pos hp, k12_34]
  · rw [k12_0, if_neg hp]
    exact hatOn_loop H N hp n 0 (by omega)
/-- the ones of the low eight bits -/
def mny (x : Int32) : Int32 := fo (fun k s => s + ((x >>> (nI k &&& 31)) &&& 1)) 0 8 0
def sm (x : Int32) : Prop := ∃ v, v < 256 ∧ x = nI v
def bcE (x0 : Int32) : Int32 :=
  let x1 := x0 - (((x0.toUInt32 >>> ((1 : Int32).toUInt32 &&& Int32.toUInt32 31)).toInt32) &&& 1431655765)
  let x2 := (x1 &&& 858993459) + (((x1.toUInt32 >>> ((2 : Int32).toUInt32 &&& Int32.toUInt32 31)).toInt32) &&& 858993459)
  let x3 := (x2 + ((x2.toUInt32 >>> ((4 : Int32).toUInt32 &&& Int32.toUInt32 31)).toInt32)) &&& 252645135
  let x4 := x3 + ((x3.toUInt32 >>> ((8 : Int32).toUInt32 &&& Int32.toUInt32 31)).toInt32)
  let x5 := x4 + ((x4.toUInt32 >>> ((16 : Int32).toUInt32 &&& Int32.toUInt32 31)).toInt32)
  x5 &&& 63
theorem bcE_mny : ∀ v, v < 256 → bcE (nI v) = mny (nI v) := by decide +kernel
theorem bitCount_ok {x : Int32} (hx : sm x) : Wp none d 271 0 [(0, .int x)] [] M Q = Q (some (.int (mny x))) M := by
  obtain ⟨v, hv, e⟩ := hx
  subst e
  rw [← bcE_mny v hv, k271_0, k271_10, k271_24, k271_34, k271_41, k271_48]
  rfl
theorem mny_sm : ∀ v, v < 256 → ∃ j, j ≤ 8 ∧ mny (nI v) = nI j := by decide +kernel
theorem sm_or {x y : Int32} (hx : sm x) (hy : sm y) : sm (x ||| y) := by
  obtain ⟨v, hv, e⟩ := hx
  obtain ⟨w, hw, e2⟩ := hy
  subst e; subst e2
  exact ⟨v ||| w, Nat.or_lt_two_pow (n := 8) hv hw, fa_or v w⟩
theorem sm_and {x : Int32} (y : Int32) (hx : sm x) : sm (x &&& y) := by
  obtain ⟨v, hv, e⟩ := hx
  subst e
  have : y = nI (y.toBitVec.toNat) := by
    apply Int32.toBitVec_inj.1
    show _ = BitVec.ofNat 32 _
    rw [BitVec.ofNat_toNat, BitVec.setWidth_eq]
  rw [this, fa_and]
  exact ⟨_, Nat.lt_of_le_of_lt Nat.and_le_left hv, rfl⟩
theorem sm_0 : sm 0 := ⟨0, by omega, rfl⟩
theorem sm_bit : ∀ t, t < 8 → sm ((1 : Int32) <<< (nI t &&& 31)) := fun t ht => ⟨2 ^ t, Nat.pow_lt_pow_right (by omega) ht, (by decide +kernel : ∀ t, t < 8 → (1 : Int32) <<< (nI t &&& 31) = nI (2 ^ t)) t ht⟩
/-- the set of hats on a peg -/
def hungF (P : Nat → Int32) (n : Nat) : Int32 := fo (fun i x => if P i = -1 then x else x ||| ((1 : Int32) <<< (nI i &&& 31))) 0 n 0
theorem fo_inv {α : Type} {f : Nat → α → α} (R : α → Prop) : ∀ (k i : Nat) (a : α), R a → (∀ j a, i ≤ j → j < i + k → R a → R (f j a)) → R (fo f i k a)
  | 0, _, _, h, _ => h
  | k + 1, i, a, h, hs => fo_inv R k (i + 1) (f i a) (hs i a (Nat.le_refl i) (by omega) h) (fun j a q w => hs j a (by omega) (by omega))
theorem hungF_sm (P : Nat → Int32) (n : Nat) (hn : n ≤ 7) : sm (hungF P n) := by
  apply fo_inv sm
  · exact sm_0
  · intro j a _ hj ha
    split
    · exact ha
    · exact sm_or ha (sm_bit j (by omega))
theorem Hall_hungSet {h n : Nat} (H : HallS M h) (N : HallN M h n) : Wp none d 15 0 [(0, .ref h)] [] M Q = Q (some (.int (hungF (hI M (h + 3)) n))) M := by
  have h7 := N.2
  have hn : n < 2147483648 := by omega
  have key := for_up (W := fun i a => Wp none d 15 4 [(0, .ref h), (1, .int a), (2, .int (nI i))] [] M Q) (f := fun i x => if hI M (h + 3) i = -1 then x else x ||| ((1 : Int32) <<< (nI i &&& 31))) (n := n) (fun i a hi => by
    have hi2 : i < 2147483648 := by omega
    simp only [k15_4 (x2 := nI i) H.2.1, N.1, k15_9, n_le hn hi2, show ¬ n ≤ i by omega, if_false, k15_12, k15_14 H.2.1, Hall_isHung H N (show i < 7 by omega), oN, k15_17, bz_eq0, hi, true_and, Classical.not_not, k15_20, k15_26, nI_1]
    split <;> rfl) n 0 0 (by omega)
  rw [k15_0]
  refine (show _ = _ from key).trans ?_
  simp only [k15_4 H.2.1, N.1, k15_9, n_le hn hn, Nat.le_refl, if_true, k15_32]
  rfl
theorem Hall_hungCount {h n : Nat} (H : HallS M h) (N : HallN M h n) : Wp none d 14 0 [(0, .ref h)] [] M Q = Q (some (.int (mny (hungF (hI M (h + 3)) n)))) M := by
  simp only [k14_0, k14_1 H.2.1, Hall_hungSet H N, oN, k14_4, bitCount_ok (hungF_sm _ n N.2), k14_7]
theorem takeAll_loop {h n : Nat} {s : Int32} (H : HallS M h) (N : HallN M h n) : Wp none d 16 0 [(0, .ref h), (1, .int s)] [] M Q = Q none (sIs M (h + 3) 0 n (fun i => if (s >>> (nI i &&& 31)) &&& 1 = 1 then -1 else hI M (h + 3) i)) := by
  have h7 := N.2
  have hn : n < 2147483648 := by omega
  have h1 : ¬ h + 3 = 1 := by have := H.1; omega
  have key := for_0 (W := fun i => Wp none d 16 2 [(0, .ref h), (1, .int s), (2, .int (nI i))] [] (sIs M (h + 3) 0 i (fun i => if (s >>> (nI i &&& 31)) &&& 1 = 1 then -1 else hI M (h + 3) i)) Q) (n := n) (fun i hi => by
    have hi2 : i < 2147483648 := by omega
    have e := sIs_1 M (h + 3) 0 i (fun i => if (s >>> (nI i &&& 31)) &&& 1 = 1 then -1 else hI M (h + 3) i)
    rw [Nat.zero_add] at e
    have H1 : HallS (sIs M (h + 3) 0 i (fun i => if (s >>> (nI i &&& 31)) &&& 1 = 1 then -1 else hI M (h + 3) i)) h := H
    have N1 : hI (sIs M (h + 3) 0 i (fun i => if (s >>> (nI i &&& 31)) &&& 1 = 1 then -1 else hI M (h + 3) i)) h 8 = nI n := by
      rw [hI_sIs_a (by omega)]; exact N.1
    rw [← e]
    generalize hM : sIs M (h + 3) 0 i (fun i => if (s >>> (nI i &&& 31)) &&& 1 = 1 then -1 else hI M (h + 3) i) = M1 at *
    simp only [k16_2 (x2 := nI i) H1.2.1, N1, k16_7, n_le hn hi2, show ¬ n ≤ i by omega, if_false, k16_10, k16_16, k16_19 H1.2.1 (show ¬ hR M1 h 2 = 0 by rw [H1.2.2.2.2.1]; omega), H1.2.2.2.2.1, k16_25, put_7 H1.2.2.2.2.2.2.2.2.2.1 h1 (show i < 7 by omega), oZ, k16_28, nI_1]
    by_cases c : (s >>> (nI i &&& 31)) &&& 1 = 1
    · simp only [c, not_true_eq_false, if_true, if_false]
    · simp only [c, not_false_eq_true, if_true, if_false]
      have : sI M1 (h + 3) i (hI M (h + 3) i) = M1 := by
        have w : hI M1 (h + 3) i = hI M (h + 3) i := by
          rw [← hM, hI_sIs, if_neg (by omega)]
        rw [← w]
        exact sI_id M1 (h + 3) i
      rw [this]) n 0 (by omega)
  rw [k16_0]
  rw [show M = sIs M (h + 3) 0 0 (fun i => if (s >>> (nI i &&& 31)) &&& 1 = 1 then -1 else hI M (h + 3) i) from (sIs_0 _ _ _ _).symm]
  refine (show _ = _ from key).trans ?_
  have H1 : HallS (sIs M (h + 3) 0 n (fun i => if (s >>> (nI i &&& 31)) &&& 1 = 1 then -1 else hI M (h + 3) i)) h := H
  have N1 : hI (sIs M (h + 3) 0 n (fun i => if (s >>> (nI i &&& 31)) &&& 1 = 1 then -1 else hI M (h + 3) i)) h 8 = nI n := by
    rw [hI_sIs_a (by omega)]; exact N.1
  simp only [k16_2 H1.2.1, N1, k16_7, n_le hn hn, Nat.le_refl, if_true, k16_34]
  rw [sIs_0]
theorem at_T {h i : Nat} (H : HallS M h) (hi : i < 7) : Wp none d 145 0 [(0, .ref (h + 2)), (1, .int (nI i))] [] M Q = Q (some (.int (hI M (h + 2) i))) M := at_7 H.2.2.2.2.2.2.2.2.1 (by have := H.1; omega) hi
theorem at_D {h i : Nat} (H : HallS M h) (hi : i < 7) : Wp none d 145 0 [(0, .ref (h + 1)), (1, .int (nI i))] [] M Q = Q (some (.int (hI M (h + 1) i))) M := at_7 H.2.2.2.2.2.2.2.1 (by have := H.1; omega) hi
theorem at_P {h i : Nat} (H : HallS M h) (hi : i < 7) : Wp none d 145 0 [(0, .ref (h + 3)), (1, .int (nI i))] [] M Q = Q (some (.int (hI M (h + 3) i))) M := at_7 H.2.2.2.2.2.2.2.2.2.1 (by have := H.1; omega) hi
theorem at_W {h i : Nat} (H : HallS M h) (hi : i < 7) : Wp none d 145 0 [(0, .ref (h + 4)), (1, .int (nI i))] [] M Q = Q (some (.int (hI M (h + 4) i))) M := at_7 H.2.2.2.2.2.2.2.2.2.2.1 (by have := H.1; omega) hi
theorem put_D {h i : Nat} {v : Int32} (H : HallS M h) (hi : i < 7) : Wp none d 147 0 [(0, .ref (h + 1)), (1, .int (nI i)), (2, .int v)] [] M Q = Q none (sI M (h + 1) i v) := put_7 H.2.2.2.2.2.2.2.1 (by have := H.1; omega) hi
theorem put_T {h i : Nat} {v : Int32} (H : HallS M h) (hi : i < 7) : Wp none d 147 0 [(0, .ref (h + 2)), (1, .int (nI i)), (2, .int v)] [] M Q = Q none (sI M (h + 2) i v) := put_7 H.2.2.2.2.2.2.2.2.1 (by have := H.1; omega) hi
theorem put_P {h i : Nat} {v : Int32} (H : HallS M h) (hi : i < 7) : Wp none d 147 0 [(0, .ref (h + 3)), (1, .int (nI i)), (2, .int v)] [] M Q = Q none (sI M (h + 3) i v) := put_7 H.2.2.2.2.2.2.2.2.2.1 (by have := H.1; omega) hi
theorem put_W {h i : Nat} {v : Int32} (H : HallS M h) (hi : i < 7) : Wp none d 147 0 [(0, .ref (h + 4)), (1, .int (nI i)), (2, .int v)] [] M Q = Q none (sI M (h + 4) i v) := put_7 H.2.2.2.2.2.2.2.2.2.2.1 (by have := H.1; omega) hi
theorem Hall_besideCount {h n j : Nat} (H : HallS M h) (N : HallN M h n) (hj : j < 7) : Wp none d 17 0 [(0, .ref h), (1, .int (nI j))] [] M Q = Q (some (.int ((if hatF n (hI M (h + 3)) (hI M (h + 3) j - 1) = -1 then 0 else 1) + (if hatF n (hI M (h + 3)) (hI M (h + 3) j + 1) = -1 then 0 else 1)))) M := by
  simp only [k17_0, k17_5, k17_8, k17_13, k17_16, k17_17, k17_20, k17_24, k17_25, k17_30, k17_33, k17_34, k17_37, k17_41, k17_42, H.2.1, H.2.2.1, H.2.2.2.1, H.2.2.2.2.1, H.2.2.2.2.2.1, H.2.2.2.2.2.2.1, at_P H hj, Hall_hatOn H N, oN, oM, oZ, eq_self, true_or, or_true, not_false_eq_true, not_true_eq_false, Nat.add_eq_zero_iff, and_false, false_and, and_self, Nat.reduceEqDiff, Nat.reduceLT, Nat.reduceLeDiff, Nat.reduceAdd]
  by_cases c1 : hatF n (hI M (h + 3)) (hI M (h + 3) j - 1) = -1
  · by_cases c2 : hatF n (hI M (h + 3)) (hI M (h + 3) j + 1) = -1
    · simp only [c1, c2, not_true_eq_false, if_true, if_false]
    · simp only [c1, c2, not_true_eq_false, not_false_eq_true, if_true, if_false]
  · by_cases c2 : hatF n (hI M (h + 3)) (hI M (h + 3) j + 1) = -1
    · simp only [c1, c2, not_true_eq_false, not_false_eq_true, if_true, if_false]
    · simp only [c1, c2, not_false_eq_true, if_true, if_false]
theorem Hall_knowsIt {h j : Nat} {t : Int32} (H : HallS M h) (hj : j < 7) : Wp none d 20 0 [(0, .ref h), (1, .int (nI j)), (2, .int t)] [] M Q = Q (some (.int (bz ((hI M (h + 4) j >>> (t &&& 31)) &&& 1 = 1)))) M := by
  simp only [k20_0, k20_5, k20_8, k20_13, k20_16, k20_20, k20_21, H.2.1, H.2.2.1, H.2.2.2.1, H.2.2.2.2.1, H.2.2.2.2.2.1, H.2.2.2.2.2.2.1, at_W H hj, oN, oM, oZ, eq_self, true_or, or_true, not_false_eq_true, not_true_eq_false, Nat.add_eq_zero_iff, and_false, false_and, and_self, Nat.reduceEqDiff, Nat.reduceLT, Nat.reduceLeDiff, Nat.reduceAdd]
  by_cases c : (hI M (h + 4) j >>> (t &&& 31)) &&& 1 = 1
  · simp only [bz, c, not_true_eq_false, if_true, if_false]
  · simp only [bz, c, not_false_eq_true, if_true, if_false]
theorem Hall_learn {h j : Nat} {x : Int32} (H : HallS M h) (hj : j < 7) : Wp none d 19 0 [(0, .ref h), (1, .int (nI j)), (2, .int x)] [] M Q = Q none (sI M (h + 4) j (hI M (h + 4) j ||| x)) := by
  simp only [k19_0, k19_10, k19_13, k19_15, k19_18, H.2.1, H.2.2.1, H.2.2.2.1, H.2.2.2.2.1, H.2.2.2.2.2.1, H.2.2.2.2.2.2.1, at_W H hj, put_W H hj, oN, oM, oZ, eq_self, true_or, or_true, not_false_eq_true, not_true_eq_false, Nat.add_eq_zero_iff, and_false, false_and, and_self, Nat.reduceEqDiff, Nat.reduceLT, Nat.reduceLeDiff, Nat.reduceAdd]
theorem Hall_knownByAny {h n : Nat} (H : HallS M h) (N : HallN M h n) : Wp none d 21 0 [(0, .ref h)] [] M Q = Q (some (.int (fo (fun i x => x ||| hI M (h + 4) i) 0 n 0))) M := by
  have h7 := N.2
  have hn : n < 2147483648 := by omega
  have key := for_up (W := fun i a => Wp none d 21 4 [(0, .ref h), (1, .int a), (2, .int (nI i))] [] M Q) (f := fun i x => x ||| hI M (h + 4) i) (n := n) (fun i a hi => by
    have hi2 : i < 2147483648 := by omega
    simp only [k21_4 (x2 := nI i) H.2.1, N.1, k21_9, n_le hn hi2, show ¬ n ≤ i by omega, if_false, k21_12, H.2.1, H.2.2.1, H.2.2.2.1, H.2.2.2.2.1, H.2.2.2.2.2.1, H.2.2.2.2.2.2.1, at_W H (show i < 7 by omega), k21_18, k21_21, nI_1, oN, oM, oZ, eq_self, true_or, or_true, not_false_eq_true, not_true_eq_false, Nat.add_eq_zero_iff, and_false, false_and, and_self, Nat.reduceEqDiff, Nat.reduceLT, Nat.reduceLeDiff, Nat.reduceAdd]) n 0 0 (by omega)
  rw [k21_0]
  refine (show _ = _ from key).trans ?_
  simp only [k21_4 H.2.1, N.1, k21_9, n_le hn hn, Nat.le_refl, if_true, k21_29]
theorem Hall_knowersOf {h n : Nat} {t s : Int32} (H : HallS M h) (N : HallN M h n) : Wp none d 22 0 [(0, .ref h), (1, .int t), (2, .int s)] [] M Q = Q (some (.int (fo (fun i x => if (s >>> (nI i &&& 31)) &&& 1 = 1 ∧ (hI M (h + 4) i >>> (t &&& 31)) &&& 1 = 1 then x + 1 else x) 0 n 0))) M := by
  have h7 := N.2
  have hn : n < 2147483648 := by omega
  have key := for_up (W := fun i a => Wp none d 22 5 [(0, .ref h), (1, .int t), (2, .int s), (3, .int a), (4, .int (nI i))] [] M Q) (f := fun i x => if (s >>> (nI i &&& 31)) &&& 1 = 1 ∧ (hI M (h + 4) i >>> (t &&& 31)) &&& 1 = 1 then x + 1 else x) (n := n) (fun i a hi => by
    have hi2 : i < 2147483648 := by omega
    simp only [k22_5 (x4 := nI i) H.2.1, N.1, k22_11, n_le hn hi2, show ¬ n ≤ i by omega, if_false, k22_14, k22_21, k22_24, k22_28 H.2.1, Hall_knowsIt H (show i < 7 by omega), k22_31, k22_34, k22_37, bz_eq0, nI_1, oN, oM, oZ, eq_self, true_or, or_true, not_false_eq_true, not_true_eq_false, Nat.add_eq_zero_iff, and_false, false_and, and_self, Nat.reduceEqDiff, Nat.reduceLT, Nat.reduceLeDiff, Nat.reduceAdd]
    by_cases c1 : (s >>> (nI i &&& 31)) &&& 1 = 1
    · by_cases c2 : (hI M (h + 4) i >>> (t &&& 31)) &&& 1 = 1
      · simp only [c1, c2, not_true_eq_false, if_true, if_false, and_self]
      · simp only [c1, c2, not_true_eq_false, not_false_eq_true, if_true, if_false, and_false]
    · simp only [c1, not_true_eq_false, not_false_eq_true, if_true, if_false, false_and]) n 0 0 (by omega)
  rw [k22_0]
  refine (show _ = _ from key).trans ?_
  simp only [k22_5 H.2.1, N.1, k22_11, n_le hn hn, Nat.le_refl, if_true, k22_43]
theorem Hall_canBeHeard {h j : Nat} (H : HallS M h) (hj : j < 7) : Wp none d 27 0 [(0, .ref h), (1, .int (nI j))] [] M Q = Q (some (.int (bz (hI M (h + 4) j &&& hI M h 12 = hI M h 12 ∧ hI M (h + 4) j &&& hI M h 13 = 0)))) M := by
  simp only [k27_0, k27_5, k27_8, k27_19, k27_22, k27_28, k27_31, k27_35, k27_36, H.2.1, H.2.2.1, H.2.2.2.1, H.2.2.2.2.1, H.2.2.2.2.2.1, H.2.2.2.2.2.2.1, at_W H hj, oN, oM, oZ, eq_self, true_or, or_true, not_false_eq_true, not_true_eq_false, Nat.add_eq_zero_iff, and_false, false_and, and_self, Nat.reduceEqDiff, Nat.reduceLT, Nat.reduceLeDiff, Nat.reduceAdd]
  by_cases c1 : hI M (h + 4) j &&& hI M h 12 = hI M h 12
  · by_cases c2 : hI M (h + 4) j &&& hI M h 13 = 0
    · simp only [bz, c1, c2, not_true_eq_false, if_true, if_false, and_self]
    · simp only [bz, c1, c2, not_true_eq_false, not_false_eq_true, if_true, if_false, and_false]
  · simp only [bz, c1, not_true_eq_false, not_false_eq_true, if_true, if_false, false_and]
theorem Hall_term {h : Nat} {w : Int32} (H : HallS M h) : Wp none d 3 0 [(0, .ref h), (1, .int w)] [] M Q = Q (some (.int (if w = 0 then hI M h 5 else if w = 1 then hI M h 6 else hI M h 7))) M := by
  simp only [k3_0, k3_1, k3_28, k3_33, k3_38, H.2.1, H.2.2.1, H.2.2.2.1, H.2.2.2.2.1, H.2.2.2.2.2.1, H.2.2.2.2.2.2.1, oN, oM, oZ, eq_self, true_or, or_true, not_false_eq_true, not_true_eq_false, Nat.add_eq_zero_iff, and_false, false_and, and_self, Nat.reduceEqDiff, Nat.reduceLT, Nat.reduceLeDiff, Nat.reduceAdd]
  split
  · rfl
  · split <;> rfl
theorem Hall_setTerm {h : Nat} {w v : Int32} (H : HallS M h) : Wp none d 4 0 [(0, .ref h), (1, .int w), (2, .int v)] [] M Q = Q none (if w = 0 then sI M h 5 v else if w = 1 then sI M h 6 v else sI M h 7 v) := by
  simp only [k4_0, k4_1, k4_28, k4_36, k4_44, k4_49, H.2.1, H.2.2.1, H.2.2.2.1, H.2.2.2.2.1, H.2.2.2.2.2.1, H.2.2.2.2.2.2.1, oN, oM, oZ, eq_self, true_or, or_true, not_false_eq_true, not_true_eq_false, Nat.add_eq_zero_iff, and_false, false_and, and_self, Nat.reduceEqDiff, Nat.reduceLT, Nat.reduceLeDiff, Nat.reduceAdd]
  split
  · rfl
  · split <;> rfl
theorem Hall_hear {h : Nat} {t w : Int32} (H : HallS M h) : Wp none d 25 0 [(0, .ref h), (1, .int t), (2, .int w)] [] M Q = Q none (if w = 1 then sI (sI M h 11 (hI M h 11 + 1)) h 12 (hI M h 12 ||| ((1 : Int32) <<< (t &&& 31))) else sI (sI M h 11 (hI M h 11 + 1)) h 13 (hI M h 13 ||| ((1 : Int32) <<< (t &&& 31)))) := by
  simp only [k25_0, k25_10, k25_12, k25_15, k25_30, k25_42, hK_sI, H.2.1, H.2.2.1, H.2.2.2.1, H.2.2.2.2.1, H.2.2.2.2.2.1, H.2.2.2.2.2.2.1, oN, oM, oZ, eq_self, true_or, or_true, not_false_eq_true, not_true_eq_false, Nat.add_eq_zero_iff, and_false, false_and, and_self, Nat.reduceEqDiff, Nat.reduceLT, Nat.reduceLeDiff, Nat.reduceAdd]
  split
  · rename_i c
    rw [hI_sI_k (by decide)]
  · rename_i c
    rw [hI_sI_k (by decide), if_pos (Classical.not_not.mp c)]
theorem Hall_hearNothing {h : Nat} (H : HallS M h) : Wp none d 26 0 [(0, .ref h)] [] M Q = Q none (sI (sI (sI M h 11 0) h 12 0) h 13 0) := by
  simp only [k26_0, k26_5, k26_10, hK_sI, H.2.1, H.2.2.1, H.2.2.2.1, H.2.2.2.2.1, H.2.2.2.2.2.1, H.2.2.2.2.2.2.1, oN, oM, oZ, eq_self, true_or, or_true, not_false_eq_true, not_true_eq_false, Nat.add_eq_zero_iff, and_false, false_and, and_self, Nat.reduceEqDiff, Nat.reduceLT, Nat.reduceLeDiff, Nat.reduceAdd]
theorem Hall_canDo {h n j : Nat} {k p : Int32} (H : HallS M h) (N : HallN M h n) (hj : j < n) : Wp none d 18 0 [(0, .ref h), (1, .int k), (2, .int (nI j)), (3, .int p)] [] M Q = Q (some (.int (bz (if k = 0 then hI M (h + 3) j = -1 ∧ hatF n (hI M (h + 3)) p = -1 else if k = 1 then ¬ hI M (h + 3) j = -1 else ¬ (hI M (h + 4) j >>> (p &&& 31)) &&& 1 = 1)))) M := by
  have h7 := N.2
  simp only [k18_0, k18_1, k18_28, k18_30, k18_33, k18_36, k18_38, k18_41, k18_42, k18_45, k18_49, k18_50, k18_51, k18_53, k18_56, k18_57, k18_60, k18_63, k18_66, k18_70, k18_71, H.2.1, H.2.2.1, H.2.2.2.1, H.2.2.2.2.1, H.2.2.2.2.2.1, H.2.2.2.2.2.2.1, Hall_isHung H N (show j < 7 by omega), Hall_knowsIt H (show j < 7 by omega), Hall_hatOn H N, bz_eq0, hj, true_and, Classical.not_not, bz_or, oN, oM, oZ, eq_self, true_or, or_true, not_false_eq_true, not_true_eq_false, Nat.add_eq_zero_iff, and_false, false_and, and_self, Nat.reduceEqDiff, Nat.reduceLT, Nat.reduceLeDiff, Nat.reduceAdd]
  by_cases c1 : k = 0
  · simp only [c1, if_true]
    by_cases c2 : hI M (h + 3) j = -1
    · by_cases c3 : hatF n (hI M (h + 3)) p = -1
      · simp only [bz, c2, c3, not_true_eq_false, if_true, if_false, and_self]
      · simp only [bz, c2, c3, not_true_eq_false, not_false_eq_true, if_true, if_false, and_false]
    · simp only [bz, c2, not_true_eq_false, not_false_eq_true, if_true, if_false, false_and]
  · by_cases c2 : k = 1
    · simp only [c2, if_true, show ¬ (1 : Int32) = 0 by decide, if_false]
      rw [k18_56 (bz_or _)]
    · simp only [c1, c2, if_false]
      by_cases c3 : (hI M (h + 4) j >>> (p &&& 31)) &&& 1 = 1
      · simp only [bz, c3, not_true_eq_false, if_true, if_false]
      · simp only [bz, c3, not_true_eq_false, not_false_eq_true, if_true, if_false]
theorem Hall_hasLaw {h : Nat} {i : Int32} (H : HallS M h) : Wp none d 9 0 [(0, .ref h), (1, .int i)] [] M Q = Q (some (.int (bz (¬ i < -1 ∧ ¬ hI M h 9 ≤ i)))) M := by
  simp only [k9_0, k9_2, k9_5, k9_10, k9_13, k9_17, k9_18, H.2.1, H.2.2.1, H.2.2.2.1, H.2.2.2.2.1, H.2.2.2.2.2.1, H.2.2.2.2.2.2.1, oN, oM, oZ, eq_self, true_or, or_true, not_false_eq_true, not_true_eq_false, Nat.add_eq_zero_iff, and_false, false_and, and_self, Nat.reduceEqDiff, Nat.reduceLT, Nat.reduceLeDiff, Nat.reduceAdd]
  by_cases c1 : i < -1
  · simp only [bz, c1, not_true_eq_false, if_true, if_false, false_and]
  · by_cases c2 : hI M h 9 ≤ i
    · simp only [bz, c1, c2, not_true_eq_false, not_false_eq_true, if_true, if_false, and_false]
    · simp only [bz, c1, c2, not_true_eq_false, not_false_eq_true, if_true, if_false, and_self]
theorem Hall_lawAt_n {h : Nat} {i : Int32} (H : HallS M h) (hi : i < 0) : Wp none d 10 0 [(0, .ref h), (1, .int i)] [] M Q = Q (some .null) M := by
  simp only [k10_0, k10_1, k10_4, k10_10, k10_13, k10_19n, k10_19r, k10_22, k10_23n, k10_23r, H.2.1, H.2.2.1, H.2.2.2.1, H.2.2.2.2.1, H.2.2.2.2.2.1, H.2.2.2.2.2.2.1, hi, if_true, oN, oM, oZ, eq_self, true_or, or_true, not_false_eq_true, not_true_eq_false, Nat.add_eq_zero_iff, and_false, false_and, and_self, Nat.reduceEqDiff, Nat.reduceLT, Nat.reduceLeDiff, Nat.reduceAdd]
theorem Hall_lawAt {h i t : Nat} (H : HallS M h) (hi : i < 6) (ht : hR M (h + 5) i = t) (h0 : ¬ t = 0) : Wp none d 10 0 [(0, .ref h), (1, .int (nI i))] [] M Q = Q (some (.ref t)) M := by
  have e := H.2.2.2.2.2.2.2.2.2.2.2
  have h64 := H.1
  have i31 : i < 2147483648 := by omega
  simp only [k10_0, k10_1, nI_pos i31, if_false]
  have c : ¬ nI (23, 6).2 ≤ nI i := by
    show ¬ nI 6 ≤ nI i
    rw [n_le (by omega) i31]
    omega
  rw [k10_4 H.2.1 (by rw [H.2.2.2.2.2.2.1]; omega) (by rw [H.2.2.2.2.2.2.1]; omega) (by rw [H.2.2.2.2.2.2.1, e]; omega), k10_10, H.2.2.2.2.2.2.1, e, nI_def, if_neg c, k10_13 H.2.1 (by rw [H.2.2.2.2.2.2.1]; omega) (by rw [H.2.2.2.2.2.2.1, e]; exact Or.inl rfl) (by rw [H.2.2.2.2.2.2.1, e, vin_n i31]; exact decide_eq_true hi), H.2.2.2.2.2.2.1, n_cl i31, ht, krv_ne h0, k10_19r, k10_23r]
theorem Hall_lawInForce_n {h : Nat} (H : HallS M h) (hf : hI M h 10 = -1) : Wp none d 11 0 [(0, .ref h)] [] M Q = Q (some .null) M := by
  simp only [k11_0, k11_5, k11_8n, k11_8r, H.2.1, hf, Hall_lawAt_n H (show (-1 : Int32) < 0 by decide), oN, oM, oZ, eq_self, true_or, or_true, not_false_eq_true, not_true_eq_false, Nat.add_eq_zero_iff, and_false, false_and, and_self, Nat.reduceEqDiff, Nat.reduceLT, Nat.reduceLeDiff, Nat.reduceAdd]
theorem Hall_lawInForce {h i t : Nat} (H : HallS M h) (hf : hI M h 10 = nI i) (hi : i < 6) (ht : hR M (h + 5) i = t) (h0 : ¬ t = 0) : Wp none d 11 0 [(0, .ref h)] [] M Q = Q (some (.ref t)) M := by
  simp only [k11_0, k11_5, k11_8n, k11_8r, H.2.1, hf, Hall_lawAt H hi ht h0, oN, oM, oZ, eq_self, true_or, or_true, not_false_eq_true, not_true_eq_false, Nat.add_eq_zero_iff, and_false, false_and, and_self, Nat.reduceEqDiff, Nat.reduceLT, Nat.reduceLeDiff, Nat.reduceAdd]
theorem hasTwo_n {h n i j : Nat} (H : HallS M h) (N : HallN M h n) (hi : i < 2147483648) (hj : j < 2147483648) : Wp none d 8 0 [(0, .ref h), (1, .int (nI i)), (2, .int (nI j))] [] M Q = Q (some (.int (bz (i < n ∧ j < n ∧ ¬ i = j)))) M := by
  simp only [k8_0, k8_2, k8_5, k8_8, k8_10, k8_13, k8_16, k8_18, k8_21, k8_25, k8_26, H.2.1, hasHat_n H N hi, hasHat_n H N hj, bz_eq0, n_eq hi hj, oN, oM, oZ, eq_self, true_or, or_true, not_false_eq_true, not_true_eq_false, Nat.add_eq_zero_iff, and_false, false_and, and_self, Nat.reduceEqDiff, Nat.reduceLT, Nat.reduceLeDiff, Nat.reduceAdd]
  by_cases c1 : i < n
  · by_cases c2 : j < n
    · by_cases c3 : i = j
      · simp only [bz, c1, c2, c3, not_true_eq_false, not_false_eq_true, if_true, if_false, and_false]
      · simp only [bz, c1, c2, c3, not_true_eq_false, not_false_eq_true, if_true, if_false, and_self]
    · simp only [bz, c1, c2, not_true_eq_false, not_false_eq_true, if_true, if_false, and_false, false_and]
  · simp only [bz, c1, not_true_eq_false, not_false_eq_true, if_true, if_false, false_and]
