variable {d : Nat} {M : hp} {Q : Option Value → hp → Prop}
/-! what thoughts weigh, and hats hung in a row of pegs, in the reference -/
theorem wo_loop {n h : Nat} {D T P W : Nat → Int32} {hr rn : Int32} {L : Law} {M0 : hp} (X0 : RP M0 n D T P W hr rn L) (hh : h < 7) : ∀ (k th : Nat) (s : Int32) (M : hp), th + k = 8 → EC M0 M → (∀ M', EC M0 M' → Q (some (.int (fo (fun th s => if (W h >>> (nI th &&& 31)) &&& 1 = 1 then s + ansF L 1 (lwF h D T W (-1) (-1) (nI th) hr rn) else s) th k s))) M') → Wp none d 176 4 [(0, .ref 126), (1, .int (nI h)), (2, .int s), (3, .int (nI th))] [] M Q
  | 0, th, s, M, e, b, H => by
    rw [k176_4, k176_7, show (8 : Int32) = nI 8 from rfl, if_pos (by rw [n_le (by omega) (by omega)]; omega), k176_38]
    exact H M b
  | k + 1, th, s, M, e, b, H => by
    have X := RP_EC X0 b
    rw [k176_4, k176_7, show (8 : Int32) = nI 8 from rfl, if_neg (by rw [n_le (by omega) (by omega)]; omega), k176_10, k176_14 (m_9 X.F), mKnows X hh]
    simp only [oM]
    rw [k176_17]
    by_cases c : (W h >>> (nI th &&& 31)) &&& 1 = 1
    · rw [if_neg (by rw [bz_eq0]; exact fun q => q c), k176_20, k176_23 (m_9 X.F)]
      refine mWeighs X hh (fun M1 b1 => ?_)
      simp only [oM]
      rw [k176_26, k176_30, nI_1]
      refine wo_loop X0 hh k (th + 1) _ M1 (by omega) (EC_trans b b1) (fun M' b' => ?_)
      have := H M' b'
      rw [show fo (fun th s => if (W h >>> (nI th &&& 31)) &&& 1 = 1 then s + ansF L 1 (lwF h D T W (-1) (-1) (nI th) hr rn) else s) th (k + 1) s = fo (fun th s => if (W h >>> (nI th &&& 31)) &&& 1 = 1 then s + ansF L 1 (lwF h D T W (-1) (-1) (nI th) hr rn) else s) (th + 1) k (if (W h >>> (nI th &&& 31)) &&& 1 = 1 then s + ansF L 1 (lwF h D T W (-1) (-1) (nI th) hr rn) else s) from rfl, if_pos c] at this
      exact this
    · rw [if_pos (by rw [bz_eq0]; exact c), k176_29, k176_30, nI_1, show s + 0 = s from Int32.add_zero s]
      refine wo_loop X0 hh k (th + 1) s M (by omega) b (fun M' b' => ?_)
      have := H M' b'
      rw [show fo (fun th s => if (W h >>> (nI th &&& 31)) &&& 1 = 1 then s + ansF L 1 (lwF h D T W (-1) (-1) (nI th) hr rn) else s) th (k + 1) s = fo (fun th s => if (W h >>> (nI th &&& 31)) &&& 1 = 1 then s + ansF L 1 (lwF h D T W (-1) (-1) (nI th) hr rn) else s) (th + 1) k (if (W h >>> (nI th &&& 31)) &&& 1 = 1 then s + ansF L 1 (lwF h D T W (-1) (-1) (nI th) hr rn) else s) from rfl, if_neg c] at this
      exact this
theorem mWorthOf {n h : Nat} {D T P W : Nat → Int32} {hr rn : Int32} {L : Law} (X : RP M n D T P W hr rn L) (hh : h < 7) (H : ∀ M', EC M M' → Q (some (.int (worthG L D T W hr rn h))) M') : Wp none d 176 0 [(0, .ref 126), (1, .int (nI h))] [] M Q := by
  rw [k176_0]
  exact wo_loop X hh 8 0 0 M (by omega) (EC_refl M) H
def wgG (L : Law) (n : Nat) (D T W : Nat → Int32) (hr rn : Int32) : Int32 := fo (fun j s => s + worthG L D T W hr rn j) 0 n 0
theorem wa_loop {n : Nat} {D T P W : Nat → Int32} {hr rn : Int32} {L : Law} {M0 : hp} (X0 : RP M0 n D T P W hr rn L) : ∀ (k h : Nat) (s : Int32) (M : hp), h + k = n → EC M0 M → (∀ M', EC M0 M' → Q (some (.int (fo (fun j s => s + worthG L D T W hr rn j) h k s))) M') → Wp none d 244 4 [(0, .ref 126), (1, .int s), (2, .int (nI h))] [] M Q
  | 0, h, s, M, e, b, H => by
    have X := RP_EC X0 b
    have n7 := X.n7
    rw [m244_4 X.F (by decide), show (0 : Int32).toNatClampNeg = 0 from rfl, X.n0, k244_11, if_pos (by rw [n_le (by omega) (by omega)]; omega), k244_28]
    exact H M b
  | k + 1, h, s, M, e, b, H => by
    have X := RP_EC X0 b
    have n7 := X.n7
    rw [m244_4 X.F (by decide), show (0 : Int32).toNatClampNeg = 0 from rfl, X.n0, k244_11, if_neg (by rw [n_le (by omega) (by omega)]; omega), k244_14, k244_17 (m_9 X.F)]
    refine mWorthOf X (by omega) (fun M1 b1 => ?_)
    simp only [oM]
    rw [k244_20, nI_1]
    exact wa_loop X0 k (h + 1) _ M1 (by omega) (EC_trans b b1) H
theorem mWorthAll {n : Nat} {D T P W : Nat → Int32} {hr rn : Int32} {L : Law} (X : RP M n D T P W hr rn L) (H : ∀ M', EC M M' → Q (some (.int (wgG L n D T W hr rn))) M') : Wp none d 244 0 [(0, .ref 126)] [] M Q := by
  rw [k244_0]
  exact wa_loop X n 0 0 M (by omega) (EC_refl M) H
theorem i64_i32 {x : Int64} {v : Nat} (h : x.toInt = (v : Int)) (hv : v < 2147483648) : x.toInt32 = nI v := by
  apply Int32.toInt_inj.mp
  have h1 := n_cl hv
  have h2 : (nI v).toNatClampNeg = (nI v).toInt.toNat := rfl
  have h3 := nI_pos hv
  rw [fa_lt, show (0 : Int32).toInt = 0 from rfl] at h3
  rw [Int64.toInt_toInt32, h, show (nI v).toInt = (v : Int) by omega, Int.bmod_def]
  omega
theorem ans1_le (L : Law) (e : Nat → Int32) : ∃ c, c ≤ 99 ∧ ansF L 1 e = nI c := by
  have key : ∀ o : Option Int64, ∃ c, c ≤ 99 ∧ ansV 1 o = nI c := by
    intro o
    cases o with
    | none => exact ⟨1, by omega, rfl⟩
    | some v =>
      show ∃ c, c ≤ 99 ∧ bnd 99 v = nI c
      unfold bnd
      have h99 : (99 : Int32).toInt64.toInt = 99 := by decide
      have h0 : (0 : Int64).toInt = 0 := by decide
      by_cases c1 : (99 : Int32).toInt64 < v
      · rw [if_pos c1]
        exact ⟨99, by omega, by decide⟩
      · rw [if_neg c1]
        by_cases c2 : v < 0
        · rw [if_pos c2]
          exact ⟨0, by omega, by decide⟩
        · rw [if_neg c2]
          rw [fa_lt64, h99] at c1
          rw [fa_lt64, h0] at c2
          exact ⟨v.toInt.toNat, by omega, i64_i32 (by omega) (by omega)⟩
  cases L with
  | none => exact key none
  | some y => exact key _
theorem worth_le (L : Law) (D T W : Nat → Int32) (hr rn : Int32) (h : Nat) : ∀ k, ∃ c, c ≤ 99 * k ∧ fo (fun th s => if (W h >>> (nI th &&& 31)) &&& 1 = 1 then s + ansF L 1 (lwF h D T W (-1) (-1) (nI th) hr rn) else s) 0 k 0 = nI c
  | 0 => ⟨0, by omega, rfl⟩
  | k + 1 => by
    obtain ⟨c, h1, h2⟩ := worth_le L D T W hr rn h k
    rw [fo_end, h2]
    obtain ⟨a, a1, a2⟩ := ans1_le L (lwF h D T W (-1) (-1) (nI (0 + k)) hr rn)
    by_cases q : (W h >>> (nI (0 + k) &&& 31)) &&& 1 = 1
    · rw [if_pos q, a2, nI_add]
      exact ⟨c + a, by omega, rfl⟩
    · rw [if_neg q]
      exact ⟨c, by omega, rfl⟩
theorem wg_le (L : Law) (D T W : Nat → Int32) (hr rn : Int32) : ∀ n, ∃ c, c ≤ 792 * n ∧ wgG L n D T W hr rn = nI c
  | 0 => ⟨0, by omega, rfl⟩
  | n + 1 => by
    obtain ⟨c, h1, h2⟩ := wg_le L D T W hr rn n
    unfold wgG at h2 ⊢
    obtain ⟨a, a1, a2⟩ := worth_le L D T W hr rn (0 + n) 8
    have a2 : worthG L D T W hr rn (0 + n) = nI a := a2
    rw [fo_end, h2, a2, nI_add]
    exact ⟨c + a, by omega, rfl⟩
theorem dg_1 {r c k : Nat} (hc : c ≤ 3) (hk : k < c) : (r % 10 ^ (c - k)) / 10 ^ (c - 1 - k) = dig r c k ∧ (r % 10 ^ (c - k)) % 10 ^ (c - 1 - k) = r % 10 ^ (c - (k + 1)) ∧ (k + 1 < c → 10 ^ (c - 1 - k) / 10 = 10 ^ (c - 1 - (k + 1))) ∧ 0 < 10 ^ (c - 1 - k) ∧ 10 ^ (c - 1 - k) ≤ 100 := by
  unfold dig
  have : (c = 1 ∧ k = 0) ∨ (c = 2 ∧ k = 0) ∨ (c = 2 ∧ k = 1) ∨ (c = 3 ∧ k = 0) ∨ (c = 3 ∧ k = 1) ∨ (c = 3 ∧ k = 2) := by omega
  rcases this with ⟨rfl, rfl⟩ | ⟨rfl, rfl⟩ | ⟨rfl, rfl⟩ | ⟨rfl, rfl⟩ | ⟨rfl, rfl⟩ | ⟨rfl, rfl⟩ <;> simp <;> omega
theorem n_mod' {a b : Nat} (ha : a < 2147483648) (hb : b < 2147483648) : nI a - nI a / nI b * nI b = nI (a % b) := by
  have h : a / b * b ≤ a := Nat.div_mul_le_self a b
  rw [n_div ha hb, n_mul, n_sub h]
  have := Nat.div_add_mod a b
  have e : b * (a / b) = a / b * b := Nat.mul_comm _ _
  rw [show a - a / b * b = a % b by omega]
theorem ha_loop {M0 : hp} {n c r : Nat} {a : Nat → Int32} {D T W : Nat → Int32} {hr rn : Int32} {L : Law} (hc : c ≤ 3) (ha : ∀ i, i < c → ∃ j, j < n ∧ a i = nI j) : ∀ (k i : Nat) (P : Nat → Int32) (x3 x5 : Int32) (M : hp), i + k = c → (i < c → x3 = nI (10 ^ (c - 1 - i))) → x5 = nI (r % 10 ^ (c - i)) → RP M n D T P W hr rn L → PegS P n → PpR M0 M → (∀ i, i < c → hI M 148 i = a i) → (∀ M' P', hgF n a r c k i P = some P' → RP M' n D T P' W hr rn L → PegS P' n → PpR M0 M' → hI M' 148 = hI M 148 → Q (some (.int 1)) M') → (∀ M', hgF n a r c k i P = none → MF M' → PpR M0 M' → hI M' 148 = hI M 148 → Q (some (.int 0)) M') → Wp none d 243 31 [(0, .ref 126), (1, .int (nI c)), (2, .int (nI r)), (3, .int x3), (4, .int 1), (5, .int x5), (6, .int (nI i))] [] M Q
  | 0, i, P, x3, x5, M, e, h3, h5, X, HP, pp, h148, K1, K0 => by
    rw [k243_31, k243_34, if_pos (by rw [n_le (by omega) (by omega)]; omega), k243_99 (by decide)]
    exact K1 M P rfl X HP pp rfl
  | k + 1, i, P, x3, x5, M, e, h3, h5, X, HP, pp, h148, K1, K0 => by
    have n7 := X.n7
    have hi : i < c := by omega
    obtain ⟨g1, g2, g3, g4, g5⟩ := dg_1 (r := r) hc hi
    obtain ⟨j, hj, aj⟩ := ha i hi
    have e7 : (7 : Int32) + nI j = nI (7 + j) := by rw [show (7 : Int32) = nI 7 from rfl, nI_add]
    have hpow : 10 ^ (c - i) ≤ 1000 := by
      have : c - i = 1 ∨ c - i = 2 ∨ c - i = 3 := by omega
      rcases this with z | z | z <;> rw [z] <;> decide
    have hpos : 0 < 10 ^ (c - i) := Nat.pow_pos (by omega)
    have hmod : r % 10 ^ (c - i) < 1000 := Nat.lt_of_lt_of_le (Nat.mod_lt _ hpos) hpow
    have n0 : ¬ nI (10 ^ (c - 1 - i)) = 0 := by
      show ¬ nI (10 ^ (c - 1 - i)) = nI 0
      rw [n_eq (by omega) (by omega)]
      omega
    have d10 := dig_lt r c i
    rw [h3 hi, h5, k243_31, k243_34, if_neg (by rw [n_le (by omega) (by omega)]; omega), k243_37, k243_39, if_neg (by decide), k243_42 n0, n_div (by omega) (by omega), g1, k243_51 (m_9 X.F), mOnPeg X, hat_last HP n7 d10]
    simp only [oN]
    have hcell : hI M 148 (nI i).toNatClampNeg = nI j := by rw [n_cl (by omega), h148 i hi, aj]
    have hv : vin (7 + hI M 148 (nI i).toNatClampNeg) 5447 = true := by rw [hcell, e7]; exact v54 (by omega)
    have F1 : MF (sI M 128 (7 + j) (nI (dig r c i))) := X.F
    have e148 : hI (sI M 128 (7 + j) (nI (dig r c i))) 148 = hI M 148 := by funext l; exact hI_sI_a (by decide)
    rw [k243_54, k243_55]
    unfold hgF at K1 K0
    by_cases q : hatF n P (nI (dig r c i)) = -1
    · rw [if_neg (fun z => z q), k243_58, m243_63 X.F (v7 (by omega)) hv, hcell, e7, n_cl (by omega), k243_82 n0, n_mod' (by omega) (by omega), g2, nI_1]
      rw [if_pos q, aj, n_cl (by omega)] at K1 K0
      refine ha_loop hc ha k (i + 1) (updI P j (nI (dig r c i))) _ _ _ (by omega) (fun w => ?_) rfl (RP_peg X (by omega)) (hat_free HP n7 hj d10 (Or.inl q)) (PpR_peg pp (by omega)) (fun l hl => by rw [e148]; exact h148 l hl) (fun M' P' z1 z2 z3 z4 z5 => K1 M' P' z1 z2 z3 z4 (z5.trans e148)) (fun M' z1 z2 z3 z4 => K0 M' z1 z2 z3 (z4.trans e148))
      rw [show (10 : Int32) = nI 10 from rfl, n_div (by omega) (by omega), g3 w]
    · rw [if_pos q, k243_62, m243_63 X.F (v7 (by omega)) hv, hcell, e7, n_cl (by omega), k243_82 n0, k243_31, k243_34]
      rw [if_neg q] at K0
      by_cases z : nI c ≤ nI i + 1
      · rw [if_pos z, k243_99 (by decide)]
        exact K0 _ rfl F1 (PpR_peg pp (by omega)) e148
      · rw [if_neg z, k243_37, k243_39, if_pos rfl, k243_99 (by decide)]
        exact K0 _ rfl F1 (PpR_peg pp (by omega)) e148
theorem mHangAll {M0 : hp} {n c r : Nat} {a : Nat → Int32} {D T P W : Nat → Int32} {hr rn : Int32} {L : Law} (hc : c ≤ 3) (hrc : r < 10 ^ c) (ha : ∀ i, i < c → ∃ j, j < n ∧ a i = nI j) (X : RP M n D T P W hr rn L) (HP : PegS P n) (pp : PpR M0 M) (h148 : ∀ i, i < c → hI M 148 i = a i) (K1 : ∀ M' P', hgF n a r c c 0 P = some P' → RP M' n D T P' W hr rn L → PegS P' n → PpR M0 M' → hI M' 148 = hI M 148 → Q (some (.int 1)) M') (K0 : ∀ M', hgF n a r c c 0 P = none → MF M' → PpR M0 M' → hI M' 148 = hI M 148 → Q (some (.int 0)) M') : Wp none d 243 0 [(0, .ref 126), (1, .int (nI c)), (2, .int (nI r))] [] M Q := by
  have go : ∀ x3 : Int32, (0 < c → x3 = nI (10 ^ (c - 1 - 0))) → Wp none d 243 31 [(0, .ref 126), (1, .int (nI c)), (2, .int (nI r)), (3, .int x3), (4, .int 1), (5, .int (nI r)), (6, .int (nI 0))] [] M Q := by
    intro x3 h3
    exact ha_loop hc ha c 0 P x3 (nI r) M (by omega) h3 (by rw [Nat.sub_zero, Nat.mod_eq_of_lt hrc]) X HP pp h148 K1 K0
  have : c = 0 ∨ c = 1 ∨ c = 2 ∨ c = 3 := by omega
  rcases this with rfl | rfl | rfl | rfl
  · rw [k243_0, k243_5, k243_8, if_pos (by decide), k243_22]
    exact go 1 (fun q => absurd q (by omega))
  · rw [k243_0, k243_5, k243_8, if_pos (by decide), k243_22]
    exact go 1 (fun _ => rfl)
  · rw [k243_0, k243_5, k243_8, if_neg (by decide), k243_11, k243_5, k243_8, if_pos (by decide), k243_22]
    exact go _ (fun _ => by decide)
  · rw [k243_0, k243_5, k243_8, if_neg (by decide), k243_11, k243_5, k243_8, if_neg (by decide), k243_11, k243_5, k243_8, if_pos (by decide), k243_22]
    exact go _ (fun _ => by decide)
