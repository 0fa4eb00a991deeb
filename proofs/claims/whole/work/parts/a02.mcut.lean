variable {d : Nat} {M : hp} {Q : Option Value → hp → Prop}
/-! cut(): with all others off nothing is learnt -/
theorem b_bit {k i : Nat} (hk : k < 32) (hi : i < 32) : bt ((1 : Int32) <<< (nI k &&& 31)) i = decide (i = k) := by
  rw [b_shl k hk 1 hi, b_1 (i - k) (by omega)]
  by_cases c : i = k
  · subst c; simp
  · by_cases c2 : k ≤ i
    · rw [decide_eq_true c2, decide_eq_false (by omega), decide_eq_false c]; rfl
    · rw [decide_eq_false c2, decide_eq_false c]; rfl
theorem hung_bits {P : Nat → Int32} {i : Nat} (hi : i < 32) : ∀ n, n ≤ 7 → (bt (hungF P n) i = true ↔ i < n ∧ ¬ P i = -1)
  | 0, _ => by
    show bt 0 i = true ↔ _
    rw [b_0]
    exact ⟨fun q => absurd q (by decide), fun q => absurd q.1 (by omega)⟩
  | n + 1, h => by
    have ih := hung_bits (P := P) hi n (by omega)
    have e : hungF P (n + 1) = if P n = -1 then hungF P n else hungF P n ||| ((1 : Int32) <<< (nI n &&& 31)) := by
      unfold hungF
      rw [fo_end, Nat.zero_add]
    rw [e]
    by_cases c : P n = -1
    · rw [if_pos c, ih]
      constructor
      · intro q; exact ⟨by omega, q.2⟩
      · intro q
        by_cases c2 : i = n
        · rw [c2] at q; exact absurd c q.2
        · exact ⟨by omega, q.2⟩
    · rw [if_neg c, b_or, b_bit (by omega) hi, Bool.or_eq_true, ih, decide_eq_true_iff]
      constructor
      · rintro (q | q)
        · exact ⟨by omega, q.2⟩
        · rw [q]; exact ⟨by omega, c⟩
      · intro q
        by_cases c2 : i = n
        · exact Or.inr c2
        · exact Or.inl ⟨by omega, q.2⟩
theorem oth_bits {P : Nat → Int32} {n j i : Nat} (hi : i < 32) (hn : n ≤ 7) (hj : j < 7) : bt (othF P n j) i = true ↔ i < n ∧ ¬ P i = -1 ∧ ¬ i = j := by
  unfold othF
  rw [b_and, b_xor, b_m1 i hi, b_bit (by omega) hi, Bool.and_eq_true, hung_bits hi n hn]
  by_cases c : i = j
  · rw [decide_eq_true c]
    exact ⟨fun q => absurd q.2 (by decide), fun q => absurd c q.2.2⟩
  · rw [decide_eq_false c]
    exact ⟨fun q => ⟨q.1.1, q.1.2, c⟩, fun q => ⟨⟨q.1, q.2.1⟩, rfl⟩⟩
theorem lt128 : ∀ w, w < 256 → bt (nI w) 7 = false → w < 128 := by decide +kernel
theorem oth_nat {P : Nat → Int32} {n j : Nat} (hn : n ≤ 7) (hj : j < 7) : ∃ O, O < 128 ∧ othF P n j = nI O := by
  obtain ⟨w, hw, e⟩ : sm (othF P n j) := sm_and _ (hungF_sm P n hn)
  refine ⟨w, lt128 w hw ?_, e⟩
  rw [← e]
  cases q : bt (othF P n j) 7 with
  | false => rfl
  | true =>
    have := (oth_bits (by omega) hn hj).mp q
    omega
theorem bsd_off {P : Nat → Int32} {h o : Nat} (e : P h = -1) : ¬ bsd P h o := fun q => q.1 e
theorem alone {F : Nat → Nat → Int32} {P : Nat → Int32} {n j : Nat} (h : ∀ i, i < n → ¬ i = j → P i = -1) : nrG F P n j = 0 := by
  apply b_ext'
  intro i _
  unfold nrG
  rw [nr_bits, b_0]
  exact ⟨fun ⟨x, q1, q2, q3, _⟩ => absurd q3 (bsd_off (h x q1 q2)), fun q => absurd q (by decide)⟩
theorem it_alone {L : Law} {D T P : Nat → Int32} {n j : Nat} {rn : Int32} (HP : PegS P n) (hn : n ≤ 7) (hj : j < n) (h : ∀ i, i < n → ¬ i = j → P i = -1) : ∀ (k : Nat) (s : (Nat → Int32) × Int32), (itG L D T P n rn k s).1 j = s.1 j
  | 0, _ => rfl
  | k + 1, s => by
    show (itG L D T P n rn k (stepG L D T P n rn s)).1 j = s.1 j
    rw [it_alone HP hn hj h k]
    show (if j < n then s.1 j ||| hourG L D T P n rn s j else s.1 j) = s.1 j
    rw [if_pos hj]
    unfold hourG
    rw [← near_all HP hn hj, alone h]
    exact Int32.or_zero
theorem off_all {P : Nat → Int32} {n j O i : Nat} (hn : n ≤ 7) (hj : j < 7) (hO : othF P n j = nI O) (hi : i < n) (hij : ¬ i = j) : offF P n (nI O) i = -1 := by
  unfold offF
  by_cases c : P i = -1
  · rw [c]
    exact ite_self _
  · rw [if_pos ⟨hi, (tst (by omega)).mpr (by rw [← hO]; exact (oth_bits (by omega) hn hj).mpr ⟨hi, c, hij⟩)⟩]
theorem cut_good {L : Law} {D T P W : Nat → Int32} {n j O : Nat} {hr rn t : Int32} (HP : PegS P n) (hn : n ≤ 7) (hj : j < n) (hO : othF P n j = nI O) (hk : ¬ knw W j t) : ¬ knw (papG L n D T W hr rn (offF P n (nI O)) 60) j t := by
  unfold papG
  show ¬ ((itG L D T (offF P n (nI O)) n rn 60 (W, hr)).1 j >>> (t &&& 31)) &&& 1 = 1
  rw [it_alone (pegS_offF HP) hn hj (fun i q q2 => off_all hn (by omega) hO q q2)]
  exact hk
def cutG (L : Law) (n : Nat) (D T P W : Nat → Int32) (hr rn : Int32) (i t w : Int32) : Int32 := if hatOk n i ∧ thOk t ∧ ¬ knw W i.toNatClampNeg t ∧ 0 ≤ w ∧ w ≤ 1 then (if w = 0 then mny (ctG L n D T P W hr rn i.toNatClampNeg t (othF P n i.toNatClampNeg).toNatClampNeg) else ctG L n D T P W hr rn i.toNatClampNeg t (othF P n i.toNatClampNeg).toNatClampNeg) else -1
theorem mCut {n : Nat} {i t w : Int32} {D T P W : Nat → Int32} {hr rn : Int32} {L : Law} (X : RP M n D T P W hr rn L) (HP : PegS P n) (H : ∀ M', Qry M M' → Q (some (.int (cutG L n D T P W hr rn i t w))) M') : Wp none d 242 0 [(0, .ref 126), (1, .int i), (2, .int t), (3, .int w)] [] M Q := by
  have n7 := X.n7
  unfold cutG at H
  have bad : ¬ (hatOk n i ∧ thOk t ∧ ¬ knw W i.toNatClampNeg t ∧ 0 ≤ w ∧ w ≤ 1) → Wp none d 242 39 [(0, .ref 126), (1, .int i), (2, .int t), (3, .int w)] [] M Q := by
    intro c
    rw [if_neg c] at H
    rw [k242_39]
    exact H M (Qry_refl M)
  rw [k242_0 (m_9 X.F), o0_id X, k242_5, k242_7 (m_9 X.F), mIsHat X]
  simp only [oN]
  rw [k242_10]
  by_cases c : ¬ i < 0 ∧ ¬ nI n ≤ i
  case neg =>
    rw [if_pos (by rw [bz_eq0]; exact c)]
    exact bad (fun q => c q.1)
  rw [if_neg (by rw [bz_eq0]; exact fun q => q c), k242_13, k242_14, mIsThought]
  simp only [oN]
  rw [k242_17]
  by_cases c2 : ¬ t < 0 ∧ ¬ 8 ≤ t
  case neg =>
    rw [if_pos (by rw [bz_eq0]; exact c2)]
    exact bad (fun q => c2 q.2.1)
  obtain ⟨j, hj, rfl⟩ := hatOk_j n7 c
  rw [n_cl (by omega)] at H bad
  rw [if_neg (by rw [bz_eq0]; exact fun q => q c2), k242_20, k242_23 (m_9 X.F), mKnows X (by omega)]
  simp only [oN]
  rw [k242_26]
  by_cases c3 : (W j >>> (t &&& 31)) &&& 1 = 1
  · rw [if_pos (by rw [bz_eq0]; exact fun q => q c3)]
    exact bad (fun q => q.2.2.1 c3)
  rw [if_neg (by rw [bz_eq0]; exact fun q => q c3), k242_29, k242_33, mIn, in_lit (x := 0) (y := 1) (a := 0) (b := 1) rfl rfl]
  simp only [oN]
  rw [k242_36]
  by_cases c5 : 0 ≤ w ∧ w ≤ 1
  case neg =>
    rw [if_neg (by rw [bz_eq0]; exact fun q => q c5)]
    exact bad (fun q => c5 q.2.2.2)
  rw [if_pos ⟨c, c2, c3, c5⟩] at H
  rw [if_pos (by rw [bz_eq0]; exact fun q => q c5), k242_41, k242_44 (m_9 X.F)]
  refine mKeep16 X (fun M1 p1 X1 q1 => ?_)
  simp only [oZ]
  rw [k242_47, k242_48 (m_9 X1.F), mHungBits X1]
  simp only [oN]
  obtain ⟨O, hO, eO⟩ := oth_nat (P := P) n7 (show j < 7 by omega)
  rw [eO, n_cl (by omega)] at H
  rw [k242_51, show hungF P n &&& (((1 : Int32) <<< (nI j &&& 31)) ^^^ (-1)) = nI O from eO]
  refine ct_loop X HP (by omega) 128 0 (100000000, -1) M1 (by omega) p1 q1 (fun M' q' => ?_)
  rw [ct_same hO (cut_good HP n7 hj eO c3)]
  exact H M' q'
