variable {d : Nat} {M : hp} {Q : Option Value → hp → Prop}
theorem cb_in {n h hc : Nat} {x1 : Int32} {hk : Nat → Nat} {hb : Nat → Bool} {D T P W : Nat → Int32} {hr rn : Int32} {L : Law} (X : RP M n D T P W hr rn L) (R : RH M hc hk hb) (hh : h < 7) : ∀ (k i : Nat), i + k = hc → Wp none d 252 19 [(0, .ref 126), (1, .int x1), (2, .int (nI h)), (3, .int (bz (soB W h hk hb i = true))), (4, .int (nI i))] [] M Q = Wp none d 252 89 [(0, .ref 126), (1, .int x1), (2, .int (nI h)), (3, .int (bz (soB W h hk hb hc = true))), (4, .int (nI hc))] [] M Q
  | 0, i, e => by
    have h6 := R.2.1
    have : i = hc := by omega
    subst this
    rw [m252_19 X.F (by decide), show (1 : Int32).toNatClampNeg = 1 from rfl, R.1, k252_27, if_pos (by rw [n_le (by omega) (by omega)]; omega)]
  | k + 1, i, e => by
    have h6 := R.2.1
    obtain ⟨r1, r2, r3⟩ := R.2.2 i (by omega)
    have e35 : (35 : Int32) + 2 * nI i = nI (35 + 2 * i) := by rw [show (35 : Int32) = nI 35 from rfl, show (2 : Int32) = nI 2 from rfl, n_mul, nI_add]
    have ih := cb_in (x1 := x1) X R hh k (i + 1) (by omega)
    have es : soB W h hk hb (i + 1) = (soB W h hk hb i && (decide (knw W h (nI (hk i))) == hb i)) := rfl
    rw [m252_19 X.F (by decide), show (1 : Int32).toNatClampNeg = 1 from rfl, R.1, k252_27, if_neg (by rw [n_le (by omega) (by omega)]; omega), k252_30, k252_31]
    by_cases c : soB W h hk hb i = true
    · rw [if_neg (by rw [bz_eq0]; exact fun q => q c), m252_34 X.F (by rw [e35]; exact v54 (by omega)), e35, n_cl (by omega), r1, k252_48 (m_9 X.F), mKnows X hh]
      simp only [oN]
      rw [m252_51 X.F (by rw [e35, nI_1]; exact v54 (by omega)), e35, nI_1, n_cl (by omega), r3, k252_66]
      have fin : ∀ v : Int32, v = bz (soB W h hk hb (i + 1) = true) → Wp none d 252 82 [(0, .ref 126), (1, .int x1), (2, .int (nI h)), (3, .int (bz (soB W h hk hb i = true))), (4, .int (nI i))] [.int v] M Q = Wp none d 252 89 [(0, .ref 126), (1, .int x1), (2, .int (nI h)), (3, .int (bz (soB W h hk hb hc = true))), (4, .int (nI hc))] [] M Q := by
        intro v hv
        rw [k252_82, nI_1, hv]
        exact ih
      cases q : hb i with
      | true =>
        rw [if_pos (c := true = true) rfl, if_neg (fun z => z rfl), k252_69, k252_74]
        by_cases c2 : knw W h (nI (hk i))
        · rw [bz_t c2, if_neg (fun z => z rfl), k252_77]
          exact fin 1 (by rw [es, c, q, decide_eq_true c2]; rfl)
        · rw [bz_f c2, if_pos (by decide), k252_81]
          exact fin 0 (by rw [es, c, q, decide_eq_false c2]; rfl)
      | false =>
        rw [if_neg (c := false = true) (by decide), if_pos (by decide), k252_73, k252_74]
        by_cases c2 : knw W h (nI (hk i))
        · rw [bz_t c2, if_pos (by decide), k252_81]
          exact fin 0 (by rw [es, c, q, decide_eq_true c2]; rfl)
        · rw [bz_f c2, if_neg (fun z => z rfl), k252_77]
          exact fin 1 (by rw [es, c, q, decide_eq_false c2]; rfl)
    · have c' : soB W h hk hb i = false := by
        cases q : soB W h hk hb i with
        | true => exact absurd q c
        | false => rfl
      rw [if_pos (by rw [bz_eq0]; exact c), k252_81, k252_82, nI_1]
      have : bz (soB W h hk hb (i + 1) = true) = 0 := by rw [es, c']; rfl
      rw [← this]
      exact ih
theorem mThat {n hc : Nat} {hk : Nat → Nat} {hb : Nat → Bool} {D T P W : Nat → Int32} {hr rn : Int32} {L : Law} (X : RP M n D T P W hr rn L) (R : RH M hc hk hb) : Wp none d 252 0 [(0, .ref 126)] [] M Q = Q (some (.int (cbF W n (kMask hk hb true hc) (kMask hk hb false hc)))) M := by
  have n7 := X.n7
  have h6 := R.2.1
  have key := for_up (W := fun i s => Wp none d 252 4 [(0, .ref 126), (1, .int s), (2, .int (nI i))] [] M Q) (f := fun i x => if W i &&& kMask hk hb true hc = kMask hk hb true hc ∧ W i &&& kMask hk hb false hc = 0 then x ||| ((1 : Int32) <<< (nI i &&& 31)) else x) (n := n) (fun i s hi => by
    show Wp none d 252 4 [(0, .ref 126), (1, .int s), (2, .int (nI i))] [] M Q = Wp none d 252 4 [(0, .ref 126), (1, .int (if W i &&& kMask hk hb true hc = kMask hk hb true hc ∧ W i &&& kMask hk hb false hc = 0 then s ||| ((1 : Int32) <<< (nI i &&& 31)) else s)), (2, .int (nI (i + 1)))] [] M Q
    rw [m252_4 X.F (by decide), show (0 : Int32).toNatClampNeg = 0 from rfl, X.n0, k252_11, if_neg (by rw [n_le (by omega) (by omega)]; omega), k252_14]
    have := cb_in (d := d) (Q := Q) (x1 := s) X R (show i < 7 by omega) hc 0 (by omega)
    refine (show _ = _ from this).trans ?_
    have sm := so_mask (W := W) (h := i) (hk := hk) (hb := hb) hc (fun k q => (R.2.2 k q).2.1)
    rw [k252_89, k252_91]
    by_cases c : soB W i hk hb hc = true
    · rw [if_neg (by rw [bz_eq0]; exact fun q => q c), k252_94, k252_101, nI_1, if_pos (sm.mp c)]
    · rw [if_pos (by rw [bz_eq0]; exact c), k252_100, k252_101, nI_1, if_neg (fun q => c (sm.mpr q)), Int32.or_zero]) n 0 0 (by omega)
  rw [k252_0]
  refine (show _ = _ from key).trans ?_
  show Wp none d 252 4 [(0, .ref 126), (1, .int (cbF W n (kMask hk hb true hc) (kMask hk hb false hc))), (2, .int (nI n))] [] M Q = _
  rw [m252_4 X.F (by decide), show (0 : Int32).toNatClampNeg = 0 from rfl, X.n0, k252_11, if_pos (by rw [n_le (by omega) (by omega)]; omega), k252_109]
theorem mCanBe {n hc : Nat} {hk : Nat → Nat} {hb : Nat → Bool} {D T P W : Nat → Int32} {hr rn : Int32} {L : Law} (X : RP M n D T P W hr rn L) (R : RH M hc hk hb) : Wp none d 253 0 [(0, .ref 126)] [] M Q = Q (some (.int (cbF W n (kMask hk hb true hc) (kMask hk hb false hc)))) M := by
  rw [k253_0 (m_9 X.F), o0_id X, k253_5, k253_6 (m_9 X.F), mThat X R]
  simp only [oN]
  rw [k253_9]
theorem cb_bit (W : Nat → Int32) (K U : Int32) : ∀ n, n ≤ 7 → ∃ v, v < 128 ∧ cbF W n K U = nI v
  | 0, _ => ⟨0, by omega, rfl⟩
  | n + 1, h => by
    obtain ⟨v, hv, e⟩ := cb_bit W K U n (by omega)
    have e2 : cbF W (n + 1) K U = if W n &&& K = K ∧ W n &&& U = 0 then cbF W n K U ||| ((1 : Int32) <<< (nI n &&& 31)) else cbF W n K U := by
      unfold cbF
      rw [fo_end, Nat.zero_add]
    rw [e2, e]
    by_cases c : W n &&& K = K ∧ W n &&& U = 0
    · rw [if_pos c]
      have p : ((1 : Int32) <<< (nI n &&& 31)) = nI (2 ^ n) := by
        have : n = 0 ∨ n = 1 ∨ n = 2 ∨ n = 3 ∨ n = 4 ∨ n = 5 ∨ n = 6 := by omega
        rcases this with rfl | rfl | rfl | rfl | rfl | rfl | rfl <;> decide
      rw [p, fa_or]
      have p2 : 2 ^ n < 2 ^ 7 := Nat.pow_lt_pow_right (by decide) (by omega)
      exact ⟨v ||| 2 ^ n, Nat.or_lt_two_pow (n := 7) hv p2, rfl⟩
    · rw [if_neg c]
      exact ⟨v, hv, rfl⟩
/-- the more of those that know it and those that don't -/
def lfG (W : Nat → Int32) (n : Nat) (s : Int32) (t : Nat) : Int32 := if knoF W n (nI t) s ≤ mny s - knoF W n (nI t) s then mny s - knoF W n (nI t) s else knoF W n (nI t) s
def akSt (W : Nat → Int32) (n : Nat) (s : Int32) (t : Nat) (a : Int32 × Int32) : Int32 × Int32 := if lfG W n s t < a.2 then (nI t, lfG W n s t) else a
def akN (W : Nat → Int32) (n : Nat) (s : Int32) (t : Nat) (a : Int32 × Int32) : Int32 × Int32 := if a.1 ≤ lfG W n s t then a else (lfG W n s t, nI t)
def askG (W : Nat → Int32) (n : Nat) (s w : Int32) : Int32 := if ¬ s = 0 ∧ 0 ≤ w ∧ w ≤ 1 then (if w = 0 then (fo (akSt W n s) 0 8 (0, 8)).1 else (fo (akSt W n s) 0 8 (0, 8)).2) else -1
theorem mny_7 : ∀ v, v < 128 → ∃ b, b < 8 ∧ mny (nI v) = nI b := by
  intro v hv
  have : ∀ v, v < 128 → (mny (nI v)).toNatClampNeg < 8 ∧ mny (nI v) = nI (mny (nI v)).toNatClampNeg := by decide +kernel
  exact ⟨_, (this v hv).1, (this v hv).2⟩
theorem lf_8 : ∀ a, a < 8 → ∀ b, b < 8 → (if nI a ≤ nI b - nI a then nI b - nI a else nI a) = nI (max a (b - a)) := by decide +kernel
theorem kno_n (W : Nat → Int32) (t s : Int32) : ∀ n, ∃ c, c ≤ n ∧ knoF W n t s = nI c
  | 0 => ⟨0, Nat.le_refl 0, rfl⟩
  | n + 1 => by
    obtain ⟨c, h1, h2⟩ := kno_n W t s n
    unfold knoF at h2 ⊢
    rw [fo_end, h2, show 0 + n = n by omega]
    by_cases q : (s >>> (nI n &&& 31)) &&& 1 = 1 ∧ (W n >>> (t &&& 31)) &&& 1 = 1
    · rw [if_pos q, nI_1]
      exact ⟨c + 1, by omega, rfl⟩
    · rw [if_neg q]
      exact ⟨c, by omega, rfl⟩
theorem lf_nat {W : Nat → Int32} {n v t : Nat} (hn : n ≤ 7) (hv : v < 128) : ∃ c, c < 8 ∧ lfG W n (nI v) t = nI c := by
  obtain ⟨a, a1, a2⟩ := kno_n W (nI t) (nI v) n
  obtain ⟨b, b1, b2⟩ := mny_7 v hv
  unfold lfG
  rw [a2, b2, lf_8 a (by omega) b b1]
  exact ⟨max a (b - a), by omega, rfl⟩
theorem ak_inv {W : Nat → Int32} {n v : Nat} (hn : n ≤ 7) (hv : v < 128) : ∀ t, (t = 0 ∧ fo (akN W n (nI v)) 0 t (100000000, -1) = (100000000, -1) ∧ fo (akSt W n (nI v)) 0 t (0, 8) = (0, 8)) ∨ ∃ c u, c < 8 ∧ u < t ∧ fo (akN W n (nI v)) 0 t (100000000, -1) = (nI c, nI u) ∧ fo (akSt W n (nI v)) 0 t (0, 8) = (nI u, nI c)
  | 0 => Or.inl ⟨rfl, rfl, rfl⟩
  | t + 1 => by
    obtain ⟨e, e1, e2⟩ := lf_nat (W := W) (t := t) hn hv
    rw [fo_end, fo_end, show 0 + t = t by omega]
    rcases ak_inv hn hv t (W := W) with ⟨_, z2, z3⟩ | ⟨c, u, c1, u1, z2, z3⟩
    · rw [z2, z3]
      unfold akN akSt
      rw [e2]
      show _ ∨ ∃ c u, c < 8 ∧ u < t + 1 ∧ (if (100000000 : Int32) ≤ nI e then ((100000000 : Int32), (-1 : Int32)) else (nI e, nI t)) = (nI c, nI u) ∧ (if nI e < (8 : Int32) then (nI t, nI e) else ((0 : Int32), (8 : Int32))) = (nI u, nI c)
      rw [if_neg (by rw [show (100000000 : Int32) = nI 100000000 from rfl, n_le (by omega) (by omega)]; omega), if_pos (by rw [show (8 : Int32) = nI 8 from rfl, n_lt (by omega) (by omega)]; omega)]
      exact Or.inr ⟨e, t, e1, by omega, rfl, rfl⟩
    · rw [z2, z3]
      unfold akN akSt
      rw [e2]
      show _ ∨ ∃ c' u', c' < 8 ∧ u' < t + 1 ∧ (if nI c ≤ nI e then (nI c, nI u) else (nI e, nI t)) = (nI c', nI u') ∧ (if nI e < nI c then (nI t, nI e) else (nI u, nI c)) = (nI u', nI c')
      by_cases q : c ≤ e
      · rw [if_pos (by rw [n_le (by omega) (by omega)]; exact q), if_neg (by rw [n_lt (by omega) (by omega)]; omega)]
        exact Or.inr ⟨c, u, c1, by omega, rfl, rfl⟩
      · rw [if_neg (by rw [n_le (by omega) (by omega)]; exact q), if_pos (by rw [n_lt (by omega) (by omega)]; omega)]
        exact Or.inr ⟨e, t, e1, by omega, rfl, rfl⟩
theorem ak_loop {n : Nat} {w s : Int32} {D T P W : Nat → Int32} {hr rn : Int32} {L : Law} (X : RP M n D T P W hr rn L) : ∀ (k t : Nat) (a : Int32 × Int32), t + k = 8 → Wp none d 254 36 [(0, .ref 126), (1, .int w), (2, .int s), (3, .int a.1), (4, .int a.2), (5, .int (nI t))] [] M Q = Q (some (.int (if w = 0 then (fo (akN W n s) t k a).2 else (fo (akN W n s) t k a).1))) M
  | 0, t, a, e => by
    rw [k254_36, k254_40, show (8 : Int32) = nI 8 from rfl, if_pos (by rw [n_le (by omega) (by omega)]; omega), k254_155, k254_156]
    by_cases c : w = 0
    · rw [if_neg (fun q => q c), k254_159, k254_165, if_pos c]
      rfl
    · rw [if_pos c, k254_164, k254_165, if_neg c]
      rfl
  | k + 1, t, a, e => by
    have n7 := X.n7
    have key := for_up (W := fun i x => Wp none d 254 49 [(0, .ref 126), (1, .int w), (2, .int s), (3, .int a.1), (4, .int a.2), (5, .int (nI t)), (6, .int x), (7, .int (nI i))] [] M Q) (f := fun i x => if (s >>> (nI i &&& 31)) &&& 1 = 1 ∧ (W i >>> (nI t &&& 31)) &&& 1 = 1 then x + 1 else x) (n := n) (fun i x hi => by
      show Wp none d 254 49 [(0, .ref 126), (1, .int w), (2, .int s), (3, .int a.1), (4, .int a.2), (5, .int (nI t)), (6, .int x), (7, .int (nI i))] [] M Q = Wp none d 254 49 [(0, .ref 126), (1, .int w), (2, .int s), (3, .int a.1), (4, .int a.2), (5, .int (nI t)), (6, .int (if (s >>> (nI i &&& 31)) &&& 1 = 1 ∧ (W i >>> (nI t &&& 31)) &&& 1 = 1 then x + 1 else x)), (7, .int (nI (i + 1)))] [] M Q
      rw [m254_49 X.F (by decide), show (0 : Int32).toNatClampNeg = 0 from rfl, X.n0, k254_57, if_neg (by rw [n_le (by omega) (by omega)]; omega), k254_60, k254_65, mIs]
      simp only [oM]
      rw [k254_68]
      by_cases c : (s >>> (nI i &&& 31)) &&& 1 = 1
      · rw [if_neg (by rw [bz_eq0]; exact fun q => q c), k254_71, k254_76 (m_9 X.F), mKnows X (by omega)]
        simp only [oM]
        rw [k254_79]
        by_cases c2 : (W i >>> (nI t &&& 31)) &&& 1 = 1
        · rw [if_neg (by rw [bz_eq0]; exact fun q => q c2), k254_82, k254_87, nI_1, if_pos ⟨c, c2⟩]
        · rw [if_pos (by rw [bz_eq0]; exact c2), k254_86, k254_87, nI_1, Int32.add_zero, if_neg (fun q => c2 q.2)]
      · rw [if_pos (by rw [bz_eq0]; exact c), k254_86, k254_87, nI_1, Int32.add_zero, if_neg (fun q => c q.1)]) n 0 0 (by omega)
    have key2 : Wp none d 254 49 [(0, .ref 126), (1, .int w), (2, .int s), (3, .int a.1), (4, .int a.2), (5, .int (nI t)), (6, .int 0), (7, .int 0)] [] M Q = Wp none d 254 49 [(0, .ref 126), (1, .int w), (2, .int s), (3, .int a.1), (4, .int a.2), (5, .int (nI t)), (6, .int (knoF W n (nI t) s)), (7, .int (nI n))] [] M Q := key
    rw [k254_36, k254_40, show (8 : Int32) = nI 8 from rfl, if_neg (by rw [n_le (by omega) (by omega)]; omega), k254_43, key2, m254_49 X.F (by decide), show (0 : Int32).toNatClampNeg = 0 from rfl, X.n0, k254_57, if_pos (by rw [n_le (by omega) (by omega)]; omega), k254_96, k254_97, mMany]
    simp only [oN]
    have ih : ∀ a', akN W n s t a = a' → Wp none d 254 36 [(0, .ref 126), (1, .int w), (2, .int s), (3, .int a'.1), (4, .int a'.2), (5, .int (nI (t + 1)))] [] M Q = Q (some (.int (if w = 0 then (fo (akN W n s) t (k + 1) a).2 else (fo (akN W n s) t (k + 1) a).1))) M := by
      intro a' ea
      rw [ak_loop X k (t + 1) a' (by omega), ← ea]
      rfl
    have main : ∀ x6 x7, Wp none d 254 119 [(0, .ref 126), (1, .int w), (2, .int s), (3, .int a.1), (4, .int a.2), (5, .int (nI t)), (6, .int x6), (7, .int x7)] [.int (lfG W n s t)] M Q = Q (some (.int (if w = 0 then (fo (akN W n s) t (k + 1) a).2 else (fo (akN W n s) t (k + 1) a).1))) M := by
      intro x6 x7
      rw [k254_119, k254_124]
      by_cases c : a.1 ≤ lfG W n s t
      · rw [if_pos c, k254_132, k254_134, k254_139, if_pos c, k254_147, k254_148, nI_1]
        exact ih a (if_pos c)
      · rw [if_neg c, k254_127, k254_134, k254_139, if_neg c, k254_142, k254_148, nI_1]
        exact ih (lfG W n s t, nI t) (if_neg c)
    rw [k254_100, k254_109]
    by_cases c : knoF W n (nI t) s ≤ mny s - knoF W n (nI t) s
    · rw [if_pos c, k254_117]
      have : lfG W n s t = mny s - knoF W n (nI t) s := if_pos c
      rw [← this]
      exact main _ _
    · rw [if_neg c, k254_112]
      have : lfG W n s t = knoF W n (nI t) s := if_neg c
      have m2 := main (knoF W n (nI t) s) (mny s - knoF W n (nI t) s)
      rw [this] at m2
      exact m2
theorem mAsk {n hc : Nat} {w : Int32} {hk : Nat → Nat} {hb : Nat → Bool} {D T P W : Nat → Int32} {hr rn : Int32} {L : Law} (X : RP M n D T P W hr rn L) (R : RH M hc hk hb) : Wp none d 254 0 [(0, .ref 126), (1, .int w)] [] M Q = Q (some (.int (askG W n (cbF W n (kMask hk hb true hc) (kMask hk hb false hc)) w))) M := by
  have n7 := X.n7
  obtain ⟨v, hv, ev⟩ := cb_bit W (kMask hk hb true hc) (kMask hk hb false hc) n n7
  rw [k254_0 (m_9 X.F), o0_id X, k254_5, k254_6 (m_9 X.F), mThat X R]
  simp only [oN]
  rw [k254_9, k254_14, mIn, in_lit (x := 0) (y := 1) (a := 0) (b := 1) rfl rfl]
  simp only [oN]
  rw [k254_17]
  unfold askG
  by_cases c : 0 ≤ w ∧ w ≤ 1
  case neg =>
    rw [if_pos (by rw [bz_eq0]; exact c), k254_24, if_neg (fun q => c q.2)]
  rw [if_neg (by rw [bz_eq0]; exact fun q => q c), k254_20, k254_21]
  by_cases c2 : cbF W n (kMask hk hb true hc) (kMask hk hb false hc) = 0
  · rw [if_neg (fun q => q c2), k254_24, if_neg (fun q => q.1 c2)]
  rw [if_pos c2, k254_26, if_pos ⟨c2, c⟩]
  have := ak_loop (d := d) (Q := Q) (w := w) (s := cbF W n (kMask hk hb true hc) (kMask hk hb false hc)) X 8 0 (100000000, -1) (by omega)
  refine (show _ = _ from this).trans ?_
  rw [ev]
  rcases ak_inv (W := W) n7 hv 8 with ⟨z, _⟩ | ⟨c', u, _, _, z2, z3⟩
  · exact absurd z (by decide)
  · rw [z2, z3]
