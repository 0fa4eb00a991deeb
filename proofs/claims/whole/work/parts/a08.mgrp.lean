variable {d : Nat} {M : hp} {Q : Option Value → hp → Prop}
/-! groups() of the reference -/
def clS (P : Nat → Int32) (a b : Nat) (y : Int32) : Int32 := y ||| (if (y >>> (nI a &&& 31)) &&& 1 = 1 ∧ ¬ a = b ∧ bsd P a b then (1 : Int32) <<< (nI b &&& 31) else 0)
def clR (P : Nat → Int32) (n a : Nat) (y : Int32) : Int32 := fo (clS P a) 0 n y
def clA (P : Nat → Int32) (n : Nat) (y : Int32) : Int32 := fo (clR P n) 0 n y
def clG (P : Nat → Int32) (n j : Nat) : Int32 := fo (fun _ y => clA P n y) 0 7 (if P j = -1 then 0 else (1 : Int32) <<< (nI j &&& 31))
theorem mGroupOf {n j : Nat} {D T P W : Nat → Int32} {hr rn : Int32} {L : Law} (X : RP M n D T P W hr rn L) (hj : j < 7) : Wp none d 246 0 [(0, .ref 126), (1, .int (nI j))] [] M Q = Q (some (.int (clG P n j))) M := by
  have n7 := X.n7
  have k1 : ∀ (x3 y : Int32) (a : Nat), a < n → Wp none d 246 41 [(0, .ref 126), (1, .int (nI j)), (2, .int y), (3, .int x3), (4, .int (nI a)), (5, .int (nI 0))] [] M Q = Wp none d 246 96 [(0, .ref 126), (1, .int (nI j)), (2, .int (clR P n a y)), (3, .int x3), (4, .int (nI a)), (5, .int (nI n))] [] M Q := by
    intro x3 y a ha
    have key := for_up (W := fun i y => Wp none d 246 41 [(0, .ref 126), (1, .int (nI j)), (2, .int y), (3, .int x3), (4, .int (nI a)), (5, .int (nI i))] [] M Q) (f := clS P a) (n := n) (fun i y hi => by
      have z : ¬ ((y >>> (nI a &&& 31)) &&& 1 = 1 ∧ ¬ a = i ∧ bsd P a i) → Wp none d 246 87 [(0, .ref 126), (1, .int (nI j)), (2, .int y), (3, .int x3), (4, .int (nI a)), (5, .int (nI i))] [.int y] M Q = Wp none d 246 41 [(0, .ref 126), (1, .int (nI j)), (2, .int (clS P a i y)), (3, .int x3), (4, .int (nI a)), (5, .int (nI (i + 1)))] [] M Q := by
        intro c
        rw [k246_87, k246_88, nI_1, show clS P a i y = y ||| 0 from by unfold clS; rw [if_neg c]]
      show Wp none d 246 41 [(0, .ref 126), (1, .int (nI j)), (2, .int y), (3, .int x3), (4, .int (nI a)), (5, .int (nI i))] [] M Q = Wp none d 246 41 [(0, .ref 126), (1, .int (nI j)), (2, .int (clS P a i y)), (3, .int x3), (4, .int (nI a)), (5, .int (nI (i + 1)))] [] M Q
      rw [m246_41 X.F (by decide), show (0 : Int32).toNatClampNeg = 0 from rfl, X.n0, k246_49, if_neg (by rw [n_le (by omega) (by omega)]; omega), k246_52, k246_56, mIs]
      simp only [oM]
      rw [k246_59]
      by_cases c : (y >>> (nI a &&& 31)) &&& 1 = 1
      case neg =>
        rw [if_pos (by rw [bz_eq0]; exact c)]
        exact z (fun q => c q.1)
      rw [if_neg (by rw [bz_eq0]; exact fun q => q c), k246_62, k246_66]
      by_cases c2 : a = i
      · rw [if_pos (by rw [c2])]
        exact z (fun q => q.2.1 c2)
      rw [if_neg (by rw [n_eq (by omega) (by omega)]; exact c2), k246_69, k246_74 (m_9 X.F), mBeside X (by omega) (by omega)]
      simp only [oM]
      rw [k246_77]
      by_cases c3 : bsd P a i
      · rw [if_neg (by rw [bz_eq0]; exact fun q => q c3), k246_80, k246_88, nI_1, show clS P a i y = y ||| ((1 : Int32) <<< (nI i &&& 31)) from by unfold clS; rw [if_pos ⟨c, c2, c3⟩]]
      · rw [if_pos (by rw [bz_eq0]; exact c3)]
        exact z (fun q => c3 q.2.2)) n 0 y (by omega)
    refine (show _ = _ from key).trans ?_
    show Wp none d 246 41 [(0, .ref 126), (1, .int (nI j)), (2, .int (clR P n a y)), (3, .int x3), (4, .int (nI a)), (5, .int (nI n))] [] M Q = _
    rw [m246_41 X.F (by decide), show (0 : Int32).toNatClampNeg = 0 from rfl, X.n0, k246_49, if_pos (by rw [n_le (by omega) (by omega)]; omega)]
  have k2 : ∀ (x3 y : Int32), Wp none d 246 27 [(0, .ref 126), (1, .int (nI j)), (2, .int y), (3, .int x3), (4, .int (nI 0))] [] M Q = Wp none d 246 102 [(0, .ref 126), (1, .int (nI j)), (2, .int (clA P n y)), (3, .int x3), (4, .int (nI n))] [] M Q := by
    intro x3 y
    have key := for_up (W := fun a y => Wp none d 246 27 [(0, .ref 126), (1, .int (nI j)), (2, .int y), (3, .int x3), (4, .int (nI a))] [] M Q) (f := clR P n) (n := n) (fun a y ha => by
      show Wp none d 246 27 [(0, .ref 126), (1, .int (nI j)), (2, .int y), (3, .int x3), (4, .int (nI a))] [] M Q = Wp none d 246 27 [(0, .ref 126), (1, .int (nI j)), (2, .int (clR P n a y)), (3, .int x3), (4, .int (nI (a + 1)))] [] M Q
      have := k1 x3 y a ha
      rw [m246_27 X.F (by decide), show (0 : Int32).toNatClampNeg = 0 from rfl, X.n0, k246_35, if_neg (by rw [n_le (by omega) (by omega)]; omega), k246_38]
      refine (show _ = _ from this).trans ?_
      rw [k246_96, nI_1]) n 0 y (by omega)
    refine (show _ = _ from key).trans ?_
    show Wp none d 246 27 [(0, .ref 126), (1, .int (nI j)), (2, .int (clA P n y)), (3, .int x3), (4, .int (nI n))] [] M Q = _
    rw [m246_27 X.F (by decide), show (0 : Int32).toNatClampNeg = 0 from rfl, X.n0, k246_35, if_pos (by rw [n_le (by omega) (by omega)]; omega)]
  have k3 : ∀ y, Wp none d 246 18 [(0, .ref 126), (1, .int (nI j)), (2, .int y), (3, .int (nI 0))] [] M Q = Q (some (.int (fo (fun _ y => clA P n y) 0 7 y))) M := by
    intro y
    have key := for_up (W := fun a y => Wp none d 246 18 [(0, .ref 126), (1, .int (nI j)), (2, .int y), (3, .int (nI a))] [] M Q) (f := fun _ y => clA P n y) (n := 7) (fun a y ha => by
      show Wp none d 246 18 [(0, .ref 126), (1, .int (nI j)), (2, .int y), (3, .int (nI a))] [] M Q = Wp none d 246 18 [(0, .ref 126), (1, .int (nI j)), (2, .int (clA P n y)), (3, .int (nI (a + 1)))] [] M Q
      have := k2 (nI a) y
      rw [k246_18, k246_21, show (7 : Int32) = nI 7 from rfl, if_neg (by rw [n_le (by omega) (by omega)]; omega), k246_24]
      refine (show _ = _ from this).trans ?_
      rw [k246_102, nI_1]) 7 0 y (by omega)
    refine (show _ = _ from key).trans ?_
    show Wp none d 246 18 [(0, .ref 126), (1, .int (nI j)), (2, .int (fo (fun _ y => clA P n y) 0 7 y)), (3, .int (nI 7))] [] M Q = _
    rw [k246_18, k246_21, if_pos (by decide), k246_108]
  rw [k246_0, k246_2 (m_9 X.F), mHung X hj]
  simp only [oN]
  rw [k246_5]
  unfold clG
  by_cases c : P j = -1
  · rw [if_pos (by rw [bz_eq0]; exact fun q => q c), k246_14, k246_15, if_pos c]
    exact k3 0
  · rw [if_neg (by rw [bz_eq0]; exact fun q => q c), k246_8, k246_15, if_neg c]
    exact k3 _
/-- a hat hangs there -/
def occ (P : Nat → Int32) (n p : Nat) : Prop := ∃ h, h < n ∧ P h = nI p
/-- hats at all pegs from one to another -/
def conn (P : Nat → Int32) (n p q : Nat) : Prop := ∀ r, (p ≤ r ∧ r ≤ q) ∨ (q ≤ r ∧ r ≤ p) → occ P n r
theorem fo_hit {α : Type} {f : Nat → α → α} {R1 R2 : α → Prop} {n i : Nat} {a : α} (hi : i < n) (p1 : ∀ j a, R1 a → R1 (f j a)) (p2 : ∀ j a, R2 a → R2 (f j a)) (st : ∀ a, R1 a → R2 (f i a)) (h : R1 a) : R2 (fo f 0 n a) := by
  rw [show n = i + ((n - i - 1) + 1) by omega, fo_split, Nat.zero_add]
  show R2 (fo f (i + 1) (n - i - 1) (f i (fo f 0 i a)))
  exact fo_inv R2 _ _ _ (st _ (fo_inv R1 _ _ _ h (fun j a _ _ => p1 j a))) (fun j a _ _ => p2 j a)
theorem clS_mono {P : Nat → Int32} {i : Nat} (a b : Nat) (y : Int32) (h : bt y i = true) : bt (clS P a b y) i = true := by
  unfold clS
  rw [b_or, h, Bool.true_or]
theorem clR_mono {P : Nat → Int32} {n i : Nat} (a : Nat) (y : Int32) (h : bt y i = true) : bt (clR P n a y) i = true := fo_inv (fun y => bt y i = true) _ _ _ h (fun j y _ _ q => clS_mono a j y q)
theorem clA_hit {P : Nat → Int32} {n a b : Nat} {y : Int32} (ha : a < n) (hb : b < n) (hn : n ≤ 7) (hab : ¬ a = b) (hs : bsd P a b) (h : bt y a = true) : bt (clA P n y) b = true := by
  unfold clA
  refine fo_hit (R1 := fun y => bt y a = true) (R2 := fun y => bt y b = true) ha (fun j y q => clR_mono j y q) (fun j y q => clR_mono j y q) (fun y q => ?_) h
  unfold clR
  refine fo_hit (R1 := fun y => bt y a = true) (R2 := fun y => bt y b = true) hb (fun j y q => clS_mono a j y q) (fun j y q => clS_mono a j y q) (fun y q => ?_) q
  unfold clS
  rw [b_or, if_pos ⟨(tst (by omega)).mpr q, hab, hs⟩, b_bit (by omega) (by omega), decide_eq_true rfl, Bool.or_true]
theorem clA_mono {P : Nat → Int32} {n i : Nat} (y : Int32) (h : bt y i = true) : bt (clA P n y) i = true := fo_inv (fun y => bt y i = true) _ _ _ h (fun j y _ _ q => clR_mono j y q)
def sgr (P : Nat → Int32) (n p i : Nat) : Prop := i < n ∧ ∃ q, q < 10 ∧ P i = nI q ∧ conn P n p q
theorem clS_sound {P : Nat → Int32} {n p a b : Nat} {y : Int32} (HP : PegS P n) (hn : n ≤ 7) (ha : a < n) (hb : b < n) (h : ∀ i, i < 32 → bt y i = true → sgr P n p i) : ∀ i, i < 32 → bt (clS P a b y) i = true → sgr P n p i := by
  intro i hi q
  unfold clS at q
  by_cases c : (y >>> (nI a &&& 31)) &&& 1 = 1 ∧ ¬ a = b ∧ bsd P a b
  · rw [if_pos c, b_or, b_bit (by omega) hi, Bool.or_eq_true, decide_eq_true_iff] at q
    rcases q with q | q
    · exact h i hi q
    · subst q
      obtain ⟨_, qa, a1, a2, a3⟩ := h a (by omega) ((tst (by omega)).mp c.1)
      rcases HP.1 i hb with z | ⟨qb, b1, b2⟩
      · exact absurd z c.2.2.2.1
      · refine ⟨hb, qb, b1, b2, fun r hr => ?_⟩
        by_cases e : r = qb
        · exact ⟨i, hb, by rw [e]; exact b2⟩
        · have := c.2.2.2.2
          rw [a2, b2, n_dif _ a1 _ b1, n_dif _ b1 _ a1] at this
          exact a3 r (by omega)
  · rw [if_neg c, b_or, b_0, Bool.or_false] at q
    exact h i hi q
theorem clR_sound {P : Nat → Int32} {n p a : Nat} {y : Int32} (HP : PegS P n) (hn : n ≤ 7) (ha : a < n) (h : ∀ i, i < 32 → bt y i = true → sgr P n p i) : ∀ i, i < 32 → bt (clR P n a y) i = true → sgr P n p i :=
  fo_inv (fun y => ∀ i, i < 32 → bt y i = true → sgr P n p i) _ _ _ h (fun b y _ hb q => clS_sound HP hn ha (by omega) q)
theorem clA_sound {P : Nat → Int32} {n p : Nat} {y : Int32} (HP : PegS P n) (hn : n ≤ 7) (h : ∀ i, i < 32 → bt y i = true → sgr P n p i) : ∀ i, i < 32 → bt (clA P n y) i = true → sgr P n p i :=
  fo_inv (fun y => ∀ i, i < 32 → bt y i = true → sgr P n p i) _ _ _ h (fun a y _ ha q => clR_sound HP hn (by omega) q)
theorem conn_sub {P : Nat → Int32} {n p q r : Nat} (h : conn P n p q) (hr : (p ≤ r ∧ r ≤ q) ∨ (q ≤ r ∧ r ≤ p)) : conn P n p r := fun x hx => h x (by omega)
theorem cov_step {P : Nat → Int32} {n p k : Nat} {y : Int32} (HP : PegS P n) (hn : n ≤ 7) (hp : p < 10) (h : ∀ i q, i < n → P i = nI q → q < 10 → conn P n p q → q ≤ p + k → p ≤ q + k → bt y i = true) : ∀ i q, i < n → P i = nI q → q < 10 → conn P n p q → q ≤ p + (k + 1) → p ≤ q + (k + 1) → bt (clA P n y) i = true := by
  intro i q hi e hq hc h1 h2
  by_cases c : q ≤ p + k ∧ p ≤ q + k
  · exact clA_mono y (h i q hi e hq hc c.1 c.2)
  · have step : ∀ r, r < 10 → ((p ≤ r ∧ r ≤ q) ∨ (q ≤ r ∧ r ≤ p)) → r ≤ p + k → p ≤ r + k → (r = q + 1 ∨ q = r + 1) → bt (clA P n y) i = true := by
      intro r r10 hr r1 r2 r3
      obtain ⟨a, a1, a2⟩ := hc r hr
      have ba := h a r a1 a2 r10 (conn_sub hc hr) r1 r2
      refine clA_hit a1 hi hn ?_ ⟨by rw [a2, n_m1 (by omega)]; exact id, by rw [e, n_m1 (by omega)]; exact id, ?_⟩ ba
      · intro z
        rw [z, e, n_eq (by omega) (by omega)] at a2
        omega
      · rw [a2, e, n_dif _ r10 _ hq, n_dif _ hq _ r10]
        omega
    by_cases c2 : p < q
    · exact step (q - 1) (by omega) (by omega) (by omega) (by omega) (by omega)
    · exact step (q + 1) (by omega) (by omega) (by omega) (by omega) (by omega)
theorem conn_near {P : Nat → Int32} {n p q : Nat} (hn : n ≤ 7) (hp : p < 10) (hq : q < 10) (h : conn P n p q) : q ≤ p + 7 ∧ p ≤ q + 7 := by
  constructor
  · refine Nat.le_of_not_lt (fun z => ?_)
    obtain ⟨i, i1, i2⟩ := pig n 8 (fun i => p + i) P (by omega) (fun i _ => by omega) (fun i k _ _ e => by omega)
    obtain ⟨a, a1, a2⟩ := h (p + i) (by omega)
    exact i2 a a1 a2
  · refine Nat.le_of_not_lt (fun z => ?_)
    obtain ⟨i, i1, i2⟩ := pig n 8 (fun i => q + i) P (by omega) (fun i _ => by omega) (fun i k _ _ e => by omega)
    obtain ⟨a, a1, a2⟩ := h (q + i) (by omega)
    exact i2 a a1 a2
theorem clG_bits {P : Nat → Int32} {n j p i : Nat} (HP : PegS P n) (hn : n ≤ 7) (hj : j < n) (hp : p < 10) (e : P j = nI p) (hi : i < 32) : bt (clG P n j) i = true ↔ sgr P n p i := by
  have hne : ¬ P j = -1 := by rw [e, n_m1 (by omega)]; exact id
  unfold clG
  rw [if_neg hne]
  constructor
  · have start : ∀ i, i < 32 → bt ((1 : Int32) <<< (nI j &&& 31)) i = true → sgr P n p i := by
      intro i hi q
      rw [b_bit (by omega) hi, decide_eq_true_iff] at q
      subst q
      exact ⟨hj, p, hp, e, fun r hr => ⟨i, hj, by rw [e]; congr 1; omega⟩⟩
    exact fo_inv (fun y => ∀ i, i < 32 → bt y i = true → sgr P n p i) 7 0 _ start (fun _ y _ _ q => clA_sound HP hn q) i hi
  · rintro ⟨h1, q, q1, q2, q3⟩
    have cov : ∀ k i q, i < n → P i = nI q → q < 10 → conn P n p q → q ≤ p + k → p ≤ q + k → bt (fo (fun _ y => clA P n y) 0 k ((1 : Int32) <<< (nI j &&& 31))) i = true := by
      intro k
      induction k with
      | zero =>
        intro i q a1 a2 a3 a4 a5 a6
        have : q = p := by omega
        subst this
        have : i = j := peg_uniq HP a1 hj (by omega) a2 e
        subst this
        show bt ((1 : Int32) <<< (nI i &&& 31)) i = true
        rw [b_bit (by omega) (by omega), decide_eq_true rfl]
      | succ k ih =>
        intro i q a1 a2 a3 a4 a5 a6
        rw [fo_end]
        exact cov_step HP hn hp ih i q a1 a2 a3 a4 a5 a6
    have near := conn_near hn hp q1 q3
    exact cov 7 i q h1 q2 q1 q3 near.1 near.2
theorem occ_hat {P : Nat → Int32} {n r : Nat} (HP : PegS P n) (hn : n ≤ 7) (hr : r < 10) : (hatF n P (nI r) = -1 ∧ ¬ occ P n r) ∨ ∃ h, h < n ∧ hatF n P (nI r) = nI h ∧ P h = nI r := by
  rcases hatF_cases n P (nI r) with z | ⟨j, hj, z⟩
  · exact Or.inl ⟨z, fun ⟨h, h1, h2⟩ => hatF_none (nI_pos (by omega)) z hn h h1 h2⟩
  · exact Or.inr ⟨j, hj, z, (hatF_at z hn (by omega)).2⟩
theorem gdn_bits {P : Nat → Int32} {n i : Nat} (HP : PegS P n) (hn : n ≤ 7) (hi : i < 32) : ∀ (p : Nat) (s : Int32), p ≤ 10 → (bt (gdn n P p s) i = true ↔ bt s i = true ∨ (i < n ∧ ∃ q, q < p ∧ P i = nI q ∧ ∀ r, q ≤ r → r < p → occ P n r))
  | 0, s, _ => by
    show bt s i = true ↔ _
    constructor
    · intro h; exact Or.inl h
    · rintro (h | ⟨_, q, q1, _⟩)
      · exact h
      · omega
  | p + 1, s, h10 => by
    unfold gdn
    rcases occ_hat (r := p) HP hn (by omega) with ⟨z1, z2⟩ | ⟨h, h1, h2, h3⟩
    · rw [if_pos z1]
      constructor
      · intro h; exact Or.inl h
      · rintro (h | ⟨_, q, q1, _, q3⟩)
        · exact h
        · exact absurd (q3 p (by omega) (by omega)) z2
    · rw [if_neg (by rw [h2, n_m1 (by omega)]; exact id), gdn_bits HP hn hi p _ (by omega), h2, b_or, b_bit (by omega) hi, Bool.or_eq_true, decide_eq_true_iff]
      constructor
      · rintro ((q | q) | ⟨q1, q, q2, q3, q4⟩)
        · exact Or.inl q
        · exact Or.inr ⟨by omega, p, by omega, by rw [q]; exact h3, fun r r1 r2 => ⟨h, h1, by rw [h3]; congr 1; omega⟩⟩
        · refine Or.inr ⟨q1, q, by omega, q3, fun r r1 r2 => ?_⟩
          by_cases c : r = p
          · exact ⟨h, h1, by rw [c]; exact h3⟩
          · exact q4 r r1 (by omega)
      · rintro (q | ⟨q1, q, q2, q3, q4⟩)
        · exact Or.inl (Or.inl q)
        · by_cases c : q = p
          · rw [c] at q3
            exact Or.inl (Or.inr (peg_uniq HP q1 h1 (by omega) q3 h3))
          · exact Or.inr ⟨q1, q, by omega, q3, fun r r1 r2 => q4 r r1 (by omega)⟩
theorem gup_bits {P : Nat → Int32} {n i : Nat} (HP : PegS P n) (hn : n ≤ 7) (hi : i < 32) : ∀ (k p : Nat) (s : Int32), p + k ≤ 10 → (bt (gup n P k p s) i = true ↔ bt s i = true ∨ (i < n ∧ ∃ q, p ≤ q ∧ q < p + k ∧ P i = nI q ∧ ∀ r, p ≤ r → r ≤ q → occ P n r))
  | 0, p, s, _ => by
    show bt s i = true ↔ _
    constructor
    · intro h; exact Or.inl h
    · rintro (h | ⟨_, q, q1, q2, _⟩)
      · exact h
      · omega
  | k + 1, p, s, h10 => by
    unfold gup
    rcases occ_hat (r := p) HP hn (by omega) with ⟨z1, z2⟩ | ⟨h, h1, h2, h3⟩
    · rw [if_pos z1]
      constructor
      · intro h; exact Or.inl h
      · rintro (h | ⟨_, q, q1, _, _, q3⟩)
        · exact h
        · exact absurd (q3 p (by omega) (by omega)) z2
    · rw [if_neg (by rw [h2, n_m1 (by omega)]; exact id), gup_bits HP hn hi k (p + 1) _ (by omega), h2, b_or, b_bit (by omega) hi, Bool.or_eq_true, decide_eq_true_iff]
      constructor
      · rintro ((q | q) | ⟨q1, q, q2, q5, q3, q4⟩)
        · exact Or.inl q
        · exact Or.inr ⟨by omega, p, by omega, by omega, by rw [q]; exact h3, fun r r1 r2 => ⟨h, h1, by rw [h3]; congr 1; omega⟩⟩
        · refine Or.inr ⟨q1, q, by omega, by omega, q3, fun r r1 r2 => ?_⟩
          by_cases c : r = p
          · exact ⟨h, h1, by rw [c]; exact h3⟩
          · exact q4 r (by omega) r2
      · rintro (q | ⟨q1, q, q2, q5, q3, q4⟩)
        · exact Or.inl (Or.inl q)
        · by_cases c : q = p
          · rw [c] at q3
            exact Or.inl (Or.inr (peg_uniq HP q1 h1 (by omega) q3 h3))
          · exact Or.inr ⟨q1, q, by omega, by omega, q3, fun r r1 r2 => q4 r (by omega) r2⟩
theorem grp_eq {P : Nat → Int32} {n j p : Nat} (HP : PegS P n) (hn : n ≤ 7) (hj : j < n) (hp : p < 10) (e : P j = nI p) : clG P n j = grpF n P j p := by
  apply b_ext'
  intro i hi
  unfold grpF
  rw [clG_bits HP hn hj hp e hi, gup_bits HP hn hi _ _ _ (by omega), gdn_bits HP hn hi _ _ (by omega), b_bit (by omega) hi, decide_eq_true_iff]
  constructor
  · rintro ⟨h1, q, q1, q2, q3⟩
    by_cases c : q = p
    · rw [c] at q2
      exact Or.inl (Or.inl (peg_uniq HP h1 hj (by omega) q2 e))
    · by_cases c2 : q < p
      · exact Or.inl (Or.inr ⟨h1, q, c2, q2, fun r r1 r2 => q3 r (by omega)⟩)
      · exact Or.inr ⟨h1, q, by omega, by omega, q2, fun r r1 r2 => q3 r (by omega)⟩
  · rintro ((q | ⟨h1, q, q1, q2, q3⟩) | ⟨h1, q, q1, q2, q3, q4⟩)
    · subst q
      exact ⟨hj, p, hp, e, fun r hr => ⟨i, hj, by rw [e]; congr 1; omega⟩⟩
    · refine ⟨h1, q, by omega, q2, fun r hr => ?_⟩
      by_cases c : r = p
      · exact ⟨j, hj, by rw [c]; exact e⟩
      · exact q3 r (by omega) (by omega)
    · refine ⟨h1, q, by omega, q3, fun r hr => ?_⟩
      by_cases c : r = p
      · exact ⟨j, hj, by rw [c]; exact e⟩
      · exact q4 r (by omega) (by omega)
