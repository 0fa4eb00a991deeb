variable {d : Nat} {M : hp} {Q : Option Value → hp → Prop}
/-! an hour, asked hat by hat or peg by peg -/
theorem b_ext' {x y : Int32} (h : ∀ i, i < 32 → (bt x i = true ↔ bt y i = true)) : x = y := b_ext (fun i hi => Bool.eq_iff_iff.mpr (h i hi))
theorem nr_bits (F : Nat → Nat → Int32) (P : Nat → Int32) (o i : Nat) : ∀ k, bt (fo (nrF F P o) 0 k 0) i = true ↔ ∃ h, h < k ∧ ¬ h = o ∧ bsd P h o ∧ bt (F h o) i = true
  | 0 => by
    show bt 0 i = true ↔ _
    rw [b_0]
    exact ⟨fun q => absurd q (by decide), fun ⟨h, q, _⟩ => absurd q (by omega)⟩
  | k + 1 => by
    rw [fo_end, show 0 + k = k by omega]
    show bt (fo (nrF F P o) 0 k 0 ||| (if ¬ k = o ∧ bsd P k o then F k o else 0)) i = true ↔ _
    rw [b_or, Bool.or_eq_true, nr_bits F P o i k]
    by_cases c : ¬ k = o ∧ bsd P k o
    · rw [if_pos c]
      constructor
      · rintro (⟨h, q⟩ | q)
        · exact ⟨h, by omega, q.2⟩
        · exact ⟨k, by omega, c.1, c.2, q⟩
      · rintro ⟨h, q1, q2, q3, q4⟩
        by_cases e : h = k
        · subst e; exact Or.inr q4
        · exact Or.inl ⟨h, by omega, q2, q3, q4⟩
    · rw [if_neg c, b_0]
      constructor
      · rintro (⟨h, q⟩ | q)
        · exact ⟨h, by omega, q.2⟩
        · exact absurd q (by decide)
      · rintro ⟨h, q1, q2, q3, q4⟩
        by_cases e : h = k
        · subst e; exact absurd ⟨q2, q3⟩ c
        · exact Or.inl ⟨h, by omega, q2, q3, q4⟩
/-- hats at the pegs a and a + 1, a below q -/
def adj (P : Nat → Int32) (q h o : Nat) : Prop := ∃ a, a < q ∧ ((P h = nI a ∧ P o = nI (a + 1)) ∨ (P h = nI (a + 1) ∧ P o = nI a))
theorem lastH_none {P : Nat → Int32} {q : Nat} : ∀ n, n ≤ 7 → lastH P q n = -1 → ∀ j, j < n → ¬ P j = nI q
  | 0, _, _, j, hj => absurd hj (by omega)
  | n + 1, hn, e, j, hj => by
    rw [lastH_s] at e
    by_cases c : P n = nI q
    · rw [if_pos c, n_m1 (by omega)] at e
      exact e.elim
    · rw [if_neg c] at e
      by_cases c2 : j = n
      · rw [c2]; exact c
      · exact lastH_none n (by omega) e j (by omega)
theorem on_cases {P : Nat → Int32} {n q : Nat} (hn : n ≤ 7) : (onF P n q = -1 ∧ ∀ j, j < n → ¬ P j = nI q) ∨ ∃ j, j < n ∧ onF P n q = nI j ∧ P j = nI q := by
  rcases lastH_cases P q n with z | z
  · exact Or.inl ⟨z, lastH_none n hn z⟩
  · exact Or.inr z
theorem peg_uniq {P : Nat → Int32} {n h j q : Nat} (HP : PegS P n) (hh : h < n) (hj : j < n) (hq : q ≤ 10) (e1 : P h = nI q) (e2 : P j = nI q) : h = j :=
  HP.2 h j hh hj (e1.trans e2.symm) (by rw [e1, n_m1 (by omega)]; exact id)
theorem adj_s {P : Nat → Int32} {q h j : Nat} : adj P (q + 1) h j ↔ adj P q h j ∨ (P h = nI q ∧ P j = nI (q + 1)) ∨ (P h = nI (q + 1) ∧ P j = nI q) := by
  constructor
  · rintro ⟨a, ha, z⟩
    by_cases c : a = q
    · rw [c] at z
      exact Or.inr z
    · exact Or.inl ⟨a, by omega, z⟩
  · rintro (⟨a, ha, z⟩ | z)
    · exact ⟨a, by omega, z⟩
    · exact ⟨q, by omega, z⟩
theorem tAll_bits {F : Nat → Nat → Int32} {P : Nat → Int32} {n : Nat} (HP : PegS P n) (hn : n ≤ 7) (i : Nat) : ∀ q, q ≤ 9 → ∀ j, j < n → (bt (fo (tStep F (onF P n)) 0 q (fun _ => 0) j) i = true ↔ ∃ h, h < n ∧ adj P q h j ∧ bt (F h j) i = true)
  | 0, _, j, hj => by
    show bt 0 i = true ↔ _
    rw [b_0]
    exact ⟨fun q => absurd q (by decide), fun ⟨h, _, ⟨a, q, _⟩, _⟩ => absurd q (by omega)⟩
  | q + 1, hq, j, hj => by
    have ih := tAll_bits (F := F) HP hn i q (by omega)
    rw [fo_end, show 0 + q = q by omega]
    generalize fo (tStep F (onF P n)) 0 q (fun _ => 0) = Tq at ih ⊢
    have skip : (∀ h, h < n → ¬ ((P h = nI q ∧ P j = nI (q + 1)) ∨ (P h = nI (q + 1) ∧ P j = nI q))) → ((∃ h, h < n ∧ adj P q h j ∧ bt (F h j) i = true) ↔ ∃ h, h < n ∧ adj P (q + 1) h j ∧ bt (F h j) i = true) := by
      intro hno
      constructor
      · rintro ⟨h, q1, q2, q3⟩
        exact ⟨h, q1, adj_s.mpr (Or.inl q2), q3⟩
      · rintro ⟨h, q1, q2, q3⟩
        rcases adj_s.mp q2 with z | z
        · exact ⟨h, q1, z, q3⟩
        · exact absurd z (hno h q1)
    unfold tStep
    rcases on_cases (P := P) (q := q) hn with ⟨z1, z2⟩ | ⟨a, a1, a2, a3⟩
    · rw [if_pos (Or.inl z1), ih j hj]
      refine skip (fun h hh z => ?_)
      rcases z with z | z
      · exact z2 h hh z.1
      · exact z2 j hj z.2
    rcases on_cases (P := P) (q := q + 1) hn with ⟨z1, z2⟩ | ⟨b, b1, b2, b3⟩
    · rw [if_pos (Or.inr z1), ih j hj]
      refine skip (fun h hh z => ?_)
      rcases z with z | z
      · exact z2 j hj z.2
      · exact z2 h hh z.1
    have hab : ¬ a = b := by
      intro e
      rw [e, b3] at a3
      rw [n_eq (by omega) (by omega)] at a3
      omega
    rw [if_neg (by rw [a2, b2, n_m1 (by omega), n_m1 (by omega)]; exact fun z => z.elim id id), a2, b2, n_cl (by omega), n_cl (by omega)]
    by_cases ja : j = a
    · subst ja
      rw [show updI (updI Tq b (Tq b ||| F j b)) j (updI Tq b (Tq b ||| F j b) j ||| F b j) j = Tq j ||| F b j from by unfold updI; rw [if_pos rfl, if_neg hab], b_or, Bool.or_eq_true, ih j hj]
      constructor
      · rintro (⟨h, q1, q2, q3⟩ | z)
        · exact ⟨h, q1, adj_s.mpr (Or.inl q2), q3⟩
        · exact ⟨b, b1, adj_s.mpr (Or.inr (Or.inr ⟨b3, a3⟩)), z⟩
      · rintro ⟨h, q1, q2, q3⟩
        rcases adj_s.mp q2 with z | z | z
        · exact Or.inl ⟨h, q1, z, q3⟩
        · exfalso
          have := z.2
          rw [a3, n_eq (by omega) (by omega)] at this
          omega
        · have : h = b := peg_uniq HP q1 b1 (by omega) z.1 b3
          subst this
          exact Or.inr q3
    by_cases jb : j = b
    · subst jb
      rw [show updI (updI Tq j (Tq j ||| F a j)) a (updI Tq j (Tq j ||| F a j) a ||| F j a) j = Tq j ||| F a j from by unfold updI; rw [if_neg ja, if_pos rfl], b_or, Bool.or_eq_true, ih j hj]
      constructor
      · rintro (⟨h, q1, q2, q3⟩ | z)
        · exact ⟨h, q1, adj_s.mpr (Or.inl q2), q3⟩
        · exact ⟨a, a1, adj_s.mpr (Or.inr (Or.inl ⟨a3, b3⟩)), z⟩
      · rintro ⟨h, q1, q2, q3⟩
        rcases adj_s.mp q2 with z | z | z
        · exact Or.inl ⟨h, q1, z, q3⟩
        · have : h = a := peg_uniq HP q1 a1 (by omega) z.1 a3
          subst this
          exact Or.inr q3
        · exfalso
          have := z.2
          rw [b3, n_eq (by omega) (by omega)] at this
          omega
    · rw [show updI (updI Tq b (Tq b ||| F a b)) a (updI Tq b (Tq b ||| F a b) a ||| F b a) j = Tq j from by unfold updI; rw [if_neg ja, if_neg jb], ih j hj]
      refine skip (fun h hh z => ?_)
      rcases z with z | z
      · exact jb (peg_uniq HP hj b1 (by omega) z.2 b3)
      · exact ja (peg_uniq HP hj a1 (by omega) z.2 a3)
theorem n_dif : ∀ p, p < 10 → ∀ r, r < 10 → (nI p - nI r = 1 ↔ p = r + 1) := by decide +kernel
theorem adj_bsd {P : Nat → Int32} {n h j : Nat} (HP : PegS P n) (hh : h < n) (hj : j < n) : adj P 9 h j ↔ ¬ h = j ∧ bsd P h j := by
  constructor
  · rintro ⟨a, ha, z⟩
    rcases z with ⟨z1, z2⟩ | ⟨z1, z2⟩
    · refine ⟨?_, ?_, ?_, ?_⟩
      · intro e
        rw [e, z2, n_eq (by omega) (by omega)] at z1
        omega
      · rw [z1, n_m1 (by omega)]; exact id
      · rw [z2, n_m1 (by omega)]; exact id
      · rw [z1, z2]
        exact Or.inr ((n_dif _ (by omega) _ (by omega)).mpr rfl)
    · refine ⟨?_, ?_, ?_, ?_⟩
      · intro e
        rw [e, z2, n_eq (by omega) (by omega)] at z1
        omega
      · rw [z1, n_m1 (by omega)]; exact id
      · rw [z2, n_m1 (by omega)]; exact id
      · rw [z1, z2]
        exact Or.inl ((n_dif _ (by omega) _ (by omega)).mpr rfl)
  · rintro ⟨_, h1, h2, h3⟩
    rcases HP.1 h hh with z | ⟨p, p1, p2⟩
    · exact absurd z h1
    rcases HP.1 j hj with z | ⟨r, r1, r2⟩
    · exact absurd z h2
    rw [p2, r2] at h3
    rcases h3 with h3 | h3
    · have := (n_dif p p1 r r1).mp h3
      exact ⟨r, by omega, Or.inr ⟨by rw [p2, this], r2⟩⟩
    · have := (n_dif r r1 p p1).mp h3
      exact ⟨p, by omega, Or.inl ⟨p2, by rw [r2, this]⟩⟩
theorem near_all {F : Nat → Nat → Int32} {P : Nat → Int32} {n j : Nat} (HP : PegS P n) (hn : n ≤ 7) (hj : j < n) : nrG F P n j = tAll F (onF P n) j := by
  apply b_ext'
  intro i _
  unfold nrG tAll
  rw [nr_bits, tAll_bits HP hn i 9 (by omega) j hj]
  constructor
  · rintro ⟨h, q1, q2, q3, q4⟩
    exact ⟨h, q1, (adj_bsd HP q1 hj).mpr ⟨q2, q3⟩, q4⟩
  · rintro ⟨h, q1, q2, q3⟩
    have := (adj_bsd HP q1 hj).mp q2
    exact ⟨h, q1, this.1, this.2, q3⟩
/-- the cells of the row that an hour writes -/
def hrC (M M' : hp) : Prop := ∀ l, ¬ l = 4 → ¬ (14 ≤ l ∧ l < 21) → hI M' 128 l = hI M 128 l
theorem mHour {n : Nat} {D T P W : Nat → Int32} {hr rn : Int32} {L : Law} (X : RP M n D T P W hr rn L) (HP : PegS P n) (H : ∀ M', EX [147, 128] M M' → RP M' n D T P (stepG L D T P n rn (W, hr)).1 (stepG L D T P n rn (W, hr)).2 rn L → hrC M M' → Q (some (.int (lrnF (hourG L D T P n rn (W, hr)) n))) M') : Wp none d 232 0 [(0, .ref 126)] [] M Q := by
  refine mPassIt X (fun M' b X' fr => ?_)
  have e1 : lrnF (nrG (toldG L D T W hr rn) P n) n = lrnF (hourG L D T P n rn (W, hr)) n := by
    unfold lrnF
    exact fo_cong n 0 0 (fun j a _ q => by rw [near_all HP X.n7 (by omega)]; rfl)
  have e2 : (fun j => if j < n then W j ||| nrG (toldG L D T W hr rn) P n j else W j) = (stepG L D T P n rn (W, hr)).1 := by
    funext j
    show _ = if j < n then W j ||| hourG L D T P n rn (W, hr) j else W j
    by_cases c : j < n
    · rw [if_pos c, if_pos c, near_all HP X.n7 c]; rfl
    · rw [if_neg c, if_neg c]
  rw [e1]
  rw [e2] at X'
  exact H M' b X' fr
theorem live_loop {n N : Nat} {D T P : Nat → Int32} {rn : Int32} {L : Law} {M0 : hp} (hN : N < 1000) (HP : PegS P n) : ∀ (k i : Nat) (s : (Nat → Int32) × Int32) (M : hp), i + k = N → EX [147, 128] M0 M → RP M n D T P s.1 s.2 rn L → hrC M0 M → (∀ M', EX [147, 128] M0 M' → RP M' n D T P (itG L D T P n rn k s).1 (itG L D T P n rn k s).2 rn L → hrC M0 M' → Q none M') → Wp none d 235 2 [(0, .ref 126), (1, .int (nI N)), (2, .int (nI i))] [] M Q
  | 0, i, s, M, e, b, X, fr, H => by
    rw [k235_2, k235_4, if_pos (by rw [n_le (by omega) (by omega)]; omega), k235_18]
    exact H M b X fr
  | k + 1, i, s, M, e, b, X, fr, H => by
    rw [k235_2, k235_4, if_neg (by rw [n_le (by omega) (by omega)]; omega), k235_7, k235_8 (m_9 X.F)]
    refine mHour X HP (fun M' b' X' fr' => ?_)
    simp only [oN]
    rw [k235_11, nI_1]
    exact live_loop hN HP k (i + 1) (stepG L D T P n rn s) M' (by omega) (EX_trans b b') X' (fun l q q2 => (fr' l q q2).trans (fr l q q2)) H
theorem mLive {n N : Nat} {D T P W : Nat → Int32} {hr rn : Int32} {L : Law} (hN : N < 1000) (X : RP M n D T P W hr rn L) (HP : PegS P n) (H : ∀ M', EX [147, 128] M M' → RP M' n D T P (itG L D T P n rn N (W, hr)).1 (itG L D T P n rn N (W, hr)).2 rn L → hrC M M' → Q none M') : Wp none d 235 0 [(0, .ref 126), (1, .int (nI N))] [] M Q := by
  rw [k235_0]
  exact live_loop hN HP N 0 (W, hr) M (by omega) (EX_refl _ _) X (fun _ _ _ => rfl) H
theorem v306 {j : Nat} (h : j < 306) : vin (nI j) 306 = true := by
  rw [vin_n (by omega)]
  exact decide_eq_true h
theorem mKeep {k : Nat} (F : MF M) (hk : k < 18) : Wp none d 159 0 [(0, .ref 126), (1, .int (nI k))] [] M Q = Q none (sIs M 131 (17 * k) 17 (fun i => hI M 128 (4 + i))) := by
  have e17 : (17 : Int32) * nI k = nI (17 * k) := by rw [show (17 : Int32) = nI 17 from rfl, n_mul]
  have key := for_0 (W := fun i => Wp none d 159 2 [(0, .ref 126), (1, .int (nI k)), (2, .int (nI i))] [] (sIs M 131 (17 * k) i (fun i => hI M 128 (4 + i))) Q) (n := 17) (fun i hi => by
    have e4 : (4 : Int32) + nI i = nI (4 + i) := by rw [show (4 : Int32) = nI 4 from rfl, nI_add]
    have F' : MF (sIs M 131 (17 * k) i (fun i => hI M 128 (4 + i))) := F
    show Wp none d 159 2 [(0, .ref 126), (1, .int (nI k)), (2, .int (nI i))] [] (sIs M 131 (17 * k) i (fun i => hI M 128 (4 + i))) Q = Wp none d 159 2 [(0, .ref 126), (1, .int (nI k)), (2, .int (nI (i + 1)))] [] (sIs M 131 (17 * k) (i + 1) (fun i => hI M 128 (4 + i))) Q
    rw [k159_2, k159_5, show (17 : Int32) = nI 17 from rfl, if_neg (by rw [n_le (by omega) (by omega)]; omega), m159_8 F' (by rw [e4]; exact v54 (by omega)) (by rw [e17, nI_add]; exact v306 (by omega)), e17, nI_add, e4, n_cl (by omega), n_cl (by omega), hI_sIs_a (a' := 128) (by decide), sIs_1 M 131 (17 * k) i (fun i => hI M 128 (4 + i)), k159_27, nI_1]) 17 0 (by omega)
  rw [k159_0]
  have key2 : Wp none d 159 2 [(0, .ref 126), (1, .int (nI k)), (2, .int 0)] [] M Q = Wp none d 159 2 [(0, .ref 126), (1, .int (nI k)), (2, .int (nI 17))] [] (sIs M 131 (17 * k) 17 (fun i => hI M 128 (4 + i))) Q := by
    have := key
    simp only [sIs_0] at this
    exact this
  rw [key2, k159_2, k159_5, if_pos (by decide), k159_33]
theorem mPut {k : Nat} (F : MF M) (hk : k < 18) : Wp none d 160 0 [(0, .ref 126), (1, .int (nI k))] [] M Q = Q none (sIs M 128 4 17 (fun i => hI M 131 (17 * k + i))) := by
  have e17 : (17 : Int32) * nI k = nI (17 * k) := by rw [show (17 : Int32) = nI 17 from rfl, n_mul]
  have key := for_0 (W := fun i => Wp none d 160 2 [(0, .ref 126), (1, .int (nI k)), (2, .int (nI i))] [] (sIs M 128 4 i (fun i => hI M 131 (17 * k + i))) Q) (n := 17) (fun i hi => by
    have e4 : (4 : Int32) + nI i = nI (4 + i) := by rw [show (4 : Int32) = nI 4 from rfl, nI_add]
    have F' : MF (sIs M 128 4 i (fun i => hI M 131 (17 * k + i))) := F
    show Wp none d 160 2 [(0, .ref 126), (1, .int (nI k)), (2, .int (nI i))] [] (sIs M 128 4 i (fun i => hI M 131 (17 * k + i))) Q = Wp none d 160 2 [(0, .ref 126), (1, .int (nI k)), (2, .int (nI (i + 1)))] [] (sIs M 128 4 (i + 1) (fun i => hI M 131 (17 * k + i))) Q
    rw [k160_2, k160_5, show (17 : Int32) = nI 17 from rfl, if_neg (by rw [n_le (by omega) (by omega)]; omega), m160_8 F' (by rw [e17, nI_add]; exact v306 (by omega)) (by rw [e4]; exact v54 (by omega)), e17, nI_add, e4, n_cl (by omega), n_cl (by omega), hI_sIs_a (a' := 131) (by decide), sIs_1 M 128 4 i (fun i => hI M 131 (17 * k + i)), k160_27, nI_1]) 17 0 (by omega)
  rw [k160_0]
  have key2 : Wp none d 160 2 [(0, .ref 126), (1, .int (nI k)), (2, .int 0)] [] M Q = Wp none d 160 2 [(0, .ref 126), (1, .int (nI k)), (2, .int (nI 17))] [] (sIs M 128 4 17 (fun i => hI M 131 (17 * k + i))) Q := by
    have := key
    simp only [sIs_0] at this
    exact this
  rw [key2, k160_2, k160_5, if_pos (by decide), k160_33]
