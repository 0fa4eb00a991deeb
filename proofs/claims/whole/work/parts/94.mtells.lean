variable {d : Nat} {M : hp} {Q : Option Value → hp → Prop}
/-! the reference's picture of a hall; what is told, weighed, barred -/
theorem b_1 : ∀ i, i < 32 → bt 1 i = decide (i = 0) := by decide +kernel
theorem tst {x : Int32} {t : Nat} (ht : t < 32) : ((x >>> (nI t &&& 31)) &&& 1 = 1) ↔ bt x t = true := by
  constructor
  · intro h
    have : bt ((x >>> (nI t &&& 31)) &&& 1) 0 = bt 1 0 := by rw [h]
    rw [b_and, b_sshr t ht x (by omega), if_pos (by omega), b_1 0 (by omega)] at this
    simpa using this
  · intro h
    apply b_ext
    intro i hi
    rw [b_and, b_sshr t ht x hi, b_1 i hi]
    by_cases c : i = 0
    · subst c
      rw [if_pos (by omega)]
      simp [h]
    · simp [c]
theorem tst_open {x y : Int32} {t : Nat} (ht : t < 32) : (((x &&& (y ^^^ (-1))) >>> (nI t &&& 31)) &&& 1 = 1) ↔ ((x >>> (nI t &&& 31)) &&& 1 = 1) ∧ ¬ ((y >>> (nI t &&& 31)) &&& 1 = 1) := by
  rw [tst ht, tst ht, tst ht, b_and, b_xor, b_m1 t ht]
  cases bt x t <;> cases bt y t <;> simp
/-- the reference's picture of a hall -/
def RP (M : hp) (n : Nat) (D T P W : Nat → Int32) (hr rn : Int32) (L : Law) : Prop := MF M ∧ hI M 126 20 = 0 ∧ hI M 126 0 = 0 ∧ MLaw M L ∧ hI M 128 0 = nI n ∧ n ≤ 7 ∧ (∀ j, j < 7 → hI M 128 (21 + j) = D j) ∧ (∀ j, j < 7 → hI M 128 (28 + j) = T j) ∧ (∀ j, j < 7 → hI M 128 (7 + j) = P j) ∧ (∀ j, j < 7 → hI M 128 (14 + j) = W j) ∧ hI M 128 4 = hr ∧ hI M 128 6 = rn
theorem RP.F {M : hp} {n : Nat} {D T P W : Nat → Int32} {hr rn : Int32} {L : Law} (X : RP M n D T P W hr rn L) : MF M := X.1
theorem RP.o20 {M : hp} {n : Nat} {D T P W : Nat → Int32} {hr rn : Int32} {L : Law} (X : RP M n D T P W hr rn L) : hI M 126 20 = 0 := X.2.1
theorem RP.o0 {M : hp} {n : Nat} {D T P W : Nat → Int32} {hr rn : Int32} {L : Law} (X : RP M n D T P W hr rn L) : hI M 126 0 = 0 := X.2.2.1
theorem RP.law {M : hp} {n : Nat} {D T P W : Nat → Int32} {hr rn : Int32} {L : Law} (X : RP M n D T P W hr rn L) : MLaw M L := X.2.2.2.1
theorem RP.n0 {M : hp} {n : Nat} {D T P W : Nat → Int32} {hr rn : Int32} {L : Law} (X : RP M n D T P W hr rn L) : hI M 128 0 = nI n := X.2.2.2.2.1
theorem RP.n7 {M : hp} {n : Nat} {D T P W : Nat → Int32} {hr rn : Int32} {L : Law} (X : RP M n D T P W hr rn L) : n ≤ 7 := X.2.2.2.2.2.1
theorem RP.rD {M : hp} {n : Nat} {D T P W : Nat → Int32} {hr rn : Int32} {L : Law} (X : RP M n D T P W hr rn L) : ∀ j, j < 7 → hI M 128 (21 + j) = D j := X.2.2.2.2.2.2.1
theorem RP.rT {M : hp} {n : Nat} {D T P W : Nat → Int32} {hr rn : Int32} {L : Law} (X : RP M n D T P W hr rn L) : ∀ j, j < 7 → hI M 128 (28 + j) = T j := X.2.2.2.2.2.2.2.1
theorem RP.rP {M : hp} {n : Nat} {D T P W : Nat → Int32} {hr rn : Int32} {L : Law} (X : RP M n D T P W hr rn L) : ∀ j, j < 7 → hI M 128 (7 + j) = P j := X.2.2.2.2.2.2.2.2.1
theorem RP.rW {M : hp} {n : Nat} {D T P W : Nat → Int32} {hr rn : Int32} {L : Law} (X : RP M n D T P W hr rn L) : ∀ j, j < 7 → hI M 128 (14 + j) = W j := X.2.2.2.2.2.2.2.2.2.1
theorem RP.rh {M : hp} {n : Nat} {D T P W : Nat → Int32} {hr rn : Int32} {L : Law} (X : RP M n D T P W hr rn L) : hI M 128 4 = hr := X.2.2.2.2.2.2.2.2.2.2.1
theorem RP.rr {M : hp} {n : Nat} {D T P W : Nat → Int32} {hr rn : Int32} {L : Law} (X : RP M n D T P W hr rn L) : hI M 128 6 = rn := X.2.2.2.2.2.2.2.2.2.2.2
theorem MLaw_128 {M' : hp} {L : Law} (h : MLaw M L) (e : hI M' 128 = hI M 128) : MLaw M' L := by
  cases L with
  | none => exact (congrFun e 3).trans h
  | some y =>
    obtain ⟨nc, cf⟩ := y
    obtain ⟨n, len, h3, hn6, hlen, hnc, h1, hr⟩ : ∃ n len, hI M 128 3 = nI n ∧ n < 6 ∧ len ≤ 400 ∧ nc ≤ 12 ∧ hI M 128 (47 + 900 * n + 1) = nI nc ∧ ∀ i, i < nc → rowR M (47 + 900 * n) len i (cf i) := h
    exact ⟨n, len, by rw [e]; exact h3, hn6, hlen, hnc, by rw [e]; exact h1, fun i hi => rowR_128 (hr i hi) e⟩
theorem RP_of {M' : hp} {n : Nat} {D T P W : Nat → Int32} {hr rn : Int32} {L : Law} (X : RP M n D T P W hr rn L) (F : MF M') (e : hI M' 128 = hI M 128) (e20 : hI M' 126 20 = 0) (e0 : hI M' 126 0 = 0) : RP M' n D T P W hr rn L :=
  ⟨F, e20, e0, MLaw_128 X.law e, by rw [e]; exact X.n0, X.n7, by rw [e]; exact X.rD, by rw [e]; exact X.rT, by rw [e]; exact X.rP, by rw [e]; exact X.rW, by rw [e]; exact X.rh, by rw [e]; exact X.rr⟩
theorem RP_EC {M' : hp} {n : Nat} {D T P W : Nat → Int32} {hr rn : Int32} {L : Law} (X : RP M n D T P W hr rn L) (b : EC M M') : RP M' n D T P W hr rn L :=
  RP_of X (MF_agr X.F b.1) (agr_I b.1 (by decide)) ((b.2.1 20 (by decide) (by decide)).trans X.o20) ((b.2.1 0 (by decide) (by decide)).trans X.o0)
theorem lwF_cong {j : Nat} {D T W D' T' W' : Nat → Int32} {oth ko ko' th hr rn : Int32} (hD : D j = D' j) (hT : T j = T' j) (hW : W j = W' j) (hk : ko = ko') : lwF j D T W oth ko th hr rn = lwF j D' T' W' oth ko' th hr rn := by
  funext k
  unfold lwF
  rw [hD, hT, hW, hk]
theorem mEnv_1 {n h o : Nat} {D T P W : Nat → Int32} {hr rn th : Int32} {L : Law} (X : RP M n D T P W hr rn L) (hh : h < 7) (ho : o < 7) : mEnv M h (nI o) th = lwF h D T W (nI o) (D o) th hr rn := by
  unfold mEnv
  rw [X.rh, X.rr, if_neg (by rw [n_m1 (by omega)]; exact id), n_cl (by omega)]
  exact lwF_cong (X.rD h hh) (X.rT h hh) (X.rW h hh) (X.rD o ho)
theorem mEnv_0 {n h : Nat} {D T P W : Nat → Int32} {hr rn th : Int32} {L : Law} (X : RP M n D T P W hr rn L) (hh : h < 7) : mEnv M h (-1) th = lwF h D T W (-1) (-1) th hr rn := by
  unfold mEnv
  rw [X.rh, X.rr, if_pos rfl]
  exact lwF_cong (X.rD h hh) (X.rT h hh) (X.rW h hh) rfl
theorem mBounded {v : Int64} {hi : Int32} (h0 : 0 ≤ hi) : Wp none d 154 0 [(0, .long v), (2, .int 0), (3, .int hi)] [] M Q = Q (some (.int (bnd hi v))) M := by
  have e0 : (0 : Int32).toInt64 = 0 := rfl
  have hh : (0 : Int64) ≤ hi.toInt64 := by rw [← e0, fa_wide_le]; exact h0
  rw [k154_0, k154_4]
  simp only [lg_cmp_ge, e0]
  unfold bnd
  by_cases c : v < 0
  · rw [if_neg (by rw [fa_le64]; rw [fa_lt64] at c; omega), k154_7, k154_24]
    rw [if_neg (c := hi.toInt64 < v) (by rw [fa_le64] at hh; rw [fa_lt64] at c ⊢; omega), if_pos c]
    rfl
  · rw [if_pos (by rw [fa_le64]; rw [fa_lt64] at c; omega), k154_11, k154_15]
    simp only [lg_cmp_le]
    by_cases c2 : hi.toInt64 < v
    · rw [if_neg (by rw [fa_le64]; rw [fa_lt64] at c2; omega), k154_18, k154_24, if_pos c2, if_neg (by rw [fa_le64] at hh; rw [fa_lt64]; omega), Int32.toInt32_toInt64]
    · rw [if_pos (by rw [fa_le64]; rw [fa_lt64] at c2; omega), k154_22, k154_24, if_neg c2, if_neg c]
theorem mTF_0 {L : Law} {e : Nat → Int32} : bnd 8 (mTF L 0 e 1) = ansF L 0 e := by
  cases L with
  | none => rfl
  | some y =>
    show bnd 8 ((ansI y.2 0 e y.1).getD 1) = ansV 0 (ansI y.2 0 e y.1)
    cases ansI y.2 0 e y.1 with
    | none => rfl
    | some v => rfl
theorem mTF_1 {L : Law} {e : Nat → Int32} : bnd 99 (mTF L 1 e 1) = ansF L 1 e := by
  cases L with
  | none => rfl
  | some y =>
    show bnd 99 ((ansI y.2 1 e y.1).getD 1) = ansV 1 (ansI y.2 1 e y.1)
    cases ansI y.2 1 e y.1 with
    | none => rfl
    | some v => rfl
theorem ansI_bars {cf : Nat → Cls} {e : Nat → Int32} : ∀ n, (∀ i, i < n → (cf i).1 = nI 2 → (cf i).2.1 = oneD) → ansI cf 2 e n = none ∨ ansI cf 2 e n = some 1
  | 0, _ => Or.inl rfl
  | n + 1, h => by
    unfold ansI
    by_cases c : (cf n).1 = 2 ∧ ¬ ((cf n).2.2 e).getD 0 = 0 ∧ ¬ (cf n).2.1 e = none
    · rw [if_pos c, h n (by omega) c.1]
      exact Or.inr rfl
    · rw [if_neg c]
      exact ansI_bars n (fun i hi => h i (by omega))
theorem mTF_2 {L : Law} {e : Nat → Int32} (h : MLaw M L) : (mTF L 2 e 0 = 1 ∧ ansF L 2 e = 1) ∨ (¬ mTF L 2 e 0 = 1 ∧ ansF L 2 e = 0) := by
  cases L with
  | none => exact Or.inr ⟨(by decide : ¬ (0 : Int64) = 1), rfl⟩
  | some y =>
    obtain ⟨nc, cf⟩ := y
    obtain ⟨n, len, h3, hn6, hlen, hnc, h1, hr⟩ : ∃ n len, hI M 128 3 = nI n ∧ n < 6 ∧ len ≤ 400 ∧ nc ≤ 12 ∧ hI M 128 (47 + 900 * n + 1) = nI nc ∧ ∀ i, i < nc → rowR M (47 + 900 * n) len i (cf i) := h
    have hb : ∀ i, i < nc → (cf i).1 = nI 2 → (cf i).2.1 = oneD := by
      intro i hi q
      rcases (hr i hi).2.1 with z | z
      · exact z.2
      · exact absurd q z.1
    show ((ansI cf 2 e nc).getD 0 = 1 ∧ ansV 2 (ansI cf 2 e nc) = 1) ∨ (¬ (ansI cf 2 e nc).getD 0 = 1 ∧ ansV 2 (ansI cf 2 e nc) = 0)
    rcases ansI_bars nc hb (e := e) with z | z
    · rw [z]
      exact Or.inr ⟨by decide, rfl⟩
    · rw [z]
      exact Or.inl ⟨rfl, rfl⟩
theorem mTells {n h o : Nat} {D T P W : Nat → Int32} {hr rn : Int32} {L : Law} (X : RP M n D T P W hr rn L) (hh : h < 7) (ho : o < 7) (H : ∀ M', EC M M' → Q (some (.int (ansF L 0 (lwF h D T W (nI o) (D o) (-1) hr rn)))) M') : Wp none d 220 0 [(0, .ref 126), (1, .int (nI h)), (2, .int (nI o))] [] M Q := by
  rw [k220_0, k220_6 (m_9 X.F)]
  refine mTold X.F X.o20 X.law hh (Or.inr ⟨o, ho, rfl⟩) (fun M' b => ?_)
  simp only [oN]
  rw [k220_9, k220_12, mBounded (by decide), mTF_0, mEnv_1 X hh ho]
  simp only [oN]
  rw [k220_15]
  exact H M' b
theorem mBarred {n h o : Nat} {D T P W : Nat → Int32} {hr rn th : Int32} {L : Law} (X : RP M n D T P W hr rn L) (hh : h < 7) (ho : o < 7) (H : ∀ M', EC M M' → Q (some (.int (ansF L 2 (lwF h D T W (nI o) (D o) th hr rn)))) M') : Wp none d 221 0 [(0, .ref 126), (1, .int (nI h)), (2, .int (nI o)), (3, .int th)] [] M Q := by
  rw [k221_0, k221_6 (m_9 X.F)]
  refine mTold X.F X.o20 X.law hh (Or.inr ⟨o, ho, rfl⟩) (fun M' b => ?_)
  have X' := RP_EC X b
  simp only [oN]
  rw [k221_9, k221_11]
  simp only [lg_cmp_eq]
  have hH := H M' b
  rw [← mEnv_1 X hh ho] at hH
  rcases mTF_2 (e := mEnv M h (nI o) th) X.law with z | z
  · rw [if_neg (fun q => q z.1), k221_14, k221_19 (by decide), ← z.2]
    exact hH
  · rw [if_pos z.1, k221_18, k221_19 (by decide), ← z.2]
    exact hH
theorem mWeighs {n h : Nat} {D T P W : Nat → Int32} {hr rn th : Int32} {L : Law} (X : RP M n D T P W hr rn L) (hh : h < 7) (H : ∀ M', EC M M' → Q (some (.int (ansF L 1 (lwF h D T W (-1) (-1) th hr rn)))) M') : Wp none d 222 0 [(0, .ref 126), (1, .int (nI h)), (2, .int th)] [] M Q := by
  rw [k222_0, k222_6 (m_9 X.F)]
  refine mTold X.F X.o20 X.law hh (Or.inl rfl) (fun M' b => ?_)
  simp only [oN]
  rw [k222_9, k222_12, mBounded (by decide), mTF_1, mEnv_0 X hh]
  simp only [oN]
  rw [k222_15]
  exact H M' b
theorem o0_id {n : Nat} {D T P W : Nat → Int32} {hr rn : Int32} {L : Law} (X : RP M n D T P W hr rn L) : sI M 126 0 0 = M := by
  have := sI_id M 126 0
  rw [X.o0] at this
  exact this
