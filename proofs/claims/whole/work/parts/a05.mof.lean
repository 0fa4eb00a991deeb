variable {d : Nat} {M : hp} {Q : Option Value → hp → Prop}
/-! of(), two(), on(), talkative() of the reference -/
def ofG (L : Law) (n : Nat) (D T P W : Nat → Int32) (hr rn : Int32) (i w : Int32) : Int32 := if hatOk n i then (if w = 0 then D i.toNatClampNeg else if w = 1 then T i.toNatClampNeg else if w = 2 then P i.toNatClampNeg else if w = 3 then W i.toNatClampNeg else if w = 4 then worthG L D T W hr rn i.toNatClampNeg else -1) else -1
theorem mOf {n : Nat} {i w : Int32} {D T P W : Nat → Int32} {hr rn : Int32} {L : Law} (X : RP M n D T P W hr rn L) (H : ∀ M', Qry M M' → Q (some (.int (ofG L n D T P W hr rn i w))) M') : Wp none d 177 0 [(0, .ref 126), (1, .int i), (2, .int w)] [] M Q := by
  have n7 := X.n7
  unfold ofG at H
  rw [k177_0 (m_9 X.F), o0_id X, k177_5, k177_7 (m_9 X.F), mIsHat X]
  simp only [oN]
  rw [k177_10]
  by_cases c : ¬ i < 0 ∧ ¬ nI n ≤ i
  case neg =>
    rw [if_neg (show ¬ hatOk n i from c)] at H
    rw [if_neg (by rw [bz_eq0]; exact fun q => q c), k177_13]
    exact H M (Qry_refl M)
  rw [if_pos (show hatOk n i from c)] at H
  obtain ⟨j, hj, rfl⟩ := hatOk_j n7 c
  rw [n_cl (by omega)] at H
  have e21 : (21 : Int32) + nI j = nI (21 + j) := by rw [show (21 : Int32) = nI 21 from rfl, nI_add]
  have e28 : (28 : Int32) + nI j = nI (28 + j) := by rw [show (28 : Int32) = nI 28 from rfl, nI_add]
  have e7 : (7 : Int32) + nI j = nI (7 + j) := by rw [show (7 : Int32) = nI 7 from rfl, nI_add]
  have e14 : (14 : Int32) + nI j = nI (14 + j) := by rw [show (14 : Int32) = nI 14 from rfl, nI_add]
  rw [if_pos (by rw [bz_eq0]; exact fun q => q c), k177_15, k177_16]
  by_cases c0 : w = 0
  · rw [if_pos c0] at H
    rw [if_pos c0, m177_52 X.F (by rw [e21]; exact v54 (by omega)), e21, n_cl (by omega), X.rD j (by omega)]
    exact H M (Qry_refl M)
  rw [if_neg c0] at H
  rw [if_neg c0]
  by_cases c1 : w = 1
  · rw [if_pos c1] at H
    rw [if_pos c1, m177_62 X.F (by rw [e28]; exact v54 (by omega)), e28, n_cl (by omega), X.rT j (by omega)]
    exact H M (Qry_refl M)
  rw [if_neg c1] at H
  rw [if_neg c1]
  by_cases c2 : w = 2
  · rw [if_pos c2] at H
    rw [if_pos c2, m177_72 X.F (by rw [e7]; exact v54 (by omega)), e7, n_cl (by omega), X.rP j (by omega)]
    exact H M (Qry_refl M)
  rw [if_neg c2] at H
  rw [if_neg c2]
  by_cases c3 : w = 3
  · rw [if_pos c3] at H
    rw [if_pos c3, m177_82 X.F (by rw [e14]; exact v54 (by omega)), e14, n_cl (by omega), X.rW j (by omega)]
    exact H M (Qry_refl M)
  rw [if_neg c3] at H
  rw [if_neg c3]
  by_cases c4 : w = 4
  · rw [if_pos c4] at H
    rw [if_pos c4, k177_92, k177_94 (m_9 X.F)]
    refine mWorthOf X (by omega) (fun M' b => ?_)
    simp only [oN]
    rw [k177_97]
    exact H M' (Qry_EC b)
  · rw [if_neg c4] at H
    rw [if_neg c4, k177_98]
    exact H M (Qry_refl M)
def twoG (L : Law) (n : Nat) (D T W : Nat → Int32) (hr rn : Int32) (i o w : Int32) : Int32 := if hatOk n i ∧ hatOk n o ∧ ¬ i = o ∧ 0 ≤ w ∧ w ≤ 8 then (if w = 0 then ansF L 0 (lwF i.toNatClampNeg D T W o (D o.toNatClampNeg) (-1) hr rn) else ansF L 2 (lwF i.toNatClampNeg D T W o (D o.toNatClampNeg) (w - 1) hr rn)) else -1
theorem ans2_or {L : Law} {e : Nat → Int32} (h : MLaw M L) : ansF L 2 e = 0 ∨ ansF L 2 e = 1 := by
  rcases mTF_2 (e := e) h with z | z
  · exact Or.inr z.2
  · exact Or.inl z.2
theorem mTwo {n : Nat} {i o w : Int32} {D T P W : Nat → Int32} {hr rn : Int32} {L : Law} (X : RP M n D T P W hr rn L) (H : ∀ M', Qry M M' → Q (some (.int (twoG L n D T W hr rn i o w))) M') : Wp none d 178 0 [(0, .ref 126), (1, .int i), (2, .int o), (3, .int w)] [] M Q := by
  have n7 := X.n7
  unfold twoG at H
  have bad : ¬ (hatOk n i ∧ hatOk n o ∧ ¬ i = o ∧ 0 ≤ w ∧ w ≤ 8) → Wp none d 178 38 [(0, .ref 126), (1, .int i), (2, .int o), (3, .int w)] [] M Q := by
    intro c
    rw [if_neg c] at H
    rw [k178_38]
    exact H M (Qry_refl M)
  rw [k178_0 (m_9 X.F), o0_id X, k178_5, k178_7 (m_9 X.F), mIsHat X]
  simp only [oN]
  rw [k178_10]
  by_cases c : ¬ i < 0 ∧ ¬ nI n ≤ i
  case neg =>
    rw [if_pos (by rw [bz_eq0]; exact c)]
    exact bad (fun q => c q.1)
  rw [if_neg (by rw [bz_eq0]; exact fun q => q c), k178_13, k178_15 (m_9 X.F), mIsHat X]
  simp only [oN]
  rw [k178_18]
  by_cases c2 : ¬ o < 0 ∧ ¬ nI n ≤ o
  case neg =>
    rw [if_pos (by rw [bz_eq0]; exact c2)]
    exact bad (fun q => c2 q.2.1)
  rw [if_neg (by rw [bz_eq0]; exact fun q => q c2), k178_21, k178_23]
  by_cases c3 : i = o
  · rw [if_pos c3]
    exact bad (fun q => q.2.2.1 c3)
  rw [if_neg c3, k178_26, k178_32, mIn, in_lit (x := 0) (y := 8) (a := 0) (b := 8) rfl rfl]
  simp only [oN]
  rw [k178_35]
  by_cases c4 : 0 ≤ w ∧ w ≤ 8
  case neg =>
    rw [if_neg (by rw [bz_eq0]; exact fun q => q c4)]
    exact bad (fun q => c4 q.2.2.2)
  rw [if_pos ⟨c, c2, c3, c4⟩] at H
  rw [if_pos (by rw [bz_eq0]; exact fun q => q c4), k178_40, k178_41]
  obtain ⟨j, hj, rfl⟩ := hatOk_j n7 c
  obtain ⟨u, hu, rfl⟩ := hatOk_j n7 c2
  rw [n_cl (by omega), n_cl (by omega)] at H
  by_cases c5 : w = 0
  · rw [if_pos c5] at H
    rw [if_neg (fun q => q c5), k178_44, k178_47 (m_9 X.F)]
    refine mTells X (by omega) (by omega) (fun M' b => ?_)
    simp only [oN]
    rw [k178_50, k178_70]
    exact H M' (Qry_EC b)
  · rw [if_neg c5] at H
    rw [if_pos c5, k178_53, k178_59 (m_9 X.F)]
    refine mBarred X (by omega) (by omega) (fun M' b => ?_)
    have H1 := H M' (Qry_EC b)
    simp only [oN]
    rw [k178_62]
    rcases ans2_or (e := lwF j D T W (nI u) (D u) (w - 1) hr rn) X.law with z | z
    · rw [if_pos z, k178_69, k178_70]
      rw [z] at H1
      exact H1
    · rw [z, if_neg (by decide), k178_65, k178_70]
      rw [z] at H1
      exact H1
theorem hat_neg {n : Nat} {P : Nat → Int32} {p : Int32} (h : p < 0) : hatF n P p = -1 := by
  unfold hatF
  rw [if_pos h]
theorem mOn {n : Nat} {p : Int32} {D T P W : Nat → Int32} {hr rn : Int32} {L : Law} (X : RP M n D T P W hr rn L) (HP : PegS P n) (H : ∀ M', Qry M M' → Q (some (.int (hatF n P p))) M') : Wp none d 179 0 [(0, .ref 126), (1, .int p)] [] M Q := by
  have n7 := X.n7
  have H1 := H M (Qry_refl M)
  rw [k179_0 (m_9 X.F), o0_id X, k179_5, k179_6, mIsPeg]
  simp only [oN]
  rw [k179_9]
  by_cases c : ¬ p < 0 ∧ ¬ 10 ≤ p
  · rw [if_neg (by rw [bz_eq0]; exact fun q => q c), k179_12, k179_14 (m_9 X.F), mOnPeg X]
    simp only [oN]
    obtain ⟨q, hq, rfl⟩ := (vin_of2 (n := 10) c.1 c.2 (by omega)).2
    rw [hat_last HP n7 hq, k179_17, k179_21]
    exact H1
  · rw [if_pos (by rw [bz_eq0]; exact c), k179_20, k179_21]
    have : hatF n P p = -1 := by
      by_cases c2 : p < 0
      · exact hat_neg c2
      · rcases hatF_cases n P p with z | ⟨j, hj, z⟩
        · exact z
        · exfalso
          have y := hatF_at z n7 (by omega)
          rcases HP.1 j hj with w | ⟨q, q1, q2⟩
          · rw [← y.2, w] at c2
            exact c2 (by decide)
          · apply c
            rw [← y.2, q2]
            refine ⟨nI_pos (by omega), ?_⟩
            show ¬ nI 10 ≤ nI q
            rw [n_le (by omega) (by omega)]
            omega
    rw [this] at H1
    exact H1
/-! sums over those that hang beside -/
theorem sum_last {P : Nat → Int32} {n q : Nat} (HP : PegS P n) (hn : n ≤ 7) (hq : q ≤ 10) (f : Nat → Int32) : ∀ m, m ≤ n → fo (fun o s => s + (if P o = nI q then f o else 0)) 0 m 0 = if lastH P q m = -1 then 0 else f (lastH P q m).toNatClampNeg
  | 0, _ => by
    show (0 : Int32) = if (-1 : Int32) = -1 then 0 else _
    rw [if_pos rfl]
  | m + 1, h => by
    have ih := sum_last HP hn hq f m (by omega)
    rw [fo_end, ih, lastH_s, show 0 + m = m by omega]
    by_cases c : P m = nI q
    · rw [if_pos c, if_pos c, if_neg (c := nI m = -1) (by rw [n_m1 (by omega)]; exact id), n_cl (by omega)]
      rcases lastH_cases P q m with z | ⟨j, j1, j2, j3⟩
      · rw [if_pos z]
        exact Int32.zero_add _
      · have := peg_uniq HP (by omega) (by omega) hq j3 c
        omega
    · rw [if_neg c, if_neg c]
      exact Int32.add_zero _
theorem hat_on10 {P : Nat → Int32} {n q : Nat} (HP : PegS P n) (hn : n ≤ 7) (hq : q ≤ 10) : lastH P q n = hatF n P (nI q) := by
  by_cases c : q < 10
  · exact hat_last HP hn c
  · have : q = 10 := by omega
    subst this
    have no : ∀ j, j < n → ¬ P j = nI 10 := by
      intro j hj e
      rcases HP.1 j hj with z | ⟨r, r1, r2⟩
      · rw [z] at e
        exact absurd e (by decide)
      · rw [r2, n_eq (by omega) (by omega)] at e
        omega
    rcases lastH_cases P 10 n with z | ⟨j, j1, j2, j3⟩
    · rw [z]
      rcases hatF_cases n P (nI 10) with y | ⟨j, hj, y⟩
      · exact y.symm
      · exact absurd (hatF_at y hn (by omega)).2 (no j hj)
    · exact absurd j3 (no j j1)
def atG (f : Nat → Int32) (x : Int32) : Int32 := if x = -1 then 0 else f x.toNatClampNeg
theorem sum_add (f g h : Nat → Int32) (e : ∀ i, h i = f i + g i) : ∀ m, fo (fun o s => s + h o) 0 m 0 = fo (fun o s => s + f o) 0 m 0 + fo (fun o s => s + g o) 0 m 0
  | 0 => rfl
  | m + 1 => by
    rw [fo_end, fo_end, fo_end, sum_add f g h e m, e]
    generalize fo (fun o s => s + f o) 0 m 0 = a
    generalize fo (fun o s => s + g o) 0 m 0 = b
    rw [Int32.add_assoc, Int32.add_assoc, ← Int32.add_assoc b, Int32.add_comm b, Int32.add_assoc]
theorem fo_z : ∀ (k i : Nat) (s : Int32), fo (fun _ s => s + 0) i k s = s
  | 0, _, _ => rfl
  | k + 1, i, s => by
    show fo _ (i + 1) k (s + 0) = s
    rw [Int32.add_zero]
    exact fo_z k (i + 1) s
theorem near_sum {P : Nat → Int32} {n h : Nat} (HP : PegS P n) (hn : n ≤ 7) (hh : h < n) (f : Nat → Int32) : fo (fun o s => s + (if ¬ o = h ∧ bsd P h o then f o else 0)) 0 n 0 = if P h = -1 then 0 else atG f (hatF n P (P h - 1)) + atG f (hatF n P (P h + 1)) := by
  rcases HP.1 h hh with z | ⟨q, q1, q2⟩
  · rw [if_pos z]
    rw [fo_cong (g := fun _ s => s + 0) n 0 0 (fun o s _ _ => by rw [if_neg (fun w => w.2.1 z)])]
    exact fo_z n 0 0
  · rw [if_neg (by rw [q2, n_m1 (by omega)]; exact id)]
    have key : ∀ o s : Nat, o < n → (if ¬ o = h ∧ bsd P h o then f o else 0) = (if 0 < q ∧ P o = nI (q - 1) then f o else 0) + (if P o = nI (q + 1) then f o else 0) := by
      intro o _ ho
      by_cases c1 : P o = nI (q + 1)
      · have c2 : ¬ (0 < q ∧ P o = nI (q - 1)) := by
          intro w
          have := w.2
          rw [c1, n_eq (by omega) (by omega)] at this
          omega
        have c3 : ¬ o = h := by
          intro e
          rw [e, q2, n_eq (by omega) (by omega)] at c1
          omega
        have hq9 : q + 1 < 10 := by
          rcases HP.1 o ho with w | ⟨r, r1, r2⟩
          · rw [w] at c1
            have := n_m1 (a := q + 1) (by omega)
            rw [← c1] at this
            exact (this.mp rfl).elim
          · rw [r2, n_eq (by omega) (by omega)] at c1
            omega
        rw [if_pos c1, if_neg c2, if_pos ⟨c3, by rw [q2, n_m1 (by omega)]; exact id, by rw [c1, n_m1 (by omega)]; exact id, Or.inr (by rw [c1, q2]; exact (n_dif _ hq9 _ q1).mpr rfl)⟩]
        exact (Int32.zero_add _).symm
      · rw [if_neg c1]
        by_cases c2 : 0 < q ∧ P o = nI (q - 1)
        · have c3 : ¬ o = h := by
            intro e
            have := c2.2
            rw [e, q2, n_eq (by omega) (by omega)] at this
            omega
          rw [if_pos c2, if_pos ⟨c3, by rw [q2, n_m1 (by omega)]; exact id, by rw [c2.2, n_m1 (by omega)]; exact id, Or.inl (by rw [c2.2, q2]; exact (n_dif _ q1 _ (by omega)).mpr (by omega))⟩]
          exact (Int32.add_zero _).symm
        · rw [if_neg c2, if_neg]
          · rfl
          · rintro ⟨w1, w2, w3, w4⟩
            rcases HP.1 o ho with w | ⟨r, r1, r2⟩
            · exact w3 w
            · rw [r2, q2] at w4
              rcases w4 with w4 | w4
              · have := (n_dif _ q1 _ r1).mp w4
                exact c2 ⟨by omega, by rw [r2, this]; congr 1⟩
              · have := (n_dif _ r1 _ q1).mp w4
                exact c1 (by rw [r2, this])
    rw [fo_cong (g := fun o s => s + ((if 0 < q ∧ P o = nI (q - 1) then f o else 0) + (if P o = nI (q + 1) then f o else 0))) n 0 0 (fun o s _ w => by rw [key o 0 (by omega)])]
    rw [sum_add (fun o => if 0 < q ∧ P o = nI (q - 1) then f o else 0) (fun o => if P o = nI (q + 1) then f o else 0) (fun o => (if 0 < q ∧ P o = nI (q - 1) then f o else 0) + (if P o = nI (q + 1) then f o else 0)) (fun _ => rfl) n]
    have r2 : fo (fun o s => s + (if P o = nI (q + 1) then f o else 0)) 0 n 0 = atG f (hatF n P (nI q + 1)) := by
      rw [sum_last HP hn (by omega) f n (Nat.le_refl n), hat_on10 HP hn (by omega), nI_1]
      rfl
    have r1 : fo (fun o s => s + (if 0 < q ∧ P o = nI (q - 1) then f o else 0)) 0 n 0 = atG f (hatF n P (nI q - 1)) := by
      by_cases c : 0 < q
      · rw [fo_cong (g := fun o s => s + (if P o = nI (q - 1) then f o else 0)) n 0 0 (fun o s _ _ => by
          by_cases c2 : P o = nI (q - 1)
          · rw [if_pos ⟨c, c2⟩, if_pos c2]
          · rw [if_neg (fun w => c2 w.2), if_neg c2])]
        rw [sum_last HP hn (by omega) f n (Nat.le_refl n), hat_on10 HP hn (by omega), show nI q - 1 = nI (q - 1) from n_subl (n := 1) c]
        rfl
      · have : q = 0 := by omega
        subst this
        rw [fo_cong (g := fun _ s => s + 0) n 0 0 (fun o s _ _ => by rw [if_neg (fun w => c w.1)]), fo_z, show nI 0 - 1 = -1 from by decide, hat_neg (by decide)]
        rfl
    rw [r1, r2, q2]
