variable {d : Nat} {M : hp} {Q : Option Value → hp → Prop}
/-! learns(), still() and pegFor() of the reference -/
abbrev knw (W : Nat → Int32) (j : Nat) (t : Int32) : Prop := (W j >>> (t &&& 31)) &&& 1 = 1
def lnF (L : Law) (D T P : Nat → Int32) (n : Nat) (rn : Int32) (j : Nat) (t : Int32) : Nat → Nat → (Nat → Int32) × Int32 → Int32
  | 0, i, s => if knw s.1 j t then nI i else -1
  | k + 1, i, s => if knw s.1 j t then nI i else lnF L D T P n rn j t k (i + 1) (stepG L D T P n rn s)
abbrev thOk (t : Int32) : Prop := ¬ t < 0 ∧ ¬ 8 ≤ t
def learnsF (L : Law) (n : Nat) (D T P W : Nat → Int32) (hr rn : Int32) (i t : Int32) : Int32 := if hatOk n i ∧ thOk t then lnF L D T P n rn i.toNatClampNeg t 60 0 (W, hr) else -1
theorem ln_end {M0 : hp} {n j : Nat} {t v : Int32} {D T P W : Nat → Int32} {hr rn : Int32} {L : Law} (hj : j < 7) (X : RP M n D T P W hr rn L) (p : PpR M0 M) (H : ∀ M', Qry M0 M' → Q (some (.int (if knw W j t then v else -1))) M') : Wp none d 237 56 [(0, .ref 126), (1, .int (nI j)), (2, .int t), (3, .int v)] [] M Q := by
  rw [k237_56, k237_59 (m_9 X.F), mKnows X hj]
  simp only [oN]
  rw [k237_62]
  by_cases c : (W j >>> (t &&& 31)) &&& 1 = 1
  · rw [if_pos (show knw W j t from c)] at H
    rw [if_neg (by rw [bz_eq0]; exact fun q => q c), k237_65, k237_70, k237_75 (m_9 X.F)]
    refine mPut16 X.F p (fun M3 q3 _ => ?_)
    simp only [oZ]
    rw [k237_78]
    exact H M3 q3
  · rw [if_neg (show ¬ knw W j t from c)] at H
    rw [if_pos (by rw [bz_eq0]; exact c), k237_69, k237_70, k237_75 (m_9 X.F)]
    refine mPut16 X.F p (fun M3 q3 _ => ?_)
    simp only [oZ]
    rw [k237_78]
    exact H M3 q3
theorem ln_loop {M0 : hp} {n j : Nat} {t : Int32} {D T P : Nat → Int32} {rn : Int32} {L : Law} (hj : j < 7) (HP : PegS P n) : ∀ (k i : Nat) (s : (Nat → Int32) × Int32) (M : hp), i + k = 60 → PpR M0 M → RP M n D T P s.1 s.2 rn L → (∀ M', Qry M0 M' → Q (some (.int (lnF L D T P n rn j t k i s))) M') → Wp none d 237 30 [(0, .ref 126), (1, .int (nI j)), (2, .int t), (3, .int (nI i))] [] M Q
  | 0, i, s, M, e, p, X, H => by
    rw [k237_30, k237_33, show (60 : Int32) = nI 60 from rfl, if_pos (by rw [n_le (by omega) (by omega)]; omega)]
    exact ln_end hj X p H
  | k + 1, i, s, M, e, p, X, H => by
    rw [k237_30, k237_33, show (60 : Int32) = nI 60 from rfl, if_neg (by rw [n_le (by omega) (by omega)]; omega), k237_36, k237_39 (m_9 X.F), mKnows X hj]
    simp only [oN]
    rw [k237_42]
    unfold lnF at H
    by_cases c : (s.1 j >>> (t &&& 31)) &&& 1 = 1
    · rw [if_pos (by rw [bz_eq0]; exact fun q => q c)]
      rw [if_pos (show knw s.1 j t from c)] at H
      exact ln_end hj X p (fun M' q => by rw [if_pos (show knw s.1 j t from c)]; exact H M' q)
    · rw [if_neg (by rw [bz_eq0]; exact fun q => q c), k237_45, k237_46 (m_9 X.F)]
      rw [if_neg (show ¬ knw s.1 j t from c)] at H
      refine mHour X HP (fun M' b' X' fr' => ?_)
      simp only [oN]
      rw [k237_49, nI_1]
      exact ln_loop hj HP k (i + 1) (stepG L D T P n rn s) M' (by omega) (PpR_hour p b' fr') X' H
theorem mLearns {n : Nat} {i t : Int32} {D T P W : Nat → Int32} {hr rn : Int32} {L : Law} (X : RP M n D T P W hr rn L) (HP : PegS P n) (H : ∀ M', Qry M M' → Q (some (.int (learnsF L n D T P W hr rn i t))) M') : Wp none d 237 0 [(0, .ref 126), (1, .int i), (2, .int t)] [] M Q := by
  have n7 := X.n7
  unfold learnsF at H
  rw [k237_0 (m_9 X.F), o0_id X, k237_5, k237_7 (m_9 X.F), mIsHat X]
  simp only [oN]
  rw [k237_10]
  by_cases c : ¬ i < 0 ∧ ¬ nI n ≤ i
  · rw [if_neg (by rw [bz_eq0]; exact fun q => q c), k237_13, k237_14, mIsThought]
    simp only [oN]
    rw [k237_17]
    by_cases c2 : ¬ t < 0 ∧ ¬ 8 ≤ t
    · rw [if_pos ⟨c, c2⟩] at H
      obtain ⟨j, hj, rfl⟩ := hatOk_j n7 c
      rw [n_cl (by omega)] at H
      rw [if_pos (by rw [bz_eq0]; exact fun q => q c2), k237_22, k237_25 (m_9 X.F)]
      refine mKeep16 X (fun M1 p1 X1 q1 => ?_)
      simp only [oZ]
      rw [k237_28]
      exact ln_loop (by omega) HP 60 0 (W, hr) M1 (by omega) p1 X1 H
    · rw [if_neg (fun q => c2 q.2)] at H
      rw [if_neg (by rw [bz_eq0]; exact fun q => q c2), k237_20]
      exact H M (Qry_refl M)
  · rw [if_neg (fun q => c q.1)] at H
    rw [if_pos (by rw [bz_eq0]; exact c), k237_20]
    exact H M (Qry_refl M)
def stF (L : Law) (D T P : Nat → Int32) (n : Nat) (rn : Int32) : Nat → Nat → Int32 → (Nat → Int32) × Int32 → Int32
  | 0, _, v, _ => v
  | k + 1, i, v, s => stF L D T P n rn k (i + 1) (if lrnF (hourG L D T P n rn s) n ≤ 0 then v else nI i) (stepG L D T P n rn s)
theorem st_loop {M0 : hp} {n : Nat} {D T P : Nat → Int32} {rn : Int32} {L : Law} (HP : PegS P n) : ∀ (k i : Nat) (v : Int32) (s : (Nat → Int32) × Int32) (M : hp), i + k = 61 → PpR M0 M → RP M n D T P s.1 s.2 rn L → (∀ M', Qry M0 M' → Q (some (.int (stF L D T P n rn k i v s))) M') → Wp none d 238 15 [(0, .ref 126), (1, .int v), (2, .int (nI i))] [] M Q
  | 0, i, v, s, M, e, p, X, H => by
    rw [k238_15, k238_18, show (60 : Int32) = nI 60 from rfl, if_pos (by rw [n_lt (by omega) (by omega)]; omega), k238_40, k238_43 (m_9 X.F)]
    refine mPut16 X.F p (fun M3 q3 _ => ?_)
    simp only [oZ]
    rw [k238_46]
    exact H M3 q3
  | k + 1, i, v, s, M, e, p, X, H => by
    rw [k238_15, k238_18, show (60 : Int32) = nI 60 from rfl, if_neg (by rw [n_lt (by omega) (by omega)]; omega), k238_21, k238_22 (m_9 X.F)]
    refine mHour X HP (fun M' b' X' fr' => ?_)
    simp only [oN]
    unfold stF at H
    rw [k238_25]
    by_cases c : lrnF (hourG L D T P n rn s) n ≤ 0
    · rw [if_pos c] at H
      rw [if_pos c, k238_32, k238_33, nI_1]
      exact st_loop HP k (i + 1) v (stepG L D T P n rn s) M' (by omega) (PpR_hour p b' fr') X' H
    · rw [if_neg c] at H
      rw [if_neg c, k238_28, k238_33, nI_1]
      exact st_loop HP k (i + 1) (nI i) (stepG L D T P n rn s) M' (by omega) (PpR_hour p b' fr') X' H
theorem mStill {n : Nat} {D T P W : Nat → Int32} {hr rn : Int32} {L : Law} (X : RP M n D T P W hr rn L) (HP : PegS P n) (H : ∀ M', Qry M M' → Q (some (.int (stF L D T P n rn 60 1 0 (W, hr)))) M') : Wp none d 238 0 [(0, .ref 126)] [] M Q := by
  rw [k238_0 (m_9 X.F), o0_id X, k238_5, k238_8 (m_9 X.F)]
  refine mKeep16 X (fun M1 p1 X1 q1 => ?_)
  simp only [oZ]
  rw [k238_11]
  exact st_loop HP 60 1 0 (W, hr) M1 (by omega) p1 X1 H
theorem hat_last {n q : Nat} {P : Nat → Int32} (HP : PegS P n) (hn : n ≤ 7) (hq : q < 10) : fo (fun j x => if P j = nI q then nI j else x) 0 n (-1) = hatF n P (nI q) := by
  have hneg : ¬ nI q < 0 := by
    show ¬ nI q < nI 0
    rw [n_lt (by omega) (by omega)]
    omega
  show onF P n q = _
  rcases hatF_cases n P (nI q) with z | ⟨j, hj, z⟩
  · have no := hatF_none hneg z hn
    rcases on_cases (P := P) (q := q) hn with y | ⟨a, a1, a2, a3⟩
    · rw [y.1, z]
    · exact absurd a3 (no a a1)
  · have y := hatF_at z hn (by omega)
    rcases on_cases (P := P) (q := q) hn with w | ⟨a, a1, a2, a3⟩
    · exact absurd y.2 (w.2 j hj)
    · rw [a2, z, peg_uniq HP a1 hj (by omega) a3 y.2]
theorem bes_b0 : ∀ n, n < 8 → ∀ j, j < 7 → ∀ o, o < 7 → ∀ i, i < n → (besF n j o >>> (nI i &&& 31)) &&& 1 = if i = j then 0 else if i = o then 0 else 1 := by decide +kernel
theorem bes_bit (n : Nat) (hn : n < 8) (j : Nat) (hj : j < 7) (o : Nat) (ho : o < 7) (i : Nat) (hi : i < n) : ((besF n j o >>> (nI i &&& 31)) &&& 1 = 1 ↔ ¬ i = j ∧ ¬ i = o) := by
  rw [bes_b0 n hn j hj o ho i hi]
  by_cases c : i = j
  · rw [if_pos c]
    exact ⟨fun q => absurd q (by decide), fun q => absurd c q.1⟩
  · rw [if_neg c]
    by_cases c2 : i = o
    · rw [if_pos c2]
      exact ⟨fun q => absurd q (by decide), fun q => absurd c2 q.2⟩
    · rw [if_neg c2]
      exact ⟨fun _ => ⟨c, c2⟩, fun _ => rfl⟩
theorem mBesides {n a b : Nat} {t : Int32} {D T P W : Nat → Int32} {hr rn : Int32} {L : Law} (X : RP M n D T P W hr rn L) (ha : a < 7) (hb : b < 7) : Wp none d 239 0 [(0, .ref 126), (1, .int t), (2, .int (nI a)), (3, .int (nI b))] [] M Q = Q (some (.int (knoF W n t (besF n a b)))) M := by
  have n7 := X.n7
  have key := for_up (W := fun i s => Wp none d 239 6 [(0, .ref 126), (1, .int t), (2, .int (nI a)), (3, .int (nI b)), (4, .int s), (5, .int (nI i))] [] M Q) (f := fun i x => if (besF n a b >>> (nI i &&& 31)) &&& 1 = 1 ∧ (W i >>> (t &&& 31)) &&& 1 = 1 then x + 1 else x) (n := n) (fun i s hi => by
    have bb := bes_bit n (by omega) a ha b hb i hi
    show Wp none d 239 6 [(0, .ref 126), (1, .int t), (2, .int (nI a)), (3, .int (nI b)), (4, .int s), (5, .int (nI i))] [] M Q = Wp none d 239 6 [(0, .ref 126), (1, .int t), (2, .int (nI a)), (3, .int (nI b)), (4, .int (if (besF n a b >>> (nI i &&& 31)) &&& 1 = 1 ∧ (W i >>> (t &&& 31)) &&& 1 = 1 then s + 1 else s)), (5, .int (nI (i + 1)))] [] M Q
    have z0 : s + 0 = s := Int32.add_zero s
    rw [m239_6 X.F (by decide), show (0 : Int32).toNatClampNeg = 0 from rfl, X.n0, k239_14, if_neg (by rw [n_le (by omega) (by omega)]; omega), k239_17, k239_22]
    by_cases c1 : i = a
    · rw [if_pos (by rw [c1]), k239_45, k239_46, nI_1, z0, if_neg (fun q => (bb.mp q.1).1 c1)]
    rw [if_neg (by rw [n_eq (by omega) (by omega)]; exact c1), k239_25, k239_28]
    by_cases c2 : i = b
    · rw [if_pos (by rw [c2]), k239_45, k239_46, nI_1, z0, if_neg (fun q => (bb.mp q.1).2 c2)]
    rw [if_neg (by rw [n_eq (by omega) (by omega)]; exact c2), k239_31, k239_35 (m_9 X.F), mKnows X (by omega)]
    simp only [oM]
    rw [k239_38]
    by_cases c3 : (W i >>> (t &&& 31)) &&& 1 = 1
    · rw [if_neg (by rw [bz_eq0]; exact fun q => q c3), k239_41, k239_46, nI_1, if_pos ⟨bb.mpr ⟨c1, c2⟩, c3⟩]
    · rw [if_pos (by rw [bz_eq0]; exact c3), k239_45, k239_46, nI_1, z0, if_neg (fun q => c3 q.2)]) n 0 0 (by omega)
  rw [k239_0]
  refine (show _ = _ from key).trans ?_
  show Wp none d 239 6 [(0, .ref 126), (1, .int t), (2, .int (nI a)), (3, .int (nI b)), (4, .int (knoF W n t (besF n a b))), (5, .int (nI n))] [] M Q = _
  rw [m239_6 X.F (by decide), show (0 : Int32).toNatClampNeg = 0 from rfl, X.n0, k239_14, if_pos (by rw [n_le (by omega) (by omega)]; omega), k239_55]
theorem kno_lt (W : Nat → Int32) (t s : Int32) (j : Nat) (hb : ¬ (s >>> (nI j &&& 31)) &&& 1 = 1) : ∀ n, ∃ c, c ≤ n ∧ (j < n → c + 1 ≤ n) ∧ knoF W n t s = nI c
  | 0 => ⟨0, Nat.le_refl 0, fun q => absurd q (by omega), rfl⟩
  | n + 1 => by
    obtain ⟨c, h1, h3, h2⟩ := kno_lt W t s j hb n
    unfold knoF at h2 ⊢
    rw [fo_end, h2, show 0 + n = n by omega]
    by_cases q : (s >>> (nI n &&& 31)) &&& 1 = 1 ∧ (W n >>> (t &&& 31)) &&& 1 = 1
    · rw [if_pos q, nI_1]
      refine ⟨c + 1, by omega, fun w => ?_, rfl⟩
      by_cases e : j = n
      · rw [e] at hb
        exact absurd q.1 hb
      · have := h3 (by omega)
        omega
    · rw [if_neg q]
      refine ⟨c, by omega, fun w => by omega, rfl⟩
def papG (L : Law) (n : Nat) (D T W : Nat → Int32) (hr rn : Int32) (P : Nat → Int32) (N : Nat) : Nat → Int32 := (itG L D T P n rn N (W, hr)).1
def bpStG (L : Law) (n : Nat) (D T P W : Nat → Int32) (hr rn : Int32) (j o N : Nat) (th : Int32) (q : Nat) (s : Int32 × Int32) : Int32 × Int32 :=
  if ¬ hatF n P (nI q) = -1 ∧ ¬ hatF n P (nI q) = nI j then s
  else if (papG L n D T W hr rn (updI P j (nI q)) N o >>> (th &&& 31)) &&& 1 = 1 ∧ knoF (papG L n D T W hr rn (updI P j (nI q)) N) n th (besF n j o) < s.2 then (nI q, knoF (papG L n D T W hr rn (updI P j (nI q)) N) n th (besF n j o)) else s
def bpG (L : Law) (n : Nat) (D T P W : Nat → Int32) (hr rn : Int32) (j o N : Nat) (th : Int32) : Int32 := (fo (bpStG L n D T P W hr rn j o N th) 0 10 (-1, 7)).1
/-- the reference's least beside the class's fewest -/
def lsR (l f : Int32) : Prop := (l = 100000000 ∧ f = 7) ∨ ∃ c, c ≤ 7 ∧ l = nI c ∧ f = nI c
theorem pf_loop {M0 : hp} {n j o N : Nat} {t : Int32} {D T P W : Nat → Int32} {hr rn : Int32} {L : Law} (hj : j < n) (ho : o < n) (hN : N < 1000) (HP : PegS P n) (X0 : RP M0 n D T P W hr rn L) : ∀ (k p : Nat) (l : Int32) (s : Int32 × Int32) (M : hp), p + k = 10 → PpR M0 M → Qry M0 M → lsR l s.2 → (∀ M', Qry M0 M' → Q (some (.int (fo (bpStG L n D T P W hr rn j o N t) p k s).1)) M') → Wp none d 240 65 [(0, .ref 126), (1, .int (nI j)), (2, .int t), (3, .int (nI o)), (4, .int (nI N)), (5, .int l), (6, .int s.1), (7, .int (nI p))] [] M Q
  | 0, p, l, s, M, e, pp, qq, hl, H => by
    rw [k240_65, k240_69, show (10 : Int32) = nI 10 from rfl, if_pos (by rw [n_le (by omega) (by omega)]; omega), k240_177]
    exact H M qq
  | k + 1, p, l, s, M, e, pp, qq, hl, H => by
    have X := RP_Qry X0 qq
    have n7 := X.n7
    have e7 : (7 : Int32) + nI j = nI (7 + j) := by rw [show (7 : Int32) = nI 7 from rfl, nI_add]
    have stp : ∀ s', bpStG L n D T P W hr rn j o N t p s = s' → (∀ M', Qry M0 M' → Q (some (.int (fo (bpStG L n D T P W hr rn j o N t) (p + 1) k s').1)) M') := by
      intro s' es
      rw [← es]
      exact H
    have skip : ∀ x8 : Int32, (¬ hatF n P (nI p) = -1 ∧ ¬ hatF n P (nI p) = nI j) → Wp none d 240 171 [(0, .ref 126), (1, .int (nI j)), (2, .int t), (3, .int (nI o)), (4, .int (nI N)), (5, .int l), (6, .int s.1), (7, .int (nI p)), (8, .int x8)] [] M Q := by
      intro x8 c
      rw [k240_171, nI_1]
      exact pf_loop hj ho hN HP X0 k (p + 1) l s M (by omega) pp qq hl (stp s (by unfold bpStG; rw [if_pos c]))
    have go : (hatF n P (nI p) = -1 ∨ hatF n P (nI p) = nI j) → ∀ x8 : Int32, Wp none d 240 92 [(0, .ref 126), (1, .int (nI j)), (2, .int t), (3, .int (nI o)), (4, .int (nI N)), (5, .int l), (6, .int s.1), (7, .int (nI p)), (8, .int x8)] [] M Q := by
      intro c x8
      have HP' : PegS (updI P j (nI p)) n := hat_free HP n7 hj (by omega) c
      have c' : ¬ (¬ hatF n P (nI p) = -1 ∧ ¬ hatF n P (nI p) = nI j) := fun q => c.elim q.1 q.2
      have F1 : MF (sI M 128 (7 + j) (nI p)) := X.F
      rw [m240_92 X.F (by rw [e7]; exact v54 (by omega)), e7, n_cl (by omega), k240_103, k240_106 (m_9 F1)]
      refine mLive hN (RP_peg X (by omega)) HP' (fun M2 b2 X2 fr2 => ?_)
      have p2 : PpR M0 M2 := PpR_hour (PpR_peg pp (by omega)) b2 fr2
      simp only [oZ]
      rw [k240_109, k240_112 (m_9 X2.F), mKnows X2 (by omega)]
      simp only [oN]
      rw [k240_115]
      obtain ⟨v, hv7, hv6, hv⟩ := kno_lt (papG L n D T W hr rn (updI P j (nI p)) N) t (besF n j o) j (fun q => ((bes_bit n (by omega) j (by omega) o (by omega) j hj).mp q).1 rfl) n
      have back : ∀ (l' : Int32) (s' : Int32 × Int32) (x9 : Int32), lsR l' s'.2 → bpStG L n D T P W hr rn j o N t p s = s' → Wp none d 240 168 [(0, .ref 126), (1, .int (nI j)), (2, .int t), (3, .int (nI o)), (4, .int (nI N)), (5, .int l'), (6, .int s'.1), (7, .int (nI p)), (8, .int x8), (9, .int x9)] [.int 16, .ref 126] M2 Q := by
        intro l' s' x9 hl' es
        rw [k240_168 (m_9 X2.F)]
        refine mPut16 X2.F p2 (fun M3 q3 p3 => ?_)
        simp only [oZ]
        rw [k240_171, nI_1]
        exact pf_loop hj ho hN HP X0 k (p + 1) l' s' M3 (by omega) p3 q3 hl' (stp s' es)
      have hv6 := hv6 hj
      by_cases c3 : (papG L n D T W hr rn (updI P j (nI p)) N o >>> (t &&& 31)) &&& 1 = 1
      · rw [if_neg (by rw [bz_eq0]; exact fun q => q c3), k240_118, k240_122 (m_9 X2.F), mBesides X2 (by omega) (by omega)]
        simp only [oN]
        rw [k240_125, k240_131, k240_137]
        have ek : knoF (itG L D T (updI P j (nI p)) n rn N (W, hr)).1 n t (besF n j o) = nI v := hv
        rw [ek]
        by_cases c4 : nI v < s.2
        · have hlt : ¬ l ≤ nI v := by
            rcases hl with ⟨z1, z2⟩ | ⟨w, w1, w2, w3⟩
            · rw [z1, show (100000000 : Int32) = nI 100000000 from rfl, n_le (by omega) (by omega)]
              omega
            · rw [w3, n_lt (by omega) (by omega)] at c4
              rw [w2, n_le (by omega) (by omega)]
              omega
          rw [if_neg hlt, k240_140, k240_147, k240_153, if_neg hlt, k240_156, k240_163]
          refine back (nI v) (nI p, nI v) _ (Or.inr ⟨v, by omega, rfl, rfl⟩) ?_
          unfold bpStG
          rw [if_neg c', hv, if_pos ⟨c3, c4⟩]
        · have hlt : l ≤ nI v := by
            rcases hl with ⟨z1, z2⟩ | ⟨w, w1, w2, w3⟩
            · rw [z2, show (7 : Int32) = nI 7 from rfl, n_lt (by omega) (by omega)] at c4
              omega
            · rw [w3, n_lt (by omega) (by omega)] at c4
              rw [w2, n_le (by omega) (by omega)]
              omega
          rw [if_pos hlt, k240_145, k240_147, k240_153, if_pos hlt, k240_161, k240_163]
          refine back l s _ hl ?_
          unfold bpStG
          rw [if_neg c', hv, if_neg (fun q => c4 q.2)]
      · have hlt : l ≤ 100000000 := by
          rcases hl with ⟨z1, z2⟩ | ⟨w, w1, w2, w3⟩
          · rw [z1]; exact Int32.le_refl _
          · rw [w2, show (100000000 : Int32) = nI 100000000 from rfl, n_le (by omega) (by omega)]
            omega
        rw [if_pos (by rw [bz_eq0]; exact c3), k240_128, k240_131, k240_137, if_pos hlt, k240_145, k240_147, k240_153, if_pos hlt, k240_161, k240_163]
        refine back l s _ hl ?_
        unfold bpStG
        rw [if_neg c', if_neg (fun q => c3 q.1)]
    rw [k240_65, k240_69, show (10 : Int32) = nI 10 from rfl, if_neg (by rw [n_le (by omega) (by omega)]; omega), k240_72, k240_75 (m_9 X.F), mOnPeg X, hat_last HP n7 (by omega)]
    simp only [oN]
    rw [k240_78, k240_83]
    by_cases c1 : hatF n P (nI p) = -1
    · rw [if_pos c1]
      exact go (Or.inl c1) _
    · rw [if_neg c1, k240_86, k240_89]
      by_cases c2 : hatF n P (nI p) = nI j
      · rw [if_neg (fun q => q c2)]
        exact go (Or.inr c2) _
      · rw [if_pos c2]
        exact skip _ ⟨c1, c2⟩
def pegForG (L : Law) (n : Nat) (D T P W : Nat → Int32) (hr rn : Int32) (i t o N : Int32) : Int32 := if hatOk n i ∧ thOk t ∧ hatOk n o ∧ ¬ i = o ∧ 1 ≤ N ∧ N ≤ 60 then bpG L n D T P W hr rn i.toNatClampNeg o.toNatClampNeg N.toNatClampNeg t else -1
theorem mPegFor {n : Nat} {i t o N : Int32} {D T P W : Nat → Int32} {hr rn : Int32} {L : Law} (X : RP M n D T P W hr rn L) (HP : PegS P n) (H : ∀ M', Qry M M' → Q (some (.int (pegForG L n D T P W hr rn i t o N))) M') : Wp none d 240 0 [(0, .ref 126), (1, .int i), (2, .int t), (3, .int o), (4, .int N)] [] M Q := by
  have n7 := X.n7
  unfold pegForG at H
  have bad : ¬ (hatOk n i ∧ thOk t ∧ hatOk n o ∧ ¬ i = o ∧ 1 ≤ N ∧ N ≤ 60) → Wp none d 240 46 [(0, .ref 126), (1, .int i), (2, .int t), (3, .int o), (4, .int N)] [] M Q := by
    intro c
    rw [if_neg c] at H
    rw [k240_46]
    exact H M (Qry_refl M)
  rw [k240_0 (m_9 X.F), o0_id X, k240_5, k240_7 (m_9 X.F), mIsHat X]
  simp only [oN]
  rw [k240_10]
  by_cases c : ¬ i < 0 ∧ ¬ nI n ≤ i
  case neg =>
    rw [if_pos (by rw [bz_eq0]; exact c)]
    exact bad (fun q => c q.1)
  rw [if_neg (by rw [bz_eq0]; exact fun q => q c), k240_13, k240_14, mIsThought]
  simp only [oN]
  rw [k240_17]
  by_cases c2 : ¬ t < 0 ∧ ¬ 8 ≤ t
  case neg =>
    rw [if_pos (by rw [bz_eq0]; exact c2)]
    exact bad (fun q => c2 q.2.1)
  rw [if_neg (by rw [bz_eq0]; exact fun q => q c2), k240_20, k240_22 (m_9 X.F), mIsHat X]
  simp only [oN]
  rw [k240_25]
  by_cases c3 : ¬ o < 0 ∧ ¬ nI n ≤ o
  case neg =>
    rw [if_pos (by rw [bz_eq0]; exact c3)]
    exact bad (fun q => c3 q.2.2.1)
  rw [if_neg (by rw [bz_eq0]; exact fun q => q c3), k240_28, k240_30]
  by_cases c4 : i = o
  · rw [if_pos c4]
    exact bad (fun q => q.2.2.2.1 c4)
  rw [if_neg c4, k240_33, k240_40, mIn, in_lit (x := 1) (y := 60) (a := 1) (b := 60) rfl rfl]
  simp only [oN]
  rw [k240_43]
  by_cases c5 : 1 ≤ N ∧ N ≤ 60
  case neg =>
    rw [if_neg (by rw [bz_eq0]; exact fun q => q c5)]
    exact bad (fun q => c5 q.2.2.2.2)
  rw [if_pos ⟨c, c2, c3, c4, c5⟩] at H
  obtain ⟨j, hj, rfl⟩ := hatOk_j n7 c
  obtain ⟨u, hu, rfl⟩ := hatOk_j n7 c3
  obtain ⟨m, hm, rfl⟩ : ∃ m, m ≤ 60 ∧ N = nI m := by
    have h0 : (0 : Int32) ≤ N := by
      have := c5.1
      rw [fa_le] at this ⊢
      rw [show (1 : Int32).toInt = 1 from rfl] at this
      rw [show (0 : Int32).toInt = 0 from rfl]
      omega
    have := cl_nI h0
    refine ⟨N.toNatClampNeg, ?_, this.1⟩
    have h2 := c5.2
    rw [this.1] at h2
    have h3 : nI N.toNatClampNeg ≤ nI 60 := h2
    rwa [n_le this.2 (by omega)] at h3
  rw [n_cl (by omega), n_cl (by omega), n_cl (by omega)] at H
  rw [if_pos (by rw [bz_eq0]; exact fun q => q c5), k240_48, k240_59 (m_9 X.F)]
  refine mKeep16 X (fun M1 p1 X1 q1 => ?_)
  simp only [oZ]
  rw [k240_62]
  exact pf_loop hj hu (by omega) HP X 10 0 100000000 (-1, 7) M1 (by omega) p1 q1 (Or.inl ⟨rfl, rfl⟩) H
