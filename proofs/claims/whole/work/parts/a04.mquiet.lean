variable {d : Nat} {M : hp} {Q : Option Value → hp → Prop}
/-! quiet() of the reference -/
theorem pig : ∀ (n m : Nat) (g : Nat → Nat) (P : Nat → Int32), n < m → (∀ i, i < m → g i < 1000) → (∀ i k, i < m → k < m → g i = g k → i = k) → ∃ i, i < m ∧ ∀ j, j < n → ¬ P j = nI (g i)
  | 0, m, g, P, h, _, _ => ⟨0, h, fun j q => absurd q (by omega)⟩
  | n + 1, m, g, P, h, hb, hi => by
    by_cases c : ∃ i0, i0 < m ∧ P n = nI (g i0)
    · obtain ⟨i0, h0, e0⟩ := c
      obtain ⟨i, q1, q2⟩ := pig n (m - 1) (fun i => g (if i < i0 then i else i + 1)) P (by omega) (fun i q => hb _ (by split <;> omega)) (fun i k q1 q2 e => by
        have := hi _ _ (by split <;> omega) (by split <;> omega) e
        by_cases c1 : i < i0 <;> by_cases c2 : k < i0 <;> simp only [c1, c2, if_true, if_false] at this <;> omega)
      refine ⟨if i < i0 then i else i + 1, by split <;> omega, fun j hj => ?_⟩
      by_cases c2 : j = n
      · rw [c2, e0, n_eq (by have := hb i0 h0; omega) (by have := hb (if i < i0 then i else i + 1) (by split <;> omega); omega)]
        intro e
        have := hi _ _ h0 (by split <;> omega) e
        by_cases c3 : i < i0
        · rw [if_pos c3] at this; omega
        · rw [if_neg c3] at this; omega
      · exact q2 j (by omega)
    · obtain ⟨i, q1, q2⟩ := pig n m g P (by omega) hb hi
      refine ⟨i, q1, fun j hj => ?_⟩
      by_cases c2 : j = n
      · rw [c2]
        exact fun e => c ⟨i, q1, e⟩
      · exact q2 j (by omega)
theorem free_peg {P : Nat → Int32} {n : Nat} (hn : n ≤ 7) : ∃ q, q < 10 ∧ hatF n P (nI q) = -1 := by
  obtain ⟨q, q1, q2⟩ := pig n 10 (fun i => i) P (by omega) (fun i _ => by omega) (fun _ _ _ _ e => e)
  refine ⟨q, q1, ?_⟩
  rcases hatF_cases n P (nI q) with z | ⟨j, hj, z⟩
  · exact z
  · exact absurd (hatF_at z hn (by omega)).2 (q2 j hj)
theorem row_f {n c : Nat} {a : Nat → Int32} (hn : n ≤ 7) (ha : ∀ i, i < c → ∃ j, j < n ∧ a i = nI j) : ∀ (k i : Nat) (P : Nat → Int32), i + k = c → PegS P n → ∃ f : Nat → Nat, (∀ l, f l < 10) ∧ ∀ r, (∀ l, i ≤ l → l < c → dig r c l = f l) → ∃ P', hgF n a r c k i P = some P'
  | 0, i, P, _, _ => ⟨fun _ => 0, fun _ => Nat.zero_lt_succ 9, fun r _ => ⟨P, rfl⟩⟩
  | k + 1, i, P, e, HP => by
    obtain ⟨q, q1, q2⟩ := free_peg (P := P) hn
    obtain ⟨j, hj, aj⟩ := ha i (by omega)
    obtain ⟨f, f1, f2⟩ := row_f hn ha k (i + 1) (updI P j (nI q)) (by omega) (hat_free HP hn hj q1 (Or.inl q2))
    refine ⟨fun l => if l = i then q else f l, fun l => by
      show (if l = i then q else f l) < 10
      by_cases c2 : l = i
      · rw [if_pos c2]; exact q1
      · rw [if_neg c2]; exact f1 l, fun r hr => ?_⟩
    have hr : ∀ l, i ≤ l → l < c → dig r c l = (if l = i then q else f l) := hr
    have hd : dig r c i = q := by rw [hr i (Nat.le_refl i) (by omega), if_pos rfl]
    unfold hgF
    rw [hd, if_pos q2, aj, n_cl (by omega)]
    exact f2 r (fun l h1 h2 => by rw [hr l (by omega) h2, if_neg (by omega)])
theorem row_ex {n c : Nat} {a P : Nat → Int32} (hn : n ≤ 7) (hc : c ≤ 3) (ha : ∀ i, i < c → ∃ j, j < n ∧ a i = nI j) (HP : PegS P n) : ∃ r, r < 10 ^ c ∧ ∃ P', hgF n a r c c 0 P = some P' := by
  obtain ⟨f, f1, f2⟩ := row_f hn ha c 0 P (by omega) HP
  have g0 := f1 0
  have g1 := f1 1
  have g2 := f1 2
  have : c = 0 ∨ c = 1 ∨ c = 2 ∨ c = 3 := by omega
  rcases this with rfl | rfl | rfl | rfl
  · exact ⟨0, by decide, f2 0 (fun l _ q => absurd q (by omega))⟩
  · refine ⟨f 0, by omega, f2 _ (fun l _ q => ?_)⟩
    have : l = 0 := by omega
    subst this
    unfold dig
    simp
    omega
  · refine ⟨10 * f 0 + f 1, by omega, f2 _ (fun l _ q => ?_)⟩
    have : l = 0 ∨ l = 1 := by omega
    rcases this with rfl | rfl <;> unfold dig <;> simp <;> omega
  · refine ⟨100 * f 0 + 10 * f 1 + f 2, by omega, f2 _ (fun l _ q => ?_)⟩
    have : l = 0 ∨ l = 1 ∨ l = 2 := by omega
    rcases this with rfl | rfl | rfl <;> unfold dig <;> simp <;> omega
theorem ofs_cnt (P : Nat → Int32) : ∀ j, (ofs P j).1 ≤ j
  | 0 => Nat.le_refl 0
  | j + 1 => by
    have := ofs_cnt P j
    unfold ofs
    by_cases c : P j = -1
    · rw [if_pos c]
      show (ofs P j).1 + 1 ≤ j + 1
      omega
    · rw [if_neg c]
      omega
theorem qc_loop {n : Nat} {N i : Int32} {D T P W : Nat → Int32} {hr rn : Int32} {L : Law} {M0 : hp} (X0 : RP M0 n D T P W hr rn L) (K : ∀ M', EX [148] M0 M' → (∀ l, l < (ofs P n).1 → hI M' 148 l = (ofs P n).2 l) → Wp none d 245 47 [(0, .ref 126), (1, .int N), (2, .int i), (3, .int (nI (ofs P n).1)), (4, .int (nI n))] [] M' Q) : ∀ (k h : Nat) (M : hp), h + k = n → EX [148] M0 M → (∀ l, l < (ofs P h).1 → hI M 148 l = (ofs P h).2 l) → Wp none d 245 10 [(0, .ref 126), (1, .int N), (2, .int i), (3, .int (nI (ofs P h).1)), (4, .int (nI h))] [] M Q := by
  have n7 := X0.n7
  intro k
  induction k with
  | zero =>
    intro h M e b hl
    have X := RP_EX X0 b rfl
    have : h = n := by omega
    subst this
    rw [m245_10 X.F (by decide), show (0 : Int32).toNatClampNeg = 0 from rfl, X.n0, k245_18, if_pos (by rw [n_le (by omega) (by omega)]; omega)]
    exact K M b hl
  | succ k ih =>
    intro h M e b hl
    have X := RP_EX X0 b rfl
    have hc := ofs_cnt P h
    have ih2 := ih (h + 1)
    unfold ofs at ih2
    rw [m245_10 X.F (by decide), show (0 : Int32).toNatClampNeg = 0 from rfl, X.n0, k245_18, if_neg (by rw [n_le (by omega) (by omega)]; omega), k245_21, k245_24 (m_9 X.F), mHung X (by omega)]
    simp only [oN]
    rw [k245_27]
    by_cases c : P h = -1
    · rw [if_pos c] at ih2
      rw [if_neg (by rw [bz_eq0]; exact fun q => q (fun z => z c)), m245_30 X.F (v7 (by omega)), n_cl (by omega), k245_38, nI_1, k245_41, nI_1]
      refine ih2 _ (by omega) (EX_trans b (EX_sI (by decide) (by decide))) (fun l hl2 => ?_)
      show hI (sI M 148 (ofs P h).1 (nI h)) 148 l = updI (ofs P h).2 (ofs P h).1 (nI h) l
      unfold updI
      by_cases c2 : l = (ofs P h).1
      · rw [c2, if_pos rfl, hI_sI_s]
      · rw [if_neg c2, hI_sI_k c2]
        have hl2 : l < (ofs P h).1 + 1 := hl2
        exact hl l (by omega)
    · rw [if_neg c] at ih2
      rw [if_pos (by rw [bz_eq0]; exact fun q => q c), k245_41, nI_1]
      exact ih2 M (by omega) b hl
def wgN (L : Law) (n : Nat) (D T W : Nat → Int32) (hr rn : Int32) (N : Nat) (P : Nat → Int32) : Int32 := wgG L n D T (papG L n D T W hr rn P N) (hr + nI N) rn
def hqStG (L : Law) (n : Nat) (D T P W : Nat → Int32) (hr rn : Int32) (N c : Nat) (a : Nat → Int32) (r : Nat) (s : Int32 × Int32) : Int32 × Int32 := match hgF n a r c c 0 P with
  | none => s
  | some P' => if s.1 = -1 ∨ wgN L n D T W hr rn N P' < s.1 then (wgN L n D T W hr rn N P', nI r) else s
def hqG (L : Law) (n : Nat) (D T P W : Nat → Int32) (hr rn : Int32) (N c : Nat) (a : Nat → Int32) : Int32 × Int32 := fo (hqStG L n D T P W hr rn N c a) 0 (10 ^ c) (-1, 0)
def qStN (L : Law) (n : Nat) (D T P W : Nat → Int32) (hr rn : Int32) (N c : Nat) (a : Nat → Int32) (r : Nat) (s : Int32 × Int32) : Int32 × Int32 := match hgF n a r c c 0 P with
  | none => s
  | some P' => if s.1 ≤ wgN L n D T W hr rn N P' then s else (wgN L n D T W hr rn N P', nI r)
def qRel (n c r : Nat) (a P : Nat → Int32) (x s : Int32 × Int32) : Prop := (x = (100000000, -1) ∧ s = (-1, 0) ∧ ∀ r', r' < r → hgF n a r' c c 0 P = none) ∨ ∃ v b, v ≤ 6000 ∧ b < r ∧ x = (nI v, nI b) ∧ s = (nI v, nI b)
theorem q_inv {L : Law} {n : Nat} {D T P W : Nat → Int32} {hr rn : Int32} {N c : Nat} {a : Nat → Int32} (hn : n ≤ 7) : ∀ r, qRel n c r a P (fo (qStN L n D T P W hr rn N c a) 0 r (100000000, -1)) (fo (hqStG L n D T P W hr rn N c a) 0 r (-1, 0))
  | 0 => Or.inl ⟨rfl, rfl, fun r' q => absurd q (by omega)⟩
  | r + 1 => by
    have ih := q_inv (L := L) (D := D) (T := T) (P := P) (W := W) (hr := hr) (rn := rn) (N := N) (c := c) (a := a) hn r
    rw [fo_end, fo_end, show 0 + r = r by omega]
    generalize fo (qStN L n D T P W hr rn N c a) 0 r (100000000, -1) = x at ih ⊢
    generalize fo (hqStG L n D T P W hr rn N c a) 0 r (-1, 0) = s at ih ⊢
    unfold qStN hqStG
    cases e : hgF n a r c c 0 P with
    | none =>
      show qRel n c (r + 1) a P x s
      rcases ih with ⟨z1, z2, z3⟩ | ⟨v, b, z1, z2, z3⟩
      · refine Or.inl ⟨z1, z2, fun r' q => ?_⟩
        by_cases c2 : r' = r
        · rw [c2]; exact e
        · exact z3 r' (by omega)
      · exact Or.inr ⟨v, b, z1, by omega, z3⟩
    | some P' =>
      show qRel n c (r + 1) a P (if x.1 ≤ wgN L n D T W hr rn N P' then x else (wgN L n D T W hr rn N P', nI r)) (if s.1 = -1 ∨ wgN L n D T W hr rn N P' < s.1 then (wgN L n D T W hr rn N P', nI r) else s)
      obtain ⟨w, w1, w2⟩ := wg_le L D T (papG L n D T W hr rn P' N) (hr + nI N) rn n
      have w2 : wgN L n D T W hr rn N P' = nI w := w2
      have hw : w ≤ 6000 := by
        have : 792 * n ≤ 792 * 7 := Nat.mul_le_mul_left 792 hn
        omega
      rw [w2]
      rcases ih with ⟨z1, z2, z3⟩ | ⟨v, b, z1, z2, z3, z4⟩
      · rw [z1, z2]
        show qRel n c (r + 1) a P (if (100000000 : Int32) ≤ nI w then (100000000, -1) else (nI w, nI r)) (if (-1 : Int32) = -1 ∨ nI w < -1 then (nI w, nI r) else (-1, 0))
        rw [if_neg (by rw [show (100000000 : Int32) = nI 100000000 from rfl, n_le (by omega) (by omega)]; omega), if_pos (Or.inl rfl)]
        exact Or.inr ⟨w, r, hw, by omega, rfl, rfl⟩
      · rw [z3, z4]
        show qRel n c (r + 1) a P (if nI v ≤ nI w then (nI v, nI b) else (nI w, nI r)) (if nI v = -1 ∨ nI w < nI v then (nI w, nI r) else (nI v, nI b))
        by_cases c2 : v ≤ w
        · rw [if_pos (by rw [n_le (by omega) (by omega)]; exact c2), if_neg (by rw [n_m1 (by omega), n_lt (by omega) (by omega)]; intro z; rcases z with z | z; exact z; omega)]
          exact Or.inr ⟨v, b, z1, by omega, rfl, rfl⟩
        · rw [if_neg (by rw [n_le (by omega) (by omega)]; exact c2), if_pos (Or.inr (by rw [n_lt (by omega) (by omega)]; omega))]
          exact Or.inr ⟨w, r, hw, by omega, rfl, rfl⟩
theorem q_end {L : Law} {n : Nat} {D T P W : Nat → Int32} {hr rn : Int32} {N c : Nat} {a : Nat → Int32} (hn : n ≤ 7) (hc : c ≤ 3) (ha : ∀ i, i < c → ∃ j, j < n ∧ a i = nI j) (HP : PegS P n) : ∃ v b, v ≤ 6000 ∧ b < 10 ^ c ∧ fo (qStN L n D T P W hr rn N c a) 0 (10 ^ c) (100000000, -1) = (nI v, nI b) ∧ hqG L n D T P W hr rn N c a = (nI v, nI b) := by
  rcases q_inv (L := L) (D := D) (T := T) (P := P) (W := W) (hr := hr) (rn := rn) (N := N) (c := c) (a := a) hn (10 ^ c) with ⟨_, _, z⟩ | z
  · obtain ⟨r, r1, P', r2⟩ := row_ex hn hc ha HP
    rw [z r r1] at r2
    cases r2
  · exact z
theorem ql_loop {n c N : Nat} {i : Int32} {a : Nat → Int32} {D T P W : Nat → Int32} {hr rn : Int32} {L : Law} {M0 : hp} (X0 : RP M0 n D T P W hr rn L) (HP : PegS P n) (hN : N ≤ 60) (hc : c ≤ 3) (ha : ∀ i, i < c → ∃ j, j < n ∧ a i = nI j) (b : Int32 × Int32) (K : ∀ M', Qry M0 M' → Wp none d 245 203 [(0, .ref 126), (1, .int (nI N)), (2, .int i), (3, .int (nI c)), (4, .int (nI (10 ^ c))), (5, .int b.1), (6, .int b.2), (7, .int (nI (10 ^ c)))] [] M' Q) : ∀ (k r : Nat) (s : Int32 × Int32) (M : hp), r + k = 10 ^ c → PpR M0 M → Qry M0 M → (∀ i, i < c → hI M 148 i = a i) → fo (qStN L n D T P W hr rn N c a) r k s = b → Wp none d 245 131 [(0, .ref 126), (1, .int (nI N)), (2, .int i), (3, .int (nI c)), (4, .int (nI (10 ^ c))), (5, .int s.1), (6, .int s.2), (7, .int (nI r))] [] M Q := by
  have p10 := pow10 hc
  intro k
  induction k with
  | zero =>
    intro r s M e pp qq h148 hb
    have : r = 10 ^ c := by omega
    subst this
    have hb : s = b := hb
    rw [hb, k245_131, k245_135, if_pos (by rw [n_le (by omega) (by omega)]; omega)]
    exact K M qq
  | succ k ih =>
    intro r s M e pp qq h148 hb
    have X := RP_Qry X0 qq
    have hb : fo (qStN L n D T P W hr rn N c a) (r + 1) k (qStN L n D T P W hr rn N c a r s) = b := hb
    have back : ∀ (s' : Int32 × Int32) (M2 : hp), MF M2 → PpR M0 M2 → hI M2 148 = hI M 148 → qStN L n D T P W hr rn N c a r s = s' → Wp none d 245 191 [(0, .ref 126), (1, .int (nI N)), (2, .int i), (3, .int (nI c)), (4, .int (nI (10 ^ c))), (5, .int s'.1), (6, .int s'.2), (7, .int (nI r))] [] M2 Q := by
      intro s' M2 F2 p2 e2 es
      rw [k245_191, k245_194 (m_9 F2)]
      rw [show (16 : Int32) = nI 16 from rfl, mPut F2 (by omega)]
      simp only [oZ]
      rw [k245_197, nI_1]
      refine ih (r + 1) s' _ (by omega) (put_st p2).2 (put_st p2).1 (fun l hl => ?_) (by rw [← es]; exact hb)
      rw [hI_sIs_a (by decide), e2]
      exact h148 l hl
    rw [k245_131, k245_135, if_neg (by rw [n_le (by omega) (by omega)]; omega), k245_138, k245_142 (m_9 X.F)]
    refine mHangAll hc (by omega) ha X HP pp h148 (fun M2 P' eP X2 HP2 p2 e2 => ?_) (fun M2 eP F2 p2 e2 => ?_)
    · simp only [oN]
      rw [k245_145, if_neg (by decide), k245_148, k245_150 (m_9 X2.F)]
      refine mLive (by omega) X2 HP2 (fun M3 b3 X3 fr3 => ?_)
      simp only [oZ]
      have e3 : hI M3 148 = hI M 148 := (agr_I b3.1 (by decide)).trans e2
      rw [k245_153, k245_154 (m_9 X3.F)]
      refine mWorthAll X3 (fun M4 b4 => ?_)
      have e4 : hI M4 148 = hI M 148 := (agr_I b4.1 (by decide)).trans e3
      have F4 := MF_agr X3.F b4.1
      have p4 : PpR M0 M4 := PpR_EC (PpR_hour p2 b3 fr3) b4
      have ew : wgG L n D T (itG L D T P' n rn N (W, hr)).1 (itG L D T P' n rn N (W, hr)).2 rn = wgN L n D T W hr rn N P' := by
        rw [itG_hr]
        rfl
      simp only [oN]
      rw [ew, k245_157, k245_163]
      by_cases c2 : s.1 ≤ wgN L n D T W hr rn N P'
      · rw [if_pos c2, k245_171, k245_173, k245_179, if_pos c2, k245_187, k245_189]
        refine back s M4 F4 p4 e4 ?_
        unfold qStN
        rw [eP]
        exact if_pos c2
      · rw [if_neg c2, k245_166, k245_173, k245_179, if_neg c2, k245_182, k245_189]
        refine back (wgN L n D T W hr rn N P', nI r) M4 F4 p4 e4 ?_
        unfold qStN
        rw [eP]
        exact if_neg c2
    · simp only [oN]
      rw [k245_145, if_pos rfl]
      refine back s M2 F2 p2 e2 ?_
      unfold qStN
      rw [eP]
theorem ld_loop {n c b : Nat} {x1 i x4 x5 x6 : Int32} {D T P W : Nat → Int32} {hr rn : Int32} {L : Law} {M0 : hp} (X0 : RP M0 n D T P W hr rn L) (hc : c ≤ 3) (hb : b < 10 ^ c) (K : ∀ M' x7 x8, EX [149] M0 M' → (∀ l, l < c → hI M' 149 l = nI (dig b c l)) → Wp none d 245 242 [(0, .ref 126), (1, .int x1), (2, .int i), (3, .int (nI c)), (4, .int x4), (5, .int x5), (6, .int x6), (7, .int x7), (8, .int x8)] [] M' Q) : ∀ (k : Nat) (M : hp), k ≤ c → EX [149] M0 M → (∀ l, k ≤ l → l < c → hI M 149 l = nI (dig b c l)) → Wp none d 245 212 [(0, .ref 126), (1, .int x1), (2, .int i), (3, .int (nI c)), (4, .int x4), (5, .int x5), (6, .int x6), (7, .int (nI (b / 10 ^ (c - k)))), (8, .int (nI k - 1))] [] M Q := by
  have p10 := pow10 hc
  intro k
  induction k with
  | zero =>
    intro M hk bb hl
    rw [k245_212, k245_214, if_pos (by decide)]
    exact K M _ _ bb (fun l h => hl l (by omega) h)
  | succ k ih =>
    intro M hk bb hl
    have X := RP_EX X0 bb rfl
    have hq : b / 10 ^ (c - (k + 1)) ≤ b := Nat.div_le_self _ _
    have e1 : nI (k + 1) - 1 = nI k := n_subl (a := k + 1) (n := 1) (by omega)
    have ed : b / 10 ^ (c - (k + 1)) % 10 = dig b c k := by unfold dig; rw [show c - (k + 1) = c - 1 - k by omega]
    have en : b / 10 ^ (c - (k + 1)) / 10 = b / 10 ^ (c - k) := by rw [Nat.div_div_eq_div_mul, ← Nat.pow_succ, show (c - (k + 1)).succ = c - k by omega]
    rw [e1, k245_212, k245_214, if_neg (nI_pos (by omega)), m245_217 X.F (by rw [vin_n (by omega)]; exact decide_eq_true (by omega)), n_cl (by omega), show (10 : Int32) = nI 10 from rfl, n_mod' (by omega) (by omega), ed, k245_229, show (10 : Int32) = nI 10 from rfl, n_div (by omega) (by omega), en, n_addm1]
    refine ih _ (by omega) (EX_trans bb (EX_sI (by decide) (by decide))) (fun l h1 h2 => ?_)
    by_cases c2 : l = k
    · rw [c2, hI_sI_s]
    · rw [hI_sI_k c2]
      exact hl l (by omega) h2
def quietG (L : Law) (n : Nat) (D T P W : Nat → Int32) (hr rn : Int32) (N i : Int32) : Int32 := if 1 ≤ N ∧ N ≤ 12 ∧ (ofs P n).1 ≤ 3 ∧ ¬ i < -1 ∧ ¬ nI (ofs P n).1 ≤ i then (if i = -1 then (hqG L n D T P W hr rn N.toNatClampNeg (ofs P n).1 (ofs P n).2).1 else nI (dig (hqG L n D T P W hr rn N.toNatClampNeg (ofs P n).1 (ofs P n).2).2.toNatClampNeg (ofs P n).1 i.toNatClampNeg)) else -1
theorem in_off {i : Int32} {c : Nat} (hc : c ≤ 3) : bz ((-1 : Int64) ≤ i.toInt64 ∧ i.toInt64 ≤ (nI c).toInt64 - 1) = bz (¬ i < -1 ∧ ¬ nI c ≤ i) := by
  have e2 : (nI c).toInt64 - 1 = (nI c - 1).toInt64 ∧ (nI c - 1).toInt = (c : Int) - 1 ∧ (nI c).toInt = (c : Int) := by
    have : c = 0 ∨ c = 1 ∨ c = 2 ∨ c = 3 := by omega
    rcases this with rfl | rfl | rfl | rfl <;> decide
  rw [in_lit (x := -1) (y := (nI c).toInt64 - 1) (a := -1) (b := nI c - 1) (by decide) e2.1]
  have e : ((-1 : Int32) ≤ i ∧ i ≤ nI c - 1) ↔ (¬ i < -1 ∧ ¬ nI c ≤ i) := by
    rw [fa_le, fa_le, fa_lt, fa_le, e2.2.1, e2.2.2, show (-1 : Int32).toInt = -1 from by decide]
    omega
  unfold bz
  simp only [e]
theorem q_codes {c : Nat} {x1 i x4 : Int32} (hc : c ≤ 3) (K : Wp none d 245 112 [(0, .ref 126), (1, .int x1), (2, .int i), (3, .int (nI c)), (4, .int x4)] [.int (nI (10 ^ c))] M Q) : Wp none d 245 81 [(0, .ref 126), (1, .int x1), (2, .int i), (3, .int (nI c)), (4, .int x4)] [] M Q := by
  have : c = 0 ∨ c = 1 ∨ c = 2 ∨ c = 3 := by omega
  rcases this with rfl | rfl | rfl | rfl
  · rw [k245_81, k245_82, if_neg (by decide), k245_85]
    exact K
  · rw [k245_81, k245_82, if_pos (by decide), k245_89, k245_91, if_neg (by decide), k245_94]
    exact K
  · rw [k245_81, k245_82, if_pos (by decide), k245_89, k245_91, if_pos (by decide), k245_99, k245_101, if_neg (by decide), k245_104]
    exact K
  · rw [k245_81, k245_82, if_pos (by decide), k245_89, k245_91, if_pos (by decide), k245_99, k245_101, if_pos (by decide), k245_109]
    exact K
theorem mQuiet {n : Nat} {N i : Int32} {D T P W : Nat → Int32} {hr rn : Int32} {L : Law} (X : RP M n D T P W hr rn L) (HP : PegS P n) (H : ∀ M', Qry M M' → Q (some (.int (quietG L n D T P W hr rn N i))) M') : Wp none d 245 0 [(0, .ref 126), (1, .int N), (2, .int i)] [] M Q := by
  have n7 := X.n7
  have hcn := ofs_cnt P n
  have haj := ofs_at P n
  unfold quietG at H
  rw [k245_0 (m_9 X.F), o0_id X, k245_5]
  refine qc_loop X (fun M1 b1 h1 => ?_) n 0 M (by omega) (EX_refl _ _) (fun l q => absurd q (by unfold ofs; exact Nat.not_lt_zero l))
  generalize (ofs P n).1 = c at *
  generalize (ofs P n).2 = a at *
  have X1 := RP_EX X b1 rfl
  have q1 : Qry M M1 := ⟨EX_mono b1 (by intro x q; simp at q ⊢; omega), agr_I b1.1 (by decide), fun l _ => by rw [agr_I b1.1 (by decide)]⟩
  have bad : ¬ (1 ≤ N ∧ N ≤ 12 ∧ c ≤ 3 ∧ ¬ i < -1 ∧ ¬ nI c ≤ i) → ∀ x4, Wp none d 245 79 [(0, .ref 126), (1, .int N), (2, .int i), (3, .int (nI c)), (4, .int x4)] [] M1 Q := by
    intro z x4
    rw [if_neg z] at H
    rw [k245_79]
    exact H M1 q1
  rw [k245_47, k245_53, mIn, in_lit (x := 1) (y := 12) (a := 1) (b := 12) rfl rfl]
  simp only [oN]
  rw [k245_56]
  by_cases c1 : 1 ≤ N ∧ N ≤ 12
  case neg =>
    rw [if_pos (by rw [bz_eq0]; exact c1)]
    exact bad (fun q => c1 ⟨q.1, q.2.1⟩) _
  rw [if_neg (by rw [bz_eq0]; exact fun q => q c1), k245_59, k245_61]
  by_cases c2 : c ≤ 3
  case neg =>
    rw [if_pos (by rw [show (3 : Int32) = nI 3 from rfl, n_lt (by omega) (by omega)]; omega)]
    exact bad (fun q => c2 q.2.2.1) _
  rw [if_neg (by rw [show (3 : Int32) = nI 3 from rfl, n_lt (by omega) (by omega)]; omega), k245_64, k245_73, mIn, in_off c2]
  simp only [oN]
  rw [k245_76]
  by_cases c3 : ¬ i < -1 ∧ ¬ nI c ≤ i
  case neg =>
    rw [if_neg (by rw [bz_eq0]; exact fun q => q c3)]
    exact bad (fun q => c3 q.2.2.2) _
  rw [if_pos ⟨c1.1, c1.2, c2, c3⟩] at H
  rw [if_pos (by rw [bz_eq0]; exact fun q => q c3)]
  obtain ⟨m, hm, rfl⟩ : ∃ m, m ≤ 12 ∧ N = nI m := by
    have h0 : (0 : Int32) ≤ N := by
      have := c1.1
      rw [fa_le] at this ⊢
      rw [show (1 : Int32).toInt = 1 from rfl] at this
      rw [show (0 : Int32).toInt = 0 from rfl]
      omega
    have := cl_nI h0
    refine ⟨N.toNatClampNeg, ?_, this.1⟩
    have h2 := c1.2
    rw [this.1] at h2
    have h3 : nI N.toNatClampNeg ≤ nI 12 := h2
    rwa [n_le this.2 (by omega)] at h3
  rw [n_cl (by omega)] at H
  refine q_codes c2 ?_
  rw [k245_112, k245_125 (m_9 X1.F)]
  rw [show (16 : Int32) = nI 16 from rfl, mKeep X1.F (by omega)]
  simp only [oZ]
  rw [k245_128]
  obtain ⟨v, b, v1, v2, v3, v4⟩ := q_end (L := L) (D := D) (T := T) (W := W) (hr := hr) (rn := rn) (N := m) n7 c2 haj HP
  have e2 : hI (sIs M1 131 (17 * 16) 17 (fun i => hI M1 128 (4 + i))) 128 = hI M1 128 := by funext l; exact hI_sIs_a (by decide)
  have p2 : PpR M1 (sIs M1 131 (17 * 16) 17 (fun i => hI M1 128 (4 + i))) := ⟨EX_sIs (by decide) (by decide), fun i hi => hI_sIs_s (m := 272) hi, fun l _ => by rw [e2], fun l hl => hI_sIs_k (by omega)⟩
  have q2 : Qry M1 (sIs M1 131 (17 * 16) 17 (fun i => hI M1 128 (4 + i))) := ⟨EX_sIs (by decide) (by decide), e2, fun l hl => hI_sIs_k (by omega)⟩
  refine ql_loop X1 HP (by omega) c2 haj (nI v, nI b) (fun M3 q3 => ?_) (10 ^ c) 0 (100000000, -1) _ (by omega) p2 q2 (fun l hl => ?_) v3
  · have X3 := RP_Qry X1 q3
    have p10 := pow10 c2
    have q13 := Qry_trans q1 q3
    rw [k245_203]
    have eb : nI b = nI (b / 10 ^ (c - c)) := by rw [Nat.sub_self, Nat.pow_zero, Nat.div_one]
    have fin : ∀ M' x7 x8, EX [149] M3 M' → (∀ l, l < c → hI M' 149 l = nI (dig b c l)) → Wp none d 245 242 [(0, .ref 126), (1, .int (nI m)), (2, .int i), (3, .int (nI c)), (4, .int (nI (10 ^ c))), (5, .int (nI v)), (6, .int (nI b)), (7, .int x7), (8, .int x8)] [] M' Q := by
      intro M' x7 x8 bb hd
      have X' := RP_EX X3 bb rfl
      have q4 : Qry M M' := Qry_trans q13 ⟨EX_mono bb (by intro x q; simp at q ⊢; omega), agr_I bb.1 (by decide), fun l _ => by rw [agr_I bb.1 (by decide)]⟩
      have H1 := H M' q4
      rw [v4] at H1
      rw [k245_242, k245_245, if_pos (by rw [n_m1 (by omega)]; exact id), k245_252, k245_254]
      by_cases c5 : i = -1
      · rw [if_pos c5] at H1
        rw [if_neg (fun z => z c5), k245_257, k245_268]
        exact H1
      · rw [if_neg c5] at H1
        obtain ⟨l, hl, el⟩ : ∃ l, l < c ∧ i = nI l := by
          refine (vin_of2 ?_ c3.2 (by omega)).2
          intro z
          have h1 := c3.1
          rw [fa_lt, show (-1 : Int32).toInt = -1 from by decide] at h1
          rw [fa_lt, show (0 : Int32).toInt = 0 from rfl] at z
          exact c5 (Int32.toInt_inj.mp (by rw [show (-1 : Int32).toInt = -1 from by decide]; omega))
        rw [el] at H1 c5 ⊢
        rw [if_pos c5, m245_262 X'.F (by rw [vin_n (by omega)]; exact decide_eq_true (by omega)), n_cl (by omega), hd l hl, k245_268]
        have H1 : Q (some (.int (nI (dig (nI b).toNatClampNeg c (nI l).toNatClampNeg)))) M' := H1
        rw [n_cl (by omega), n_cl (by omega)] at H1
        exact H1
    have := ld_loop (d := d) (Q := Q) (x1 := nI m) (i := i) (x4 := nI (10 ^ c)) (x5 := nI v) (x6 := nI b) X3 c2 v2 fin c M3 (Nat.le_refl c) (EX_refl _ _) (fun l h1 h2 => absurd h1 (by omega))
    rw [← eb] at this
    exact this
  · rw [hI_sIs_a (by decide)]
    exact h1 l hl
