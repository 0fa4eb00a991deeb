variable {d : Nat} {M : hp} {Q : Option Value → hp → Prop}
/-! the reference's paper: what is lived and given back -/
theorem mIsHat {n : Nat} {i : Int32} {D T P W : Nat → Int32} {hr rn : Int32} {L : Law} (X : RP M n D T P W hr rn L) : Wp none d 165 0 [(0, .ref 126), (1, .int i)] [] M Q = Q (some (.int (bz (¬ i < 0 ∧ ¬ nI n ≤ i)))) M := by
  have n7 := X.n7
  rw [m165_0 X.F (by decide), show (0 : Int32).toNatClampNeg = 0 from rfl, X.n0, k165_12, mIn]
  simp only [oN]
  rw [k165_15 (bz_or _)]
  have e : ((0 : Int64) ≤ i.toInt64 ∧ i.toInt64 ≤ (nI n).toInt64 - 1) ↔ (¬ i < 0 ∧ ¬ nI n ≤ i) := by
    have h1 : ((0 : Int64) ≤ i.toInt64) ↔ (0 : Int32) ≤ i := by rw [← fa_wide_le]; exact Iff.rfl
    have h2 : (nI n).toInt64 - 1 = (nI n - 1).toInt64 := by
      have : n = 0 ∨ n = 1 ∨ n = 2 ∨ n = 3 ∨ n = 4 ∨ n = 5 ∨ n = 6 ∨ n = 7 := by omega
      rcases this with rfl | rfl | rfl | rfl | rfl | rfl | rfl | rfl <;> decide
    have h3 : (nI n - 1).toInt = (n : Int) - 1 := by
      have : n = 0 ∨ n = 1 ∨ n = 2 ∨ n = 3 ∨ n = 4 ∨ n = 5 ∨ n = 6 ∨ n = 7 := by omega
      rcases this with rfl | rfl | rfl | rfl | rfl | rfl | rfl | rfl <;> decide
    have h4 : (nI n).toInt = (n : Int) := by
      have : n = 0 ∨ n = 1 ∨ n = 2 ∨ n = 3 ∨ n = 4 ∨ n = 5 ∨ n = 6 ∨ n = 7 := by omega
      rcases this with rfl | rfl | rfl | rfl | rfl | rfl | rfl | rfl <;> decide
    rw [h1, h2, fa_wide_le, fa_le, fa_le, fa_lt, fa_le, h3, h4, show (0 : Int32).toInt = 0 from rfl]
    omega
  rw [show bz ((0 : Int64) ≤ i.toInt64 ∧ i.toInt64 ≤ (nI n).toInt64 - 1) = bz (¬ i < 0 ∧ ¬ nI n ≤ i) from by unfold bz; simp only [e]]
theorem in_lit {i : Int32} {a b : Int32} {x y : Int64} (hx : x = a.toInt64) (hy : y = b.toInt64) : bz (x ≤ i.toInt64 ∧ i.toInt64 ≤ y) = bz (a ≤ i ∧ i ≤ b) := by
  unfold bz
  simp only [hx, hy, fa_wide_le]
theorem mIsThought {t : Int32} : Wp none d 167 0 [(0, .int t)] [] M Q = Q (some (.int (bz (¬ t < 0 ∧ ¬ 8 ≤ t)))) M := by
  rw [k167_0, k167_6, mIn]
  simp only [oN]
  rw [k167_9 (bz_or _), in_lit (x := 0) (y := 7) (a := 0) (b := 7) rfl rfl]
  have e : ((0 : Int32) ≤ t ∧ t ≤ 7) ↔ (¬ t < 0 ∧ ¬ 8 ≤ t) := by
    rw [fa_le, fa_le, fa_lt, fa_le, show (0 : Int32).toInt = 0 from rfl, show (7 : Int32).toInt = 7 from rfl, show (8 : Int32).toInt = 8 from rfl]
    omega
  rw [show bz ((0 : Int32) ≤ t ∧ t ≤ 7) = bz (¬ t < 0 ∧ ¬ 8 ≤ t) from by unfold bz; simp only [e]]
theorem mIsPeg {t : Int32} : Wp none d 166 0 [(0, .int t)] [] M Q = Q (some (.int (bz (¬ t < 0 ∧ ¬ 10 ≤ t)))) M := by
  rw [k166_0, k166_6, mIn]
  simp only [oN]
  rw [k166_9 (bz_or _), in_lit (x := 0) (y := 9) (a := 0) (b := 9) rfl rfl]
  have e : ((0 : Int32) ≤ t ∧ t ≤ 9) ↔ (¬ t < 0 ∧ ¬ 10 ≤ t) := by
    rw [fa_le, fa_le, fa_lt, fa_le, show (0 : Int32).toInt = 0 from rfl, show (9 : Int32).toInt = 9 from rfl, show (10 : Int32).toInt = 10 from rfl]
    omega
  rw [show bz ((0 : Int32) ≤ t ∧ t ≤ 9) = bz (¬ t < 0 ∧ ¬ 10 ≤ t) from by unfold bz; simp only [e]]
/-- the row's living cells are kept on paper -/
def PpR (M M' : hp) : Prop := EX [147, 128, 131, 148, 149, 150] M M' ∧ (∀ i, i < 17 → hI M' 131 (272 + i) = hI M 128 (4 + i)) ∧ (∀ l, ¬ (4 ≤ l ∧ l < 21) → hI M' 128 l = hI M 128 l) ∧ ∀ l, l < 272 → hI M' 131 l = hI M 131 l
/-- all is given back -/
def Qry (M M' : hp) : Prop := EX [147, 128, 131, 148, 149, 150] M M' ∧ hI M' 128 = hI M 128 ∧ ∀ l, l < 272 → hI M' 131 l = hI M 131 l
theorem Qry_refl (M : hp) : Qry M M := ⟨EX_refl _ _, rfl, fun _ _ => rfl⟩
theorem EX3 {M M' : hp} (h : EX [147, 128] M M') : EX [147, 128, 131, 148, 149, 150] M M' := EX_mono h (by intro a q; simp at q ⊢; omega)
theorem EX1 {M M' : hp} (h : EX [147] M M') : EX [147, 128, 131, 148, 149, 150] M M' := EX_mono h (by intro a q; simp at q ⊢; omega)
theorem Qry_EX {M M' : hp} (h : EX [147] M M') : Qry M M' := ⟨EX1 h, agr_I h.1 (by decide), fun l _ => by rw [agr_I h.1 (by decide)]⟩
theorem Qry_EC {M M' : hp} (h : EC M M') : Qry M M' := Qry_EX (EX_EC h)
theorem Qry_trans {M M1 M2 : hp} (h : Qry M M1) (h2 : Qry M1 M2) : Qry M M2 := ⟨EX_trans h.1 h2.1, h2.2.1.trans h.2.1, fun l q => (h2.2.2 l q).trans (h.2.2 l q)⟩
theorem RP_Qry {M' : hp} {n : Nat} {D T P W : Nat → Int32} {hr rn : Int32} {L : Law} (X : RP M n D T P W hr rn L) (b : Qry M M') : RP M' n D T P W hr rn L :=
  RP_of X (MF_agr X.F b.1.1) b.2.1 ((b.1.2.1 20 (by decide) (by decide)).trans X.o20) ((b.1.2.1 0 (by decide) (by decide)).trans X.o0)
theorem mKeep16 {n : Nat} {D T P W : Nat → Int32} {hr rn : Int32} {L : Law} (X : RP M n D T P W hr rn L) (H : ∀ M', PpR M M' → RP M' n D T P W hr rn L → Qry M M' → Q none M') : Wp none d 159 0 [(0, .ref 126), (1, .int 16)] [] M Q := by
  have := mKeep (d := d) (Q := Q) (k := 16) X.F (by omega)
  refine (show _ = _ from this).mpr ?_
  have e : hI (sIs M 131 (17 * 16) 17 (fun i => hI M 128 (4 + i))) 128 = hI M 128 := by funext l; exact hI_sIs_a (by decide)
  refine H _ ⟨EX_sIs (by decide) (by decide), fun i hi => ?_, fun l _ => by rw [e], fun l hl => hI_sIs_k (by omega)⟩ (RP_of X X.F e ?_ ?_) ⟨EX_sIs (by decide) (by decide), e, fun l hl => hI_sIs_k (by omega)⟩
  · exact hI_sIs_s (m := 272) hi
  · rw [hI_sIs_a (by decide)]; exact X.o20
  · rw [hI_sIs_a (by decide)]; exact X.o0
theorem put_st {M0 : hp} (p : PpR M0 M) : Qry M0 (sIs M 128 4 17 (fun i => hI M 131 (17 * 16 + i))) ∧ PpR M0 (sIs M 128 4 17 (fun i => hI M 131 (17 * 16 + i))) := by
  have e : hI (sIs M 128 4 17 (fun i => hI M 131 (17 * 16 + i))) 128 = hI M0 128 := by
    funext l
    by_cases c : 4 ≤ l ∧ l < 21
    · have := hI_sIs_s (M := M) (a := 128) (m := 4) (n := 17) (k' := l - 4) (g := fun i => hI M 131 (17 * 16 + i)) (by omega)
      rw [show 4 + (l - 4) = l by omega] at this
      rw [this]
      have := p.2.1 (l - 4) (by omega)
      rw [show 4 + (l - 4) = l by omega] at this
      exact this
    · rw [hI_sIs_k (by omega)]
      exact p.2.2.1 l c
  have e2 : hI (sIs M 128 4 17 (fun i => hI M 131 (17 * 16 + i))) 131 = hI M 131 := by funext l; exact hI_sIs_a (by decide)
  have b : EX [147, 128, 131, 148, 149, 150] M0 (sIs M 128 4 17 (fun i => hI M 131 (17 * 16 + i))) := EX_trans p.1 (EX_sIs (by decide) (by decide))
  exact ⟨⟨b, e, fun l hl => by rw [e2]; exact p.2.2.2 l hl⟩, ⟨b, fun i hi => by rw [e2]; exact p.2.1 i hi, fun l _ => by rw [e], fun l hl => by rw [e2]; exact p.2.2.2 l hl⟩⟩
theorem mPut16 {M0 : hp} (F : MF M) (p : PpR M0 M) (H : ∀ M', Qry M0 M' → PpR M0 M' → Q none M') : Wp none d 160 0 [(0, .ref 126), (1, .int 16)] [] M Q := by
  have := mPut (d := d) (Q := Q) (k := 16) F (by omega)
  refine (show _ = _ from this).mpr ?_
  exact H _ (put_st p).1 (put_st p).2
theorem PpR_hour {M0 M' : hp} (p : PpR M0 M) (b : EX [147, 128] M M') (h : hrC M M') : PpR M0 M' := by
  have e2 : hI M' 131 = hI M 131 := agr_I b.1 (by decide)
  exact ⟨EX_trans p.1 (EX3 b), fun i hi => by rw [e2]; exact p.2.1 i hi, fun l hl => (h l (by omega) (by omega)).trans (p.2.2.1 l hl), fun l hl => by rw [e2]; exact p.2.2.2 l hl⟩
theorem PpR_EC {M0 M' : hp} (p : PpR M0 M) (b : EC M M') : PpR M0 M' := PpR_hour p (EX_EC b) (fun l _ _ => by rw [agr_I b.1 (by decide)])
theorem PpR_peg {M0 : hp} {j : Nat} {v : Int32} (p : PpR M0 M) (hj : j < 7) : PpR M0 (sI M 128 (7 + j) v) :=
  ⟨EX_trans p.1 (EX_sI (by decide) (by decide)), fun i hi => by rw [hI_sI_a (by decide)]; exact p.2.1 i hi, fun l hl => by rw [hI_sI_k (by omega)]; exact p.2.2.1 l hl, fun l hl => by rw [hI_sI_a (by decide)]; exact p.2.2.2 l hl⟩
theorem RP_peg {n j : Nat} {v : Int32} {D T P W : Nat → Int32} {hr rn : Int32} {L : Law} (X : RP M n D T P W hr rn L) (hj : j < 7) : RP (sI M 128 (7 + j) v) n D T (updI P j v) W hr rn L :=
  ⟨X.F, by rw [hI_sI_a (by decide)]; exact X.o20, by rw [hI_sI_a (by decide)]; exact X.o0, MLaw_47 X.law (hI_sI_k (by omega)) (fun l hl => hI_sI_k (by omega)), by rw [hI_sI_k (by omega)]; exact X.n0, X.n7, fun i hi => by rw [hI_sI_k (by omega)]; exact X.rD i hi, fun i hi => by rw [hI_sI_k (by omega)]; exact X.rT i hi, fun i hi => by
    unfold updI
    by_cases c : i = j
    · rw [c, if_pos rfl, hI_sI_s]
    · rw [if_neg c, hI_sI_k (by omega)]; exact X.rP i hi, fun i hi => by rw [hI_sI_k (by omega)]; exact X.rW i hi, by rw [hI_sI_k (by omega)]; exact X.rh, by rw [hI_sI_k (by omega)]; exact X.rr⟩
/-- hats that are there -/
abbrev hatOk (n : Nat) (i : Int32) : Prop := ¬ i < 0 ∧ ¬ nI n ≤ i
theorem hatOk_j {n : Nat} {i : Int32} (hn : n ≤ 7) (h : hatOk n i) : ∃ j, j < n ∧ i = nI j := (vin_of2 h.1 h.2 (by omega)).2
theorem RP_wp {n j : Nat} {v : Int32} (hj : j < 7) (F : MF M) : (7 : Int32) + nI j = nI (7 + j) := by rw [show (7 : Int32) = nI 7 from rfl, nI_add]
/-- later() -/
def laterF (L : Law) (n : Nat) (D T P W : Nat → Int32) (hr rn : Int32) (i N : Int32) : Int32 := if hatOk n i ∧ 0 ≤ N ∧ N ≤ 60 then (itG L D T P n rn N.toNatClampNeg (W, hr)).1 i.toNatClampNeg else -1
theorem mLater {n : Nat} {i N : Int32} {D T P W : Nat → Int32} {hr rn : Int32} {L : Law} (X : RP M n D T P W hr rn L) (HP : PegS P n) (H : ∀ M', Qry M M' → Q (some (.int (laterF L n D T P W hr rn i N))) M') : Wp none d 236 0 [(0, .ref 126), (1, .int i), (2, .int N)] [] M Q := by
  have n7 := X.n7
  unfold laterF at H
  rw [k236_0 (m_9 X.F), o0_id X, k236_5, k236_7 (m_9 X.F), mIsHat X]
  simp only [oN]
  rw [k236_10]
  by_cases c : ¬ i < 0 ∧ ¬ nI n ≤ i
  · rw [if_neg (by rw [bz_eq0]; exact fun q => q c), k236_13, k236_19, mIn, in_lit (x := 0) (y := 60) (a := 0) (b := 60) rfl rfl]
    simp only [oN]
    rw [k236_22]
    by_cases c2 : 0 ≤ N ∧ N ≤ 60
    · rw [if_pos ⟨c, c2⟩] at H
      obtain ⟨j, hj, rfl⟩ := hatOk_j n7 c
      obtain ⟨m, hm, rfl⟩ : ∃ m, m ≤ 60 ∧ N = nI m := by
        have := cl_nI c2.1
        refine ⟨N.toNatClampNeg, ?_, this.1⟩
        have h2 := c2.2
        rw [this.1] at h2
        have h3 : nI N.toNatClampNeg ≤ nI 60 := h2
        rwa [n_le this.2 (by omega)] at h3
      have e14 : (14 : Int32) + nI j = nI (14 + j) := by rw [show (14 : Int32) = nI 14 from rfl, nI_add]
      rw [n_cl (by omega), n_cl (by omega)] at H
      rw [if_pos (by rw [bz_eq0]; exact fun q => q c2), k236_27, k236_30 (m_9 X.F)]
      refine mKeep16 X (fun M1 p1 X1 q1 => ?_)
      simp only [oZ]
      rw [k236_33, k236_35 (m_9 X1.F)]
      refine mLive (by omega) X1 HP (fun M2 b2 X2 fr2 => ?_)
      simp only [oZ]
      rw [m236_38 X2.F (by rw [e14]; exact v54 (by omega)), e14, n_cl (by omega), X2.rW j (by omega), k236_51 (m_9 X2.F)]
      refine mPut16 X2.F (PpR_hour p1 b2 fr2) (fun M3 q3 _ => ?_)
      simp only [oZ]
      rw [k236_54]
      exact H M3 q3
    · rw [if_neg (fun q => c2 q.2)] at H
      rw [if_neg (by rw [bz_eq0]; exact fun q => q c2), k236_25]
      exact H M (Qry_refl M)
  · rw [if_neg (fun q => c q.1)] at H
    rw [if_pos (by rw [bz_eq0]; exact c), k236_25]
    exact H M (Qry_refl M)
