variable {d : Nat} {M : hp} {Q : Option Value → hp → Prop}
/-! few() and compare() -/
def pmF (p : Nat → Int64) (i : Nat) : Int64 := if i = 0 then 0 else p (i - 1)
def rdF (k : Nat) (l : Int64) (p : Nat → Int64) : Nat → Int64 := fun i => if i < k then (p i * (10 - l)) / 10 + (pmF p i * l) / 10 else p i
def fwIt (k : Nat) (l : Int64) : Nat → (Nat → Int64) → (Nat → Int64)
  | 0, p => p
  | m + 1, p => fwIt k l m (rdF k l p)
def fwS (p : Nat → Int64) (k : Nat) : Int64 := fo (fun j s => s + p j) 0 k 0
def fw0 : Nat → Int64 := fun j => if j = 0 then 1000000000000 else 0
theorem cf_in {M0 : hp} {k : Nat} {l : Int64} {p : Nat → Int64} (X0 : XS M0) (hk : k ≤ 20) (K : ∀ M', agr [124] M0 M' → (∀ j, j < 20 → hL M' 124 j = rdF k l p j) → Q none M') : ∀ (i : Nat) (M : hp), i ≤ k → agr [124] M0 M → (∀ j, j < 20 → hL M 124 j = if j < i then p j else rdF k l p j) → Wp none d 142 14 [(0, .ref 64), (1, .int (nI k)), (2, .long l), (4, .int (nI i - 1))] [] M Q := by
  intro i
  induction i with
  | zero =>
    intro M hi a h
    rw [k142_14, k142_16, if_pos (by decide), k142_75]
    exact K M a (fun j hj => by rw [h j hj, if_neg (by omega)])
  | succ i ih =>
    intro M hi a h
    have X : XS M := XS_same (sameS_agq (agq_of (B := []) a) (by intro x q; simp at q)) X0
    have e1 : nI (i + 1) - 1 = nI i := n_subl (n := 1) (by omega)
    have g1 : gL M 124 20 (nI i) = p i := by rw [gL_n (by omega) (by omega), h i (by omega), if_pos (by omega)]
    have g2 : gL M 124 20 (nI i - 1) = pmF p i := by
      unfold pmF
      by_cases c : i = 0
      · subst c
        rw [if_pos rfl]
        unfold gL
        rw [if_pos (by decide)]
      · rw [if_neg c, show nI i - 1 = nI (i - 1) from n_subl (n := 1) (by omega), gL_n (by omega) (by omega), h (i - 1) (by omega), if_pos (by omega)]
    have er : (p i * (10 - l)) / 10 + (pmF p i * l) / 10 = rdF k l p i := by
      unfold rdF
      rw [if_pos (by omega)]
    rw [e1, k142_14, k142_16, if_neg (nI_pos (by omega)), x142_19 X, k142_25, T_atL (x_K124 X) (by decide) (by omega), g1]
    simp only [oN]
    rw [x142_28 X, k142_56, T_atL (x_K124 X) (by decide) (by omega), g2]
    simp only [oM]
    rw [k142_59, er, k142_66, T_putL (x_K124 X) (by decide) (by omega), pL_n (by omega) (by omega)]
    simp only [oZ]
    rw [k142_69, n_addm1]
    refine ih _ (by omega) (agr_trans a (agr_sL (by decide))) (fun j hj => ?_)
    by_cases c : j = i
    · rw [c, hL_sL_s, if_neg (by omega)]
    · rw [hL_sL_k c, h j hj]
      by_cases c2 : j < i
      · rw [if_pos c2, if_pos (by omega)]
      · rw [if_neg c2, if_neg (by omega)]
theorem T_leak {k : Nat} {p : Nat → Int64} (X : XS M) (hk1 : 1 ≤ k) (hk : k ≤ 20) (h : ∀ j, j < 20 → hL M 124 j = p j) (K : ∀ M', agr [124] M M' → (∀ j, j < 20 → hL M' 124 j = rdF k (hI M 65 6).toInt64 p j) → Q none M') : Wp none d 142 0 [(0, .ref 64), (1, .int (nI k))] [] M Q := by
  rw [x142_0 X]
  exact cf_in X hk K k M (Nat.le_refl k) (agr_refl _ _) (fun j hj => by
    rw [h j hj]
    by_cases c : j < k
    · rw [if_pos c]
    · rw [if_neg c]
      unfold rdF
      rw [if_neg c])
theorem cf_loop {M0 : hp} {k N : Nat} {l : Int32} {f : Nat → Int64} (X0 : XS M0) (hk1 : 1 ≤ k) (hk : k ≤ 20) (hl : hI M0 65 6 = l) (hN : N ≤ 99) (K : ∀ M', agr [124] M0 M' → (∀ j, j < 20 → hL M' 124 j = f j) → Wp none d 122 61 [(0, .ref 64), (1, .int (nI k)), (2, .int (nI N)), (3, .int (nI N))] [] M' Q) : ∀ (m i : Nat) (p : Nat → Int64) (M : hp), i + m = N → agr [124] M0 M → (∀ j, j < 20 → hL M 124 j = p j) → fwIt k l.toInt64 m p = f → Wp none d 122 45 [(0, .ref 64), (1, .int (nI k)), (2, .int (nI N)), (3, .int (nI i))] [] M Q := by
  intro m
  induction m with
  | zero =>
    intro i p M e a h hf
    have : i = N := by omega
    subst this
    have hf : p = f := hf
    rw [k122_45, k122_47, if_pos (by rw [n_le (by omega) (by omega)]; omega)]
    exact K M a (fun j hj => by rw [← hf]; exact h j hj)
  | succ m ih =>
    intro i p M e a h hf
    have X : XS M := XS_same (sameS_agq (agq_of (B := []) a) (by intro x q; simp at q)) X0
    rw [k122_45, k122_47, if_neg (by rw [n_le (by omega) (by omega)]; omega), k122_50, k122_52 (x_K64 X)]
    refine T_leak X hk1 hk h (fun M' a' h' => ?_)
    simp only [oZ]
    rw [k122_55, nI_1]
    refine ih (i + 1) _ M' (by omega) (agr_trans a a') (fun j hj => ?_) hf
    rw [h' j hj, agr_I a (a := 65) (by decide), hl]
/-- the reference's round -/
theorem mf_in {M0 : hp} {k : Nat} {l x2 x4 : Int32} {p : Nat → Int64} (F0 : MF M0) (hk : k ≤ 20) (hl : (10 - l).toInt64 = 10 - l.toInt64) (K : ∀ M', agr [150] M0 M' → (∀ j, j < k → hL M' 150 j = rdF k l.toInt64 p j) → Wp none d 255 145 [(0, .ref 126), (1, .int (nI k)), (2, .int x2), (3, .int l), (4, .int x4), (5, .int (-1))] [] M' Q) : ∀ (i : Nat) (M : hp), i ≤ k → agr [150] M0 M → (∀ j, j < k → hL M 150 j = if j < i then p j else if j = i then (p j * (10 - l.toInt64)) / 10 else rdF k l.toInt64 p j) → Wp none d 255 85 [(0, .ref 126), (1, .int (nI k)), (2, .int x2), (3, .int l), (4, .int x4), (5, .int (nI i - 1))] [] M Q := by
  intro i
  induction i with
  | zero =>
    intro M hi a h
    rw [k255_85, k255_87, show nI 0 - 1 = -1 from by decide, if_pos (by decide)]
    refine K M a (fun j hj => ?_)
    rw [h j hj, if_neg (by omega)]
    by_cases c : j = 0
    · rw [if_pos c]
      unfold rdF pmF
      rw [if_pos hj, if_pos c]
      rw [Int64.zero_mul, show (0 : Int64) / 10 = 0 from by decide, Int64.add_zero]
    · rw [if_neg c]
  | succ i ih =>
    intro M hi a h
    have F := MF_agr F0 a
    have e1 : nI (i + 1) - 1 = nI i := n_subl (n := 1) (by omega)
    have v21 : ∀ j, j < 21 → vin (nI j) 21 = true := fun j q => by rw [vin_n (by omega)]; exact decide_eq_true q
    have F1 : MF (sL M 150 i ((hL M 150 i * (10 - l).toInt64) / 10)) := F
    have hp : hL M 150 i = p i := by rw [h i (by omega), if_pos (by omega)]
    rw [e1, k255_85, k255_87, if_neg (nI_pos (by omega)), m255_90 F (v21 i (by omega)), n_cl (by omega), m255_118 F1 (by rw [nI_1]; exact v21 _ (by omega)), nI_1, n_cl (by omega), k255_139, n_addm1, hp, hl]
    have e2 : hL (sL M 150 i ((p i * (10 - l.toInt64)) / 10)) 150 (i + 1) = hL M 150 (i + 1) := hL_sL_k (by omega)
    rw [e2]
    refine ih _ (by omega) (agr_trans a (agr_trans (agr_sL (by decide)) (agr_sL (by decide)))) (fun j hj => ?_)
    by_cases c : j = i + 1
    · subst c
      rw [hL_sL_s, if_neg (by omega), if_neg (by omega), h (i + 1) hj, if_neg (by omega), if_pos rfl]
      unfold rdF pmF
      rw [if_pos hj, if_neg (by omega), Nat.add_sub_cancel]
    · rw [hL_sL_k c]
      by_cases c2 : j = i
      · subst c2
        rw [hL_sL_s, if_neg (by omega), if_pos rfl]
      · rw [hL_sL_k c2, h j hj, if_neg (c := j = i + 1) c, if_neg (c := j = i) c2]
        by_cases c3 : j < i
        · rw [if_pos c3, if_pos (by omega)]
        · rw [if_neg c3, if_neg (by omega)]
theorem mf_loop {M0 : hp} {k N : Nat} {l : Int32} {f : Nat → Int64} (F0 : MF M0) (hk1 : 1 ≤ k) (hk : k ≤ 20) (hl : (10 - l).toInt64 = 10 - l.toInt64) (hN : N ≤ 99) (K : ∀ M', agr [150] M0 M' → (∀ j, j < k → hL M' 150 j = f j) → Wp none d 255 151 [(0, .ref 126), (1, .int (nI k)), (2, .int (nI N)), (3, .int l), (4, .int (nI N))] [] M' Q) : ∀ (m i : Nat) (p q : Nat → Int64) (M : hp), i + m = N → agr [150] M0 M → (∀ j, j < k → hL M 150 j = p j) → (∀ j, j < k → fwIt k l.toInt64 m p j = f j) → Wp none d 255 74 [(0, .ref 126), (1, .int (nI k)), (2, .int (nI N)), (3, .int l), (4, .int (nI i))] [] M Q := by
  intro m
  induction m with
  | zero =>
    intro i p q M e a h hf
    have : i = N := by omega
    subst this
    rw [k255_74, k255_77, if_pos (by rw [n_le (by omega) (by omega)]; omega)]
    exact K M a (fun j hj => (h j hj).trans (hf j hj))
  | succ m ih =>
    intro i p q M e a h hf
    have F := MF_agr F0 a
    rw [k255_74, k255_77, if_neg (by rw [n_le (by omega) (by omega)]; omega), k255_80]
    refine mf_in (M0 := M) (p := p) F hk hl (fun M' a' h' => ?_) k M (Nat.le_refl k) (agr_refl _ _) (fun j hj => by rw [h j hj, if_pos hj])
    rw [k255_145, nI_1]
    exact ih (i + 1) (rdF k l.toInt64 p) q M' (by omega) (agr_trans a a') h' hf
theorem fw_cong (k : Nat) {p q : Nat → Int64} (h : ∀ j, j < k → p j = q j) : fwS p k = fwS q k := fo_cong k 0 0 (fun j s _ hj => by rw [h j (by omega)])
def fewG (l : Int32) (k N : Int32) : Int64 := if 1 ≤ k ∧ k ≤ 20 ∧ 0 ≤ N ∧ N ≤ 99 then fwS (fwIt k.toNatClampNeg l.toInt64 N.toNatClampNeg fw0) k.toNatClampNeg else -1
theorem mFew {k N l : Int32} {n : Nat} {D T P W : Nat → Int32} {hr rn : Int32} {L : Law} (Y : RP M n D T P W hr rn L) (h5 : hI M 128 5 = l) (hl : (10 - l).toInt64 = 10 - l.toInt64) (H : ∀ M', Qry M M' → Q (some (.long (fewG l k N))) M') : Wp none d 255 0 [(0, .ref 126), (1, .int k), (2, .int N)] [] M Q := by
  have F := Y.F
  unfold fewG at H
  have bad : ¬ (1 ≤ k ∧ k ≤ 20 ∧ 0 ≤ N ∧ N ≤ 99) → Wp none d 255 29 [(0, .ref 126), (1, .int k), (2, .int N)] [] M Q := by
    intro c
    rw [if_neg c] at H
    rw [k255_29]
    exact H M (Qry_refl M)
  rw [k255_0 (m_9 F), o0_id Y, k255_5, k255_11, mIn, in_lit (x := 1) (y := 20) (a := 1) (b := 20) rfl rfl]
  simp only [oN]
  rw [k255_14]
  by_cases c : 1 ≤ k ∧ k ≤ 20
  case neg =>
    rw [if_pos (by rw [bz_eq0]; exact c)]
    exact bad (fun q => c ⟨q.1, q.2.1⟩)
  rw [if_neg (by rw [bz_eq0]; exact fun q => q c), k255_17, k255_23, mIn, in_lit (x := 0) (y := 99) (a := 0) (b := 99) rfl rfl]
  simp only [oN]
  rw [k255_26]
  by_cases c2 : 0 ≤ N ∧ N ≤ 99
  case neg =>
    rw [if_neg (by rw [bz_eq0]; exact fun q => q c2)]
    exact bad (fun q => c2 q.2.2)
  rw [if_pos ⟨c.1, c.2, c2⟩] at H
  have ck : ¬ k < 0 := by
    have := c.1
    rw [fa_le, show (1 : Int32).toInt = 1 from rfl] at this
    rw [fa_lt, show (0 : Int32).toInt = 0 from rfl]
    omega
  obtain ⟨kk, k20, rfl⟩ := n_of (b := 20) ck c.2 (by omega)
  obtain ⟨m, hm, rfl⟩ := n_of (b := 99) (i_le.mp c2.1) c2.2 (by omega)
  have k1 : 1 ≤ kk := by
    have := c.1
    rw [show (1 : Int32) = nI 1 from rfl, n_le (by omega) (by omega)] at this
    exact this
  rw [n_cl (by omega), n_cl (by omega)] at H
  have v21 : ∀ j, j < 21 → vin (nI j) 21 = true := fun j q => by rw [vin_n (by omega)]; exact decide_eq_true q
  have ini : ∀ (m' i : Nat) (M1 : hp), i + m' = 21 → agr [150] M M1 → (∀ j, j < i → hL M1 150 j = fw0 j) → Wp none d 255 35 [(0, .ref 126), (1, .int (nI kk)), (2, .int (nI m)), (3, .int (nI i))] [] M1 Q := by
    intro m'
    induction m' with
    | zero =>
      intro i M1 e a h
      have F1 := MF_agr F a
      have h5' : hI M1 128 5 = l := by rw [agr_I a (a := 128) (by decide)]; exact h5
      rw [k255_35, k255_38, show (21 : Int32) = nI 21 from rfl, if_pos (by rw [n_le (by omega) (by omega)]; omega), m255_64 F1 (by decide), show (5 : Int32).toNatClampNeg = 5 from rfl, h5']
      refine mf_loop (M0 := M1) (f := fwIt kk l.toInt64 m fw0) F1 k1 k20 hl hm (fun M2 a2 h2 => ?_) m 0 fw0 fw0 M1 (by omega) (agr_refl _ _) (fun j hj => h j (by omega)) (fun j _ => rfl)
      have F2 := MF_agr F1 a2
      have key := for_up (W := fun j s => Wp none d 255 157 [(0, .ref 126), (1, .int (nI kk)), (2, .int (nI m)), (3, .int l), (4, .long s), (6, .int (nI j))] [] M2 Q) (f := fun j s => s + hL M2 150 j) (n := kk) (fun j s hj => by
        show Wp none d 255 157 [(0, .ref 126), (1, .int (nI kk)), (2, .int (nI m)), (3, .int l), (4, .long s), (6, .int (nI j))] [] M2 Q = Wp none d 255 157 [(0, .ref 126), (1, .int (nI kk)), (2, .int (nI m)), (3, .int l), (4, .long (s + hL M2 150 j)), (6, .int (nI (j + 1)))] [] M2 Q
        rw [k255_157, k255_160, if_neg (by rw [n_le (by omega) (by omega)]; omega), m255_163 F2 (v21 j (by omega)), n_cl (by omega), nI_1]) kk 0 0 (by omega)
      rw [k255_151]
      refine (show _ = _ from key).mpr ?_
      show Wp none d 255 157 [(0, .ref 126), (1, .int (nI kk)), (2, .int (nI m)), (3, .int l), (4, .long (fwS (hL M2 150) kk)), (6, .int (nI kk))] [] M2 Q
      rw [k255_157, k255_160, if_pos (by rw [n_le (by omega) (by omega)]; omega), k255_181, fw_cong kk h2]
      have b : agr [150] M M2 := agr_trans a a2
      refine H M2 ⟨⟨agr_mono b (by intro x q; simp at q ⊢; omega), fun _ _ _ => by rw [agr_I b (by decide)], fun _ _ _ => by rw [agr_L b (by decide)]⟩, agr_I b (by decide), fun x _ => by rw [agr_I b (by decide)]⟩
    | succ m' ih =>
      intro i M1 e a h
      have F1 := MF_agr F a
      have go : ∀ v, v = fw0 i → Wp none d 255 57 [(0, .ref 126), (1, .int (nI kk)), (2, .int (nI m)), (3, .int (nI i))] [.long v, .int (nI i), .ref 150] M1 Q := by
        intro v hv
        rw [m255_57 F1 (by rw [m_K150 F1]) (by rw [m_K150 F1]; exact v21 i (by omega)), n_cl (by omega), k255_58, nI_1]
        refine ih (i + 1) _ (by omega) (agr_trans a (agr_sL (by decide))) (fun j hj => ?_)
        by_cases c4 : j = i
        · rw [c4, hL_sL_s, hv]
        · rw [hL_sL_k c4]
          exact h j (by omega)
      rw [k255_35, k255_38, show (21 : Int32) = nI 21 from rfl, if_neg (by rw [n_le (by omega) (by omega)]; omega), m255_41 F1, k255_47]
      by_cases c3 : i = 0
      · rw [if_neg (by rw [c3]; decide), k255_50]
        exact go _ (by unfold fw0; rw [if_pos c3])
      · rw [if_pos (by show ¬ nI i = nI 0; rw [n_eq (by omega) (by omega)]; exact c3), k255_56]
        exact go _ (by unfold fw0; rw [if_neg c3])
  rw [if_pos (by rw [bz_eq0]; exact fun q => q c2), k255_33]
  exact ini 21 0 M (by omega) (agr_refl _ _) (fun j q => absurd q (by omega))
theorem p_few {k N : Int32} (S : Sim M) (K : Alk d 255 [(0, .ref 126), (1, .int k), (2, .int N)] M Q) : Wp none d 122 0 [(0, .ref 64), (1, .int k), (2, .int N)] [] M Q := by
  obtain ⟨n, nl, lw, X, H, HO, Y⟩ := Sim_get S
  have P := H.2.1
  obtain ⟨x, x10, hx⟩ := P.2.2.2.2.2.2.2.2
  have hl : (10 - hI M 65 6).toInt64 = 10 - (hI M 65 6).toInt64 := by
    rw [hx]
    have : x = 0 ∨ x = 1 ∨ x = 2 ∨ x = 3 ∨ x = 4 ∨ x = 5 ∨ x = 6 ∨ x = 7 ∨ x = 8 ∨ x = 9 ∨ x = 10 := by omega
    rcases this with rfl | rfl | rfl | rfl | rfl | rfl | rfl | rfl | rfl | rfl | rfl <;> decide
  have fin : ∀ v M1, agr [124] M M1 → v = fewG (hI M 65 6) k N → Q (some (.long v)) M1 := by
    intro v M1 a hv
    subst hv
    have q : agq QE [76] M M1 := agq_of (agr_mono a (by intro x q; simp [QE] at q ⊢; omega))
    refine qry_end S q (HallZ_fr (q_z S) (fun r hr => agr_I a (by simp; omega))) K (fun Q2 h => mFew (RP_a Y q) ?_ hl h)
    rw [agr_I a (a := 128) (by decide)]
    exact P.2.2.2.2.1.2.1
  unfold fewG at fin
  have bad : ¬ (1 ≤ k ∧ k ≤ 20 ∧ 0 ≤ N ∧ N ≤ 99) → Wp none d 122 21 [(0, .ref 64), (1, .int k), (2, .int N)] [] M Q := by
    intro c
    rw [if_neg c] at fin
    rw [k122_21]
    exact fin _ M (agr_refl _ _) rfl
  rw [k122_0, k122_2]
  by_cases c1 : k < 1
  · rw [if_pos c1]
    exact bad (fun q => i_le.mp q.1 c1)
  rw [if_neg c1, k122_5, k122_8]
  by_cases c2 : 20 < k
  · rw [if_pos c2]
    exact bad (fun q => i_le.mp q.2.1 c2)
  rw [if_neg c2, k122_11, k122_12]
  by_cases c3 : N < 0
  · rw [if_pos c3]
    exact bad (fun q => i_le.mp q.2.2.1 c3)
  rw [if_neg c3, k122_15, k122_18]
  by_cases c4 : N ≤ 99
  case neg =>
    rw [if_neg c4]
    exact bad (fun q => c4 q.2.2.2)
  rw [if_pos ⟨i_le.mpr c1, i_le.mpr c2, i_le.mpr c3, c4⟩] at fin
  have ck : ¬ k < 0 := by
    rw [fa_lt, show (1 : Int32).toInt = 1 from rfl] at c1
    rw [fa_lt, show (0 : Int32).toInt = 0 from rfl]
    omega
  obtain ⟨kk, k20, rfl⟩ := n_of (b := 20) ck (i_le.mpr c2) (by omega)
  obtain ⟨m, hm, rfl⟩ := n_of (b := 99) c3 c4 (by omega)
  have k1 : 1 ≤ kk := by
    rw [show (1 : Int32) = nI 1 from rfl, n_lt (by omega) (by omega)] at c1
    omega
  rw [n_cl (by omega), n_cl (by omega)] at fin
  have X1 : XS (sLs M 124 0 20 (fun _ => 0)) := X
  rw [if_pos c4, x122_25 X, k122_29, T_clear (x_K124 X) (by decide) (by omega)]
  simp only [oZ]
  rw [x122_32 X1, k122_40, show (0 : Int32) = nI 0 from rfl, T_putL (x_K124 X1) (by decide) (by omega), pL_n (by omega) (by omega)]
  simp only [oZ]
  have a0 : agr [124] M (sL (sLs M 124 0 20 (fun _ => 0)) 124 0 1000000000000) := ⟨rfl, rfl, rfl, rfl, fun x q => ⟨rfl, by
    have : ¬ x = 124 := by intro e; rw [e] at q; exact absurd q (by decide)
    funext j
    rw [hL_sL_a this, hL_sLs, if_neg (fun z => this z.1)]⟩⟩
  have X2 : XS (sL (sLs M 124 0 20 (fun _ => 0)) 124 0 1000000000000) := X
  rw [k122_43]
  refine cf_loop (M0 := sL (sLs M 124 0 20 (fun _ => 0)) 124 0 1000000000000) (l := hI M 65 6) (f := fwIt kk (hI M 65 6).toInt64 m fw0) X2 k1 k20 rfl hm (fun M2 a2 h2 => ?_) m 0 fw0 _ (by omega) (agr_refl _ _) (fun j hj => ?_) rfl
  · have X3 : XS M2 := XS_same (sameS_agq (agq_of (B := []) a2) (by intro x q; simp at q)) X2
    have key := for_up (W := fun j s => Wp none d 122 66 [(0, .ref 64), (1, .int (nI kk)), (2, .int (nI m)), (3, .long s), (5, .int (nI j))] [] M2 Q) (f := fun j s => s + hL M2 124 j) (n := kk) (fun j s hj => by
      show Wp none d 122 66 [(0, .ref 64), (1, .int (nI kk)), (2, .int (nI m)), (3, .long s), (5, .int (nI j))] [] M2 Q = Wp none d 122 66 [(0, .ref 64), (1, .int (nI kk)), (2, .int (nI m)), (3, .long (s + hL M2 124 j)), (5, .int (nI (j + 1)))] [] M2 Q
      rw [k122_66, k122_69, if_neg (by rw [n_le (by omega) (by omega)]; omega), x122_72 X3, k122_79, T_atL (x_K124 X3) (by decide) (by omega), gL_n (by omega) (by omega)]
      simp only [oM]
      rw [k122_82, nI_1]) kk 0 0 (by omega)
    rw [k122_61]
    refine (show _ = _ from key).mpr ?_
    show Wp none d 122 66 [(0, .ref 64), (1, .int (nI kk)), (2, .int (nI m)), (3, .long (fwS (hL M2 124) kk)), (5, .int (nI kk))] [] M2 Q
    rw [k122_66, k122_69, if_pos (by rw [n_le (by omega) (by omega)]; omega), k122_90, fw_cong kk (fun j hj => h2 j (by omega))]
    exact fin _ M2 (agr_trans a0 a2) rfl
  · unfold fw0
    by_cases c : j = 0
    · rw [if_pos c, c, hL_sL_s]
    · rw [if_neg c, hL_sL_k c, hL_sLs, if_pos ⟨rfl, by omega, by omega⟩]
