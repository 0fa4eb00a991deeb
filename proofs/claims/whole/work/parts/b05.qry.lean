variable {d : Nat} {M : hp} {Q : Option Value → hp → Prop}
theorem HC_RH {n nl : Nat} {lw : Nat → Nat × (Nat → Cls)} (H : HC M 65 (hI M 128) n nl lw) : ∃ hc hk hb, RH M hc hk hb ∧ hI M 65 11 = nI hc ∧ hI M 65 12 = kMask hk hb true hc ∧ hI M 65 13 = kMask hk hb false hc := H.2.2.2
theorem T_canBe {n : Nat} (X : XS M) (N : HallN M 65 n) : Wp none d 120 0 [(0, .ref 64)] [] M Q = Q (some (.int (cbF (hI M 69) n (hI M 65 12) (hI M 65 13)))) M := by
  have n7 := N.2
  have key := for_up (W := fun i s => Wp none d 120 4 [(0, .ref 64), (1, .int s), (2, .int (nI i))] [] M Q) (f := fun i x => if hI M 69 i &&& hI M 65 12 = hI M 65 12 ∧ hI M 69 i &&& hI M 65 13 = 0 then x ||| ((1 : Int32) <<< (nI i &&& 31)) else x) (n := n) (fun i s hi => by
    show Wp none d 120 4 [(0, .ref 64), (1, .int s), (2, .int (nI i))] [] M Q = Wp none d 120 4 [(0, .ref 64), (1, .int (if hI M 69 i &&& hI M 65 12 = hI M 65 12 ∧ hI M 69 i &&& hI M 65 13 = 0 then s ||| ((1 : Int32) <<< (nI i &&& 31)) else s)), (2, .int (nI (i + 1)))] [] M Q
    rw [x120_4 X, N.1, k120_12, if_neg (by rw [n_le (by omega) (by omega)]; omega), x120_15 X, k120_20 (x_K65 X), Hall_canBeHeard X.2.1 (by omega)]
    simp only [oN]
    rw [k120_23]
    by_cases c : hI M 69 i &&& hI M 65 12 = hI M 65 12 ∧ hI M 69 i &&& hI M 65 13 = 0
    · rw [if_neg (by rw [bz_eq0]; exact fun q => q c), k120_26, k120_32, nI_1, if_pos c]
    · rw [if_pos (by rw [bz_eq0]; exact c), k120_32, nI_1, if_neg c]) n 0 0 (by omega)
  rw [k120_0]
  refine (show _ = _ from key).trans ?_
  show Wp none d 120 4 [(0, .ref 64), (1, .int (cbF (hI M 69) n (hI M 65 12) (hI M 65 13))), (2, .int (nI n))] [] M Q = _
  rw [x120_4 X, N.1, k120_12, if_pos (by rw [n_le (by omega) (by omega)]; omega), k120_38]
theorem p_canBe (S : Sim M) (K : Alk d 253 [(0, .ref 126)] M Q) : Wp none d 120 0 [(0, .ref 64)] [] M Q := by
  obtain ⟨n, nl, lw, X, H, HO, Y⟩ := Sim_get S
  obtain ⟨hc, hk, hb, R, _, r12, r13⟩ := HC_RH H
  rw [T_canBe X HO.2.1, r12, r13]
  exact qry_end S (q_none M) (q_z S) K (fun Q2 h => by rw [mCanBe Y R]; exact h M (Qry_refl M))
theorem p_ask {w : Int32} (S : Sim M) (K : Alk d 254 [(0, .ref 126), (1, .int w)] M Q) : Wp none d 121 0 [(0, .ref 64), (1, .int w)] [] M Q := by
  obtain ⟨n, nl, lw, X, H, HO, Y⟩ := Sim_get S
  have n7 := Y.n7
  obtain ⟨hc, hk, hb, R, _, r12, r13⟩ := HC_RH H
  have fin : ∀ v, v = askG (hI M 69) n (cbF (hI M 69) n (kMask hk hb true hc) (kMask hk hb false hc)) w → Q (some (.int v)) M := by
    intro v hv
    subst hv
    exact qry_end S (q_none M) (q_z S) K (fun Q2 h => by rw [mAsk Y R]; exact h M (Qry_refl M))
  obtain ⟨v, hv, ev⟩ := cb_bit (hI M 69) (kMask hk hb true hc) (kMask hk hb false hc) n n7
  unfold askG at fin
  rw [k121_0, k121_1 (x_K64 X), T_canBe X HO.2.1, r12, r13]
  simp only [oN]
  rw [k121_4, k121_6]
  by_cases c0 : cbF (hI M 69) n (kMask hk hb true hc) (kMask hk hb false hc) = 0
  · rw [if_neg (fun q => q.1 c0)] at fin
    rw [if_pos c0, k121_18]
    exact fin _ rfl
  rw [if_neg c0, k121_9, k121_10]
  by_cases c1 : w < 0
  · rw [if_neg (fun q => i_le.mp q.2.1 c1)] at fin
    rw [if_pos c1, k121_18]
    exact fin _ rfl
  rw [if_neg c1, k121_13, k121_15]
  by_cases c2 : w ≤ 1
  case neg =>
    rw [if_neg (fun q => c2 q.2.2)] at fin
    rw [if_neg c2, k121_18]
    exact fin _ rfl
  rw [if_pos ⟨c0, i_le.mpr c1, c2⟩] at fin
  rw [if_pos c2, k121_20]
  rw [ev] at fin ⊢
  have sv : sm (nI v) := ⟨v, by omega, rfl⟩
  have key := for_up (W := fun t (a : Int32 × Int32) => Wp none d 121 29 [(0, .ref 64), (1, .int w), (2, .int (nI v)), (3, .int a.1), (4, .int a.2), (5, .int (nI t))] [] M Q) (f := akSt (hI M 69) n (nI v)) (n := 8) (fun t a ht => by
    show Wp none d 121 29 [(0, .ref 64), (1, .int w), (2, .int (nI v)), (3, .int a.1), (4, .int a.2), (5, .int (nI t))] [] M Q = Wp none d 121 29 [(0, .ref 64), (1, .int w), (2, .int (nI v)), (3, .int (akSt (hI M 69) n (nI v) t a).1), (4, .int (akSt (hI M 69) n (nI v) t a).2), (5, .int (nI (t + 1)))] [] M Q
    rw [k121_29, k121_33, show (8 : Int32) = nI 8 from rfl, if_neg (by rw [n_le (by omega) (by omega)]; omega), x121_36 X, k121_43 (x_K65 X), knowers_k X.2.1 HO.2.1]
    simp only [oN]
    rw [k121_46, k121_51, bitCount_ok sv]
    simp only [oM]
    have e65 : knoF (hI M (65 + 4)) n (nI t) (nI v) = knoF (hI M 69) n (nI t) (nI v) := rfl
    rw [e65, k121_54]
    have el : (if knoF (hI M 69) n (nI t) (nI v) < mny (nI v) - knoF (hI M 69) n (nI t) (nI v) then mny (nI v) - knoF (hI M 69) n (nI t) (nI v) else knoF (hI M 69) n (nI t) (nI v)) = lfG (hI M 69) n (nI v) t := by
      unfold lfG
      generalize knoF (hI M 69) n (nI t) (nI v) = x
      generalize mny (nI v) - x = y
      by_cases q : x < y
      · rw [if_pos q, if_pos (by rw [fa_le]; rw [fa_lt] at q; omega)]
      · rw [if_neg q]
        by_cases q2 : x ≤ y
        · rw [if_pos q2]
          exact Int32.toInt_inj.mp (by rw [fa_lt] at q; rw [fa_le] at q2; omega)
        · rw [if_neg q2]
    rw [el, k121_66]
    unfold akSt
    by_cases q : lfG (hI M 69) n (nI v) t < a.2
    · rw [if_neg (fun z => i_le.mp z q), if_pos q, k121_69, k121_76, nI_1]
    · rw [if_pos (i_le.mpr q), if_neg q, k121_76, nI_1]) 8 0 (0, 8) (by omega)
  refine (show _ = _ from key).mpr ?_
  show Wp none d 121 29 [(0, .ref 64), (1, .int w), (2, .int (nI v)), (3, .int (fo (akSt (hI M 69) n (nI v)) 0 8 (0, 8)).1), (4, .int (fo (akSt (hI M 69) n (nI v)) 0 8 (0, 8)).2), (5, .int (nI 8))] [] M Q
  rw [k121_29, k121_33, if_pos (by decide), k121_82, k121_83]
  by_cases c : w = 0
  · rw [if_pos c] at fin
    rw [if_neg (fun q => q c), k121_86, k121_92]
    exact fin _ rfl
  · rw [if_neg c] at fin
    rw [if_pos c, k121_90, k121_92]
    exact fin _ rfl
/-- the talkative one, from another start -/
theorem tk_start {L : Law} {n : Nat} {D T P W : Nat → Int32} {hr rn : Int32} (h0 : ¬ n = 0) (hp : ¬ tlkG L n D T P W hr rn 0 ≤ -1) : fo (tkSt L n D T P W hr rn) 0 n (-1, 0) = fo (tkSt L n D T P W hr rn) 0 n (-1, -1) := by
  obtain ⟨m, rfl⟩ : ∃ m, n = m + 1 := ⟨n - 1, by omega⟩
  show fo _ 1 m (tkSt L (m + 1) D T P W hr rn 0 (-1, 0)) = fo _ 1 m (tkSt L (m + 1) D T P W hr rn 0 (-1, -1))
  unfold tkSt
  rw [if_neg hp, if_neg hp]
theorem atG_nat {f : Nat → Int32} (h : ∀ i, ∃ c, c ≤ 8 ∧ f i = nI c) (x : Int32) : ∃ c, c ≤ 8 ∧ atG f x = nI c := by
  unfold atG
  by_cases q : x = -1
  · rw [if_pos q]
    exact ⟨0, by omega, rfl⟩
  · rw [if_neg q]
    exact h _
theorem tlk_nat (L : Law) (n : Nat) (D T P W : Nat → Int32) (hr rn : Int32) (h : Nat) : ∃ c, c ≤ 16 ∧ tlkG L n D T P W hr rn h = nI c := by
  have hf : ∀ o, ∃ c, c ≤ 8 ∧ (fun o => mny (toldG L D T W hr rn h o)) o = nI c := by
    intro o
    obtain ⟨v, hv, e⟩ : sm (toldG L D T W hr rn h o) := by
      unfold toldG
      by_cases q : W h &&& (W o ^^^ (-1)) = 0
      · rw [if_pos q]
        exact sm_0
      · rw [if_neg q]
        exact tldF_sm _ _ 8 0 _ 0 (by omega) sm_0
    show ∃ c, c ≤ 8 ∧ mny (toldG L D T W hr rn h o) = nI c
    rw [e]
    exact mny_sm v hv
  unfold tlkG
  by_cases q : P h = -1
  · rw [if_pos q]
    exact ⟨0, by omega, rfl⟩
  · rw [if_neg q]
    obtain ⟨a, a1, a2⟩ := atG_nat hf (hatF n P (P h - 1))
    obtain ⟨b, b1, b2⟩ := atG_nat hf (hatF n P (P h + 1))
    rw [a2, b2, nI_add]
    exact ⟨a + b, by omega, rfl⟩
theorem tk_loop {n : Nat} {w : Int32} {L : Law} {M0 : hp} (X0 : XS M0) (O0 : HallO M0 65 n L) : ∀ (k h : Nat) (s : Int32 × Int32) (M : hp), h + k = n → agr (nE 116) M0 M → (∀ M', agr (nE 116) M0 M' → Wp none d 117 73 [(0, .ref 64), (1, .int w), (2, .int (fo (tkSt L n (hI M0 66) (hI M0 67) (hI M0 68) (hI M0 69) (hI M0 65 5) (hI M0 65 7)) h k s).2), (3, .int (fo (tkSt L n (hI M0 66) (hI M0 67) (hI M0 68) (hI M0 69) (hI M0 65 5) (hI M0 65 7)) h k s).1), (4, .int (nI n))] [] M' Q) → Wp none d 117 28 [(0, .ref 64), (1, .int w), (2, .int s.2), (3, .int s.1), (4, .int (nI h))] [] M Q
  | 0, h, s, M, e, a, H => by
    have n7 := O0.2.1.2
    have X : XS M := XS_same (sameS_agq (agq_of (B := []) a) (by intro x q; simp at q)) X0
    have N : hI M 65 8 = nI n := by rw [agr_I a (nE_not (by omega))]; exact O0.2.1.1
    have : h = n := by omega
    subst this
    rw [x117_28 X, N, k117_37, if_pos (by rw [n_le (by omega) (by omega)]; omega)]
    exact H M a
  | k + 1, h, s, M, e, a, H => by
    have kb : kB = 154 := rfl
    have n7 := O0.2.1.2
    have X : XS M := XS_same (sameS_agq (agq_of (B := []) a) (by intro x q; simp at q)) X0
    have N : hI M 65 8 = nI n := by rw [agr_I a (nE_not (by omega))]; exact O0.2.1.1
    have O : HallO M 65 n L := HallO_agq (agq_of (B := []) a) (nE_low (by omega)) (by intro x q; simp at q) (nE_not (by omega)) (nE_not (by omega)) (nE_not (by omega)) (nE_not (by omega)) (nE_not (by omega)) rfl rfl O0
    have ev : ∀ M', agr (nE 116) M0 M' → hI M' 66 = hI M0 66 ∧ hI M' 67 = hI M0 67 ∧ hI M' 68 = hI M0 68 ∧ hI M' 69 = hI M0 69 ∧ hI M' 65 = hI M0 65 := fun M' b => ⟨agr_I b (nE_not (by omega)), agr_I b (nE_not (by omega)), agr_I b (nE_not (by omega)), agr_I b (nE_not (by omega)), agr_I b (nE_not (by omega))⟩
    rw [x117_28 X, N, k117_37, if_neg (by rw [n_le (by omega) (by omega)]; omega), x117_40 X, k117_50 (x_K116 X)]
    refine Night_toldByAll (x_N X) X.2.1 O.2.1 O.2.2.2.1 O.2.2.2.2.1 (by omega) (by omega) (by omega) (fun M' b => ?_)
    have b' := agr_trans a b
    obtain ⟨e1, e2, e3, e4, e5⟩ := ev M a
    have eT : (if hI M (65 + 3) h = -1 then 0 else cntF L M 65 h (hatF n (hI M (65 + 3)) (hI M (65 + 3) h - 1)) + cntF L M 65 h (hatF n (hI M (65 + 3)) (hI M (65 + 3) h + 1))) = tlkG L n (hI M0 66) (hI M0 67) (hI M0 68) (hI M0 69) (hI M0 65 5) (hI M0 65 7) h := by
      rw [← e1, ← e2, ← e3, ← e4, ← e5]
      rfl
    rw [eT]
    simp only [oN]
    rw [k117_53, k117_58]
    by_cases c : tlkG L n (hI M0 66) (hI M0 67) (hI M0 68) (hI M0 69) (hI M0 65 5) (hI M0 65 7) h ≤ s.1
    · rw [if_pos c, k117_67, nI_1]
      refine tk_loop X0 O0 k (h + 1) s M' (by omega) b' ?_
      rw [show fo (tkSt L n (hI M0 66) (hI M0 67) (hI M0 68) (hI M0 69) (hI M0 65 5) (hI M0 65 7)) h (k + 1) s = fo (tkSt L n (hI M0 66) (hI M0 67) (hI M0 68) (hI M0 69) (hI M0 65 5) (hI M0 65 7)) (h + 1) k s from by
        show fo _ (h + 1) k (tkSt L n (hI M0 66) (hI M0 67) (hI M0 68) (hI M0 69) (hI M0 65 5) (hI M0 65 7) h s) = _
        rw [show tkSt L n (hI M0 66) (hI M0 67) (hI M0 68) (hI M0 69) (hI M0 65 5) (hI M0 65 7) h s = s from if_pos c]] at H
      exact H
    · rw [if_neg c, k117_61, k117_67, nI_1]
      refine tk_loop X0 O0 k (h + 1) (tlkG L n (hI M0 66) (hI M0 67) (hI M0 68) (hI M0 69) (hI M0 65 5) (hI M0 65 7) h, nI h) M' (by omega) b' ?_
      rw [show fo (tkSt L n (hI M0 66) (hI M0 67) (hI M0 68) (hI M0 69) (hI M0 65 5) (hI M0 65 7)) h (k + 1) s = fo (tkSt L n (hI M0 66) (hI M0 67) (hI M0 68) (hI M0 69) (hI M0 65 5) (hI M0 65 7)) (h + 1) k (tlkG L n (hI M0 66) (hI M0 67) (hI M0 68) (hI M0 69) (hI M0 65 5) (hI M0 65 7) h, nI h) from by
        show fo _ (h + 1) k (tkSt L n (hI M0 66) (hI M0 67) (hI M0 68) (hI M0 69) (hI M0 65 5) (hI M0 65 7) h s) = _
        rw [show tkSt L n (hI M0 66) (hI M0 67) (hI M0 68) (hI M0 69) (hI M0 65 5) (hI M0 65 7) h s = _ from if_neg c]] at H
      exact H
theorem p_talkative {w : Int32} (S : Sim M) (K : Alk d 248 [(0, .ref 126), (1, .int w)] M Q) : Wp none d 117 0 [(0, .ref 64), (1, .int w)] [] M Q := by
  have kb : kB = 154 := rfl
  obtain ⟨n, nl, lw, X, H, HO, Y⟩ := Sim_get S
  have n7 := Y.n7
  have fin : ∀ v M1, agr (nE 116) M M1 → v = talkG (lawOf (hI M 128 3) lw) n (hI M 66) (hI M 67) (hI M 68) (hI M 69) (hI M 65 5) (hI M 65 7) w → Q (some (.int v)) M1 := by
    intro v M1 a hv
    subst hv
    exact qry_end S (q_night a) (q_nz S a) K (fun Q2 h => mTalk (RP_a Y (q_night a)) HO.2.2.1 h)
  unfold talkG at fin
  rw [x117_0 X, HO.2.1.1, k117_7]
  by_cases c0 : n = 0
  · rw [if_pos (by rw [c0]; rfl), k117_19]
    refine fin _ M (agr_refl _ _) ?_
    rw [c0]
    show (-1 : Int32) = if 0 ≤ w ∧ w ≤ 1 then (if w = 0 then -1 else -1) else -1
    rw [ite_self, ite_self]
  rw [if_neg (by show ¬ nI n = nI 0; rw [n_eq (by omega) (by omega)]; exact c0), k117_10, k117_11]
  by_cases c1 : w < 0
  · rw [if_neg (fun q => i_le.mp q.1 c1)] at fin
    rw [if_pos c1, k117_19]
    exact fin _ M (agr_refl _ _) rfl
  rw [if_neg c1, k117_14, k117_16]
  by_cases c2 : w ≤ 1
  case neg =>
    rw [if_neg (fun q => c2 q.2)] at fin
    rw [if_neg c2, k117_19]
    exact fin _ M (agr_refl _ _) rfl
  rw [if_pos ⟨i_le.mpr c1, c2⟩] at fin
  rw [if_pos c2, k117_21]
  obtain ⟨u, u1, u2⟩ := tlk_nat (lawOf (hI M 128 3) lw) n (hI M 66) (hI M 67) (hI M 68) (hI M 69) (hI M 65 5) (hI M 65 7) 0
  have st := tk_start (L := lawOf (hI M 128 3) lw) (n := n) (D := hI M 66) (T := hI M 67) (P := hI M 68) (W := hI M 69) (hr := hI M 65 5) (rn := hI M 65 7) c0 (by rw [u2, i_le]; exact fun q => q (by rw [fa_lt, show (-1 : Int32).toInt = -1 from by decide]; have := nI_pos (n := u) (by omega); rw [fa_lt, show (0 : Int32).toInt = 0 from rfl] at this; omega))
  refine tk_loop X HO n 0 (-1, 0) M (by omega) (agr_refl _ _) (fun M' a => ?_)
  rw [st, k117_73, k117_74]
  by_cases c : w = 0
  · rw [if_pos c] at fin
    rw [if_neg (fun q => q c), k117_77, k117_82]
    exact fin _ M' a rfl
  · rw [if_neg c] at fin
    rw [if_pos c, k117_81, k117_82]
    exact fin _ M' a rfl
