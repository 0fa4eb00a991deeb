variable {d : Nat} {M : hp} {Q : Option Value → hp → Prop}
/-! pegFor(), cut(), quiet() -/
theorem pln_ok {n : Nat} {L : Law} (S : Sim M) (X : XS M) (HO : HallO M 65 n L) : Pln M 65 71 116 122 n L := by
  have kb : kB = 154 := rfl
  exact ⟨HO, X.2.2.1, S.2.1.1, x_N X, X.2.2.2.2.2.2.2.2.2.2.2.2.2.1, Or.inl (by omega), Or.inr (by omega), Or.inr (by omega), by omega, by omega, by omega, Or.inr (by omega), Or.inr (by omega), Or.inr (by omega)⟩
theorem pl_q {M1 : hp} (a : agq (plE 116 71 122) [76] M M1) : agq QE [76] M M1 := agq_mono a (by intro x q; simp [plE, nF, QE] at q ⊢; omega) (by intro x q; exact q)
theorem p_pegFor {i t o N : Int32} (S : Sim M) (K : Alk d 240 [(0, .ref 126), (1, .int i), (2, .int t), (3, .int o), (4, .int N)] M Q) : Wp none d 113 0 [(0, .ref 64), (1, .int i), (2, .int t), (3, .int o), (4, .int N)] [] M Q := by
  obtain ⟨n, nl, lw, X, H, HO, Y⟩ := Sim_get S
  have n7 := Y.n7
  have fin : ∀ v M1, agq QE [76] M M1 → HallZ M1 71 → v = pegForG (lawOf (hI M 128 3) lw) n (hI M 66) (hI M 67) (hI M 68) (hI M 69) (hI M 65 5) (hI M 65 7) i t o N → Q (some (.int v)) M1 := by
    intro v M1 a z hv
    subst hv
    exact qry_end S a z K (fun Q2 h => mPegFor (RP_a Y a) HO.2.2.1 h)
  unfold pegForG at fin
  have bad : ¬ (hatOk n i ∧ thOk t ∧ hatOk n o ∧ ¬ i = o ∧ 1 ≤ N ∧ N ≤ 60) → Wp none d 113 32 [(0, .ref 64), (1, .int i), (2, .int t), (3, .int o), (4, .int N)] [] M Q := by
    intro c
    rw [if_neg c] at fin
    rw [k113_32]
    exact fin _ M (q_none M) (q_z S) rfl
  rw [x113_0 X, k113_6 (x_K65 X), Hall_hasTwo X.2.1 HO.2.1]
  simp only [oN]
  rw [k113_9]
  by_cases c : hatOk n i ∧ hatOk n o ∧ ¬ i = o
  case neg =>
    rw [if_pos (by rw [bz_eq0]; exact c)]
    exact bad (fun q => c ⟨q.1, q.2.2.1, q.2.2.2.1⟩)
  rw [if_neg (by rw [bz_eq0]; exact fun q => q c), k113_12, k113_13, T_isThought]
  simp only [oN]
  rw [k113_16]
  by_cases c2 : ¬ t < 0 ∧ ¬ 8 ≤ t
  case neg =>
    rw [if_pos (by rw [bz_eq0]; exact c2)]
    exact bad (fun q => c2 q.2.1)
  rw [if_neg (by rw [bz_eq0]; exact fun q => q c2), k113_19, k113_22]
  by_cases c3 : N < 1
  · rw [if_pos c3]
    exact bad (fun q => i_le.mp q.2.2.2.2.1 c3)
  rw [if_neg c3, k113_25, k113_29]
  by_cases c4 : N ≤ 60
  case neg =>
    rw [if_neg c4]
    exact bad (fun q => c4 q.2.2.2.2.2)
  rw [if_pos ⟨c.1, c2, c.2.1, c.2.2, i_le.mpr c3, c4⟩] at fin
  obtain ⟨j, hj, rfl⟩ := hatOk_j n7 c.1
  obtain ⟨u, hu, rfl⟩ := hatOk_j n7 c.2.1
  have cN : ¬ N < 0 := by
    rw [fa_lt, show (0 : Int32).toInt = 0 from rfl]
    rw [fa_lt, show (1 : Int32).toInt = 1 from rfl] at c3
    omega
  obtain ⟨m, hm, rfl⟩ := n_of (b := 60) cN c4 (by omega)
  rw [n_cl (by omega), n_cl (by omega), n_cl (by omega)] at fin
  rw [if_pos c4, x113_34 X, k113_47 (x_K122 X)]
  refine Planner_bestPeg (pln_ok S X HO) hj hu hm (fun M1 a hs hz => ?_)
  simp only [oN]
  rw [k113_50]
  exact fin _ M1 (pl_q a) hz rfl
theorem ct_nat {L : Law} {n : Nat} {D T P W : Nat → Int32} {hr rn : Int32} {j O : Nat} {th : Int32} (hO : O < 128) : ∃ c, c < 128 ∧ ctG L n D T P W hr rn j th O = nI c := by
  unfold ctG
  refine fo_inv (fun b => ∃ c, c < 128 ∧ b = nI c) O 0 (nI O) ⟨O, hO, rfl⟩ (fun s b _ hs hb => ?_)
  unfold ctStG
  by_cases q : nI s &&& (nI O ^^^ (-1)) = 0 ∧ mny (nI s) < mny b
  · rw [if_pos q]
    by_cases q2 : (papG L n D T W hr rn (offF P n (nI s)) 60 j >>> (th &&& 31)) &&& 1 = 1
    · rw [if_pos q2]; exact hb
    · rw [if_neg q2]; exact ⟨s, by omega, rfl⟩
  · rw [if_neg q]; exact hb
theorem p_cut {i t w : Int32} (S : Sim M) (K : Alk d 242 [(0, .ref 126), (1, .int i), (2, .int t), (3, .int w)] M Q) : Wp none d 114 0 [(0, .ref 64), (1, .int i), (2, .int t), (3, .int w)] [] M Q := by
  obtain ⟨n, nl, lw, X, H, HO, Y⟩ := Sim_get S
  have n7 := Y.n7
  have fin : ∀ v M1, agq QE [76] M M1 → HallZ M1 71 → v = cutG (lawOf (hI M 128 3) lw) n (hI M 66) (hI M 67) (hI M 68) (hI M 69) (hI M 65 5) (hI M 65 7) i t w → Q (some (.int v)) M1 := by
    intro v M1 a z hv
    subst hv
    exact qry_end S a z K (fun Q2 h => mCut (RP_a Y a) HO.2.2.1 h)
  unfold cutG at fin
  have bad : ¬ (hatOk n i ∧ thOk t ∧ ¬ knw (hI M 69) i.toNatClampNeg t ∧ 0 ≤ w ∧ w ≤ 1) → Wp none d 114 27 [(0, .ref 64), (1, .int i), (2, .int t), (3, .int w)] [] M Q := by
    intro c
    rw [if_neg c] at fin
    rw [k114_27]
    exact fin _ M (q_none M) (q_z S) rfl
  rw [x114_0 X, k114_5 (x_K65 X), Hall_hasHat X.2.1 HO.2.1]
  simp only [oN]
  rw [k114_8]
  by_cases c : ¬ i < 0 ∧ ¬ nI n ≤ i
  case neg =>
    rw [if_pos (by rw [bz_eq0]; exact c)]
    exact bad (fun q => c q.1)
  rw [if_neg (by rw [bz_eq0]; exact fun q => q c), k114_11, k114_12, T_isThought]
  simp only [oN]
  rw [k114_15]
  by_cases c2 : ¬ t < 0 ∧ ¬ 8 ≤ t
  case neg =>
    rw [if_pos (by rw [bz_eq0]; exact c2)]
    exact bad (fun q => c2 q.2.1)
  rw [if_neg (by rw [bz_eq0]; exact fun q => q c2), k114_18, k114_19]
  by_cases c3 : w < 0
  · rw [if_pos c3]
    exact bad (fun q => i_le.mp q.2.2.2.1 c3)
  rw [if_neg c3, k114_22, k114_24]
  by_cases c4 : w ≤ 1
  case neg =>
    rw [if_neg c4]
    exact bad (fun q => c4 q.2.2.2.2)
  obtain ⟨j, hj, rfl⟩ := hatOk_j n7 c
  rw [n_cl (by omega)] at fin
  rw [if_pos c4, x114_29 X, k114_35 (x_K65 X), Hall_knowsIt X.2.1 (by omega)]
  simp only [oN]
  rw [k114_38]
  by_cases c5 : (hI M 69 j >>> (t &&& 31)) &&& 1 = 1
  · rw [if_neg (fun q => q.2.2.1 c5)] at fin
    rw [if_neg (by rw [bz_eq0]; exact fun q => q c5), k114_41]
    exact fin _ M (q_none M) (q_z S) rfl
  rw [if_pos ⟨c, c2, c5, i_le.mpr c3, c4⟩] at fin
  rw [if_pos (by rw [bz_eq0]; exact c5), x114_43 X, k114_53 (x_K122 X)]
  obtain ⟨O, hO, eO⟩ := oth_nat (P := hI M 68) n7 (show j < 7 by omega)
  rw [eO, n_cl (by omega)] at fin
  obtain ⟨cc, cc1, cc2⟩ := ct_nat (L := lawOf (hI M 128 3) lw) (n := n) (D := hI M 66) (T := hI M 67) (P := hI M 68) (W := hI M 69) (hr := hI M 65 5) (rn := hI M 65 7) (j := j) (th := t) hO
  refine Planner_fewestOff (pln_ok S X HO) hj eO (by omega) (fun M1 a hs hz => ?_)
  have e : ctF (lawOf (hI M 128 3) lw) M 65 n j t O = ctG (lawOf (hI M 128 3) lw) n (hI M 66) (hI M 67) (hI M 68) (hI M 69) (hI M 65 5) (hI M 65 7) j t O := by
    have es : ctStep (lawOf (hI M 128 3) lw) M 65 n j t = ctStG (lawOf (hI M 128 3) lw) n (hI M 66) (hI M 67) (hI M 68) (hI M 69) (hI M 65 5) (hI M 65 7) j t O := by
      funext s b
      unfold ctStep ctStG papW papG
      simp only [Nat.reduceAdd]
      generalize itG (lawOf (hI M 128 3) lw) (hI M 66) (hI M 67) (offF (hI M 68) n (nI s)) n (hI M 65 7) 60 (hI M 69, hI M 65 5) = z
      rw [eO]
    unfold ctF ctG
    rw [es]
  simp only [oN]
  rw [e, k114_56, k114_59]
  by_cases c6 : w = 0
  · rw [if_pos c6] at fin
    rw [if_neg (fun q => q c6), k114_62, k114_64, bitCount_ok (by rw [cc2]; exact ⟨cc, by omega, rfl⟩)]
    simp only [oN]
    rw [k114_67, k114_72]
    exact fin _ M1 (pl_q a) hz rfl
  · rw [if_neg c6] at fin
    rw [if_pos c6, k114_70, k114_72]
    exact fin _ M1 (pl_q a) hz rfl
theorem hung_st : ∀ m, m < 7 → ∀ a, a < 2 ^ m → mny (nI (a ||| 2 ^ m)) = mny (nI a) + 1 := by decide +kernel
theorem hung_cnt (P : Nat → Int32) : ∀ m, m ≤ 7 → ∃ a, a < 2 ^ m ∧ hungF P m = nI a ∧ mny (nI a) = nI (m - (ofs P m).1)
  | 0, _ => ⟨0, by decide, rfl, (by decide : mny (nI 0) = nI 0)⟩
  | m + 1, h => by
    obtain ⟨a, a1, a2, a3⟩ := hung_cnt P m (by omega)
    have hc := ofs_cnt P m
    have p : 2 ^ (m + 1) = 2 ^ m + 2 ^ m := by rw [Nat.pow_succ]; omega
    have e : hungF P (m + 1) = if P m = -1 then hungF P m else hungF P m ||| ((1 : Int32) <<< (nI m &&& 31)) := by
      unfold hungF
      rw [fo_end, Nat.zero_add]
    rw [e]
    unfold ofs
    by_cases c : P m = -1
    · rw [if_pos c, if_pos c]
      refine ⟨a, by omega, a2, ?_⟩
      rw [a3]
      congr 1
      show m - (ofs P m).1 = m + 1 - ((ofs P m).1 + 1)
      omega
    · rw [if_neg c, if_neg c]
      have pm : ((1 : Int32) <<< (nI m &&& 31)) = nI (2 ^ m) := by
        have : m = 0 ∨ m = 1 ∨ m = 2 ∨ m = 3 ∨ m = 4 ∨ m = 5 ∨ m = 6 := by omega
        rcases this with rfl | rfl | rfl | rfl | rfl | rfl | rfl <;> decide
      refine ⟨a ||| 2 ^ m, Nat.or_lt_two_pow (by omega) (by omega), by rw [a2, pm, fa_or], ?_⟩
      rw [hung_st m (by omega) a a1, a3, nI_1]
      congr 1
      omega
theorem p_quiet {N i : Int32} (S : Sim M) (K : Alk d 245 [(0, .ref 126), (1, .int N), (2, .int i)] M Q) : Wp none d 115 0 [(0, .ref 64), (1, .int N), (2, .int i)] [] M Q := by
  obtain ⟨n, nl, lw, X, H, HO, Y⟩ := Sim_get S
  have n7 := Y.n7
  have hcn := ofs_cnt (hI M 68) n
  have haj := ofs_at (hI M 68) n
  have fin : ∀ v M1, agq QE [76] M M1 → HallZ M1 71 → v = quietG (lawOf (hI M 128 3) lw) n (hI M 66) (hI M 67) (hI M 68) (hI M 69) (hI M 65 5) (hI M 65 7) N i → Q (some (.int v)) M1 := by
    intro v M1 a z hv
    subst hv
    exact qry_end S a z K (fun Q2 h => mQuiet (RP_a Y a) HO.2.2.1 h)
  unfold quietG at fin
  have eoff : nI n - mny (hungF (hI M (65 + 3)) n) = nI (ofs (hI M 68) n).1 := by
    obtain ⟨a, _, a2, a3⟩ := hung_cnt (hI M 68) n n7
    rw [show hI M (65 + 3) = hI M 68 from rfl, a2, a3, n_sub (by omega)]
    congr 1
    omega
  rw [x115_0 X, HO.2.1.1, k115_11 (x_K65 X), Hall_hungCount X.2.1 HO.2.1]
  simp only [oM]
  rw [k115_14, eoff]
  have bad : ¬ (1 ≤ N ∧ N ≤ 12 ∧ (ofs (hI M 68) n).1 ≤ 3 ∧ ¬ i < -1 ∧ ¬ nI (ofs (hI M 68) n).1 ≤ i) → Wp none d 115 42 [(0, .ref 64), (1, .int N), (2, .int i), (3, .int (nI (ofs (hI M 68) n).1))] [] M Q := by
    intro c
    rw [if_neg c] at fin
    rw [k115_42]
    exact fin _ M (q_none M) (q_z S) rfl
  rw [k115_18]
  by_cases c1 : N < 1
  · rw [if_pos c1]
    exact bad (fun q => i_le.mp q.1 c1)
  rw [if_neg c1, k115_21, k115_24]
  by_cases c2 : 12 < N
  · rw [if_pos c2]
    exact bad (fun q => i_le.mp q.2.1 c2)
  rw [if_neg c2, k115_27, k115_29]
  by_cases c3 : (ofs (hI M 68) n).1 ≤ 3
  case neg =>
    rw [if_pos (by rw [show (3 : Int32) = nI 3 from rfl, n_lt (by omega) (by omega)]; omega)]
    exact bad (fun q => c3 q.2.2.1)
  rw [if_neg (by rw [show (3 : Int32) = nI 3 from rfl, n_lt (by omega) (by omega)]; omega), k115_32, k115_34]
  by_cases c4 : i < -1
  · rw [if_pos c4]
    exact bad (fun q => q.2.2.2.1 c4)
  rw [if_neg c4, k115_37, k115_39]
  by_cases c5 : i < nI (ofs (hI M 68) n).1
  case neg =>
    rw [if_neg c5]
    exact bad (fun q => q.2.2.2.2 (i_le.mpr c5))
  rw [if_pos ⟨i_le.mpr c1, i_le.mpr c2, c3, c4, fun q => i_le.mp q c5⟩] at fin
  have cN : ¬ N < 0 := by
    rw [fa_lt, show (0 : Int32).toInt = 0 from rfl]
    rw [fa_lt, show (1 : Int32).toInt = 1 from rfl] at c1
    omega
  obtain ⟨m, hm, rfl⟩ := n_of (b := 12) cN (i_le.mpr c2) (by omega)
  rw [n_cl (by omega)] at fin
  rw [if_pos c5, x115_44 X, k115_53 (x_K122 X)]
  obtain ⟨v, b, v1, v2, _, v4⟩ := q_end (L := lawOf (hI M 128 3) lw) (D := hI M 66) (T := hI M 67) (W := hI M 69) (hr := hI M 65 5) (rn := hI M 65 7) (N := m) n7 c3 haj HO.2.2.1
  refine Planner_hangQuietly (pln_ok S X HO) (by omega) c3 (fun M1 a hs hz h3 h4 => ?_)
  have X1 := x_a X (pl_q a)
  have eh : hqF (lawOf (hI M 128 3) lw) M 65 n m (ofs (hI M (65 + 3)) n).1 (ofs (hI M (65 + 3)) n).2 = (nI v, nI b) := v4
  rw [eh] at h3 h4
  have h3 : hI M1 122 3 = nI v := h3
  have h4 : hI M1 122 4 = nI b := h4
  have p10 := pow10 c3
  simp only [oZ]
  rw [k115_56, k115_58]
  by_cases c6 : i = -1
  · rw [if_pos c6] at fin
    rw [if_neg (fun q => q c6), x115_61 X1, h3, k115_87]
    exact fin _ M1 (pl_q a) hz (by rw [show hqG (lawOf (hI M 128 3) lw) n (hI M 66) (hI M 67) (hI M 68) (hI M 69) (hI M 65 5) (hI M 65 7) m (ofs (hI M 68) n).1 (ofs (hI M 68) n).2 = (nI v, nI b) from v4])
  · rw [if_neg c6] at fin
    obtain ⟨l, hl, el⟩ : ∃ l, l < (ofs (hI M 68) n).1 ∧ i = nI l := by
      refine (vin_of2 ?_ (fun q => i_le.mp q c5) (by omega)).2
      intro z
      rw [fa_lt, show (-1 : Int32).toInt = -1 from by decide] at c4
      rw [fa_lt, show (0 : Int32).toInt = 0 from rfl] at z
      exact c6 (Int32.toInt_inj.mp (by rw [show (-1 : Int32).toInt = -1 from by decide]; omega))
    rw [if_pos c6, x115_71 X1, h4, k115_84 (x_K122 X1), el, pegInRow_ok (by omega) c3 hl]
    simp only [oN]
    rw [k115_87]
    refine fin _ M1 (pl_q a) hz ?_
    rw [el, show hqG (lawOf (hI M 128 3) lw) n (hI M 66) (hI M 67) (hI M 68) (hI M 69) (hI M 65 5) (hI M 65 7) m (ofs (hI M 68) n).1 (ofs (hI M 68) n).2 = (nI v, nI b) from v4]
    show _ = nI (dig (nI b).toNatClampNeg _ (nI l).toNatClampNeg)
    rw [n_cl (by omega), n_cl (by omega)]
