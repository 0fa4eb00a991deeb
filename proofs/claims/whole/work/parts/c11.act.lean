variable {d : Nat} {M : hp} {Q : Option Value → hp → Prop}
/-! act() of the class -/
def besC (n : Nat) (P : Nat → Int32) (j : Nat) : Int32 := (if hatF n P (P j - 1) = -1 then 0 else 1) + (if hatF n P (P j + 1) = -1 then 0 else 1)
abbrev badN (kind num : Int32) : Prop := (kind = 0 ∧ ¬ (¬ num < 0 ∧ ¬ 10 ≤ num)) ∨ (kind = 2 ∧ ¬ thOk num)
abbrev canA (n : Nat) (kind : Int32) (j : Nat) (num : Int32) (P W : Nat → Int32) : Prop := if kind = 0 then P j = -1 ∧ hatF n P num = -1 else if kind = 1 then ¬ P j = -1 else ¬ (W j >>> (num &&& 31)) &&& 1 = 1
def whyA (n : Nat) (kind hat num : Int32) (s : ASt) : Int32 := if kind = 3 then (if s.2.2.1 < 999 then 0 else -3) else if badN kind num then -1 else if ¬ hatOk n hat then -2 else if canA n kind hat.toNatClampNeg num s.1 s.2.1 then 0 else -3
def doA (n : Nat) (D T : Nat → Int32) (rn : Int32) (L : Law) (kind hat num : Int32) (s : ASt) : Int32 × ASt :=
  if kind = 0 then (besC n (updI s.1 hat.toNatClampNeg num) hat.toNatClampNeg, (updI s.1 hat.toNatClampNeg num, s.2.1, s.2.2.1, pushU (s.1, s.2.1, s.2.2.1, kind) s.2.2.2))
  else if kind = 1 then (s.1 hat.toNatClampNeg, (updI s.1 hat.toNatClampNeg (-1), s.2.1, s.2.2.1, pushU (s.1, s.2.1, s.2.2.1, kind) s.2.2.2))
  else if kind = 2 then (mny (s.2.1 hat.toNatClampNeg ||| ((1 : Int32) <<< (num &&& 31))), (s.1, updI s.2.1 hat.toNatClampNeg (s.2.1 hat.toNatClampNeg ||| ((1 : Int32) <<< (num &&& 31))), s.2.2.1, pushU (s.1, s.2.1, s.2.2.1, kind) s.2.2.2))
  else (lrnF (hourG L D T s.1 n rn (s.2.1, s.2.2.1)) n, (s.1, (stepG L D T s.1 n rn (s.2.1, s.2.2.1)).1, (stepG L D T s.1 n rn (s.2.1, s.2.2.1)).2, pushU (s.1, s.2.1, s.2.2.1, kind) s.2.2.2))
theorem updI_s (f : Nat → Int32) (k : Nat) (v : Int32) : updI f k v k = v := by unfold updI; rw [if_pos rfl]
theorem updI_n {f : Nat → Int32} {k j : Nat} {v : Int32} (h : ¬ j = k) : updI f k v j = f j := by unfold updI; rw [if_neg h]
theorem KnoS_upd {W : Nat → Int32} {n j : Nat} {v : Int32} (H : KnoS W n) (hv : sm v) : KnoS (updI W j v) n := by
  intro i hi
  by_cases c : i = j
  · rw [c, updI_s]; exact hv
  · rw [updI_n c]; exact H i hi
theorem doA_WF {n v : Nat} {D T : Nat → Int32} {rn : Int32} {L : Law} {hat num : Int32} {s : ASt} (hn : n ≤ 7) (hv : v < 4) (W : WFa n s) (h0 : whyA n (nI v) hat num s = 0) : WFa n (doA n D T rn L (nI v) hat num s).2 := by
  obtain ⟨w1, w2, w3, w4, w5, w6⟩ := W
  have we : WFe n (s.1, s.2.1, s.2.2.1, nI v) := ⟨w1, w2, w3, v, hv, rfl⟩
  have p1 := push_le (e := (s.1, s.2.1, s.2.2.1, nI v)) w5
  have p2 := push_all (R := WFe n) we w6
  have e3 : ¬ nI v = 3 → v < 3 := by
    intro h
    have : ¬ v = 3 := by intro e; exact h (by rw [e]; rfl)
    omega
  unfold whyA at h0
  by_cases c3 : nI v = 3
  · rw [if_pos c3] at h0
    have hlt : s.2.2.1 < 999 := by
      by_cases q : s.2.2.1 < 999
      · exact q
      · rw [if_neg q] at h0; exact absurd h0 (by decide)
    unfold doA
    rw [if_neg (by rw [c3]; decide), if_neg (by rw [c3]; decide), if_neg (by rw [c3]; decide)]
    refine ⟨w1, stepG_sm w2, ?_, fun k hk => ⟨(w4 k hk).1, ?_⟩, p1, p2⟩
    · obtain ⟨x, x1, x2⟩ := w3
      refine ⟨x + 1, ?_, ?_⟩
      · rw [x2, show (999 : Int32) = nI 999 from rfl, n_lt (by omega) (by omega)] at hlt
        omega
      · show s.2.2.1 + 1 = nI (x + 1)
        rw [x2, nI_1]
    · show (if k < n then s.2.1 k ||| hourG L D T s.1 n rn (s.2.1, s.2.2.1) k else s.2.1 k) = 0
      rw [if_neg (by omega)]
      exact (w4 k hk).2
  rw [if_neg c3] at h0
  by_cases cb : badN (nI v) num
  · rw [if_pos cb] at h0; exact absurd h0 (by decide)
  rw [if_neg cb] at h0
  by_cases ch : hatOk n hat
  case neg => rw [if_pos ch] at h0; exact absurd h0 (by decide)
  rw [if_neg (fun q => q ch)] at h0
  by_cases cc : canA n (nI v) hat.toNatClampNeg num s.1 s.2.1
  case neg => rw [if_neg cc] at h0; exact absurd h0 (by decide)
  obtain ⟨j, hj, rfl⟩ := hatOk_j hn ch
  rw [n_cl (by omega)] at cc
  unfold doA
  rw [n_cl (by omega)]
  by_cases c0 : nI v = 0
  · unfold canA at cc
    rw [if_pos c0] at cc
    rw [if_pos c0]
    have hp : ¬ num < 0 ∧ ¬ 10 ≤ num := by
      refine Classical.byContradiction (fun q => cb (Or.inl ⟨c0, q⟩))
    obtain ⟨q, q1, rfl⟩ := (vin_of2 (n := 10) hp.1 hp.2 (by omega)).2
    exact ⟨hat_free w1 hn hj q1 (Or.inl cc.2), w2, w3, fun k hk => ⟨(updI_n (f := s.1) (k := j) (j := k) (show ¬ k = j by omega)).trans (w4 k hk).1, (w4 k hk).2⟩, p1, p2⟩
  rw [if_neg c0]
  by_cases c1 : nI v = 1
  · rw [if_pos c1]
    exact ⟨pegS_off w1, w2, w3, fun k hk => ⟨(updI_n (f := s.1) (k := j) (j := k) (show ¬ k = j by omega)).trans (w4 k hk).1, (w4 k hk).2⟩, p1, p2⟩
  rw [if_neg c1]
  have c2 : nI v = 2 := by
    have : ¬ v = 0 := fun e => c0 (by rw [e]; rfl)
    have : ¬ v = 1 := fun e => c1 (by rw [e]; rfl)
    have := e3 c3
    have : v = 2 := by omega
    rw [this]; rfl
  rw [if_pos c2]
  have ht : thOk num := by
    refine Classical.byContradiction (fun q => cb (Or.inr ⟨c2, q⟩))
  obtain ⟨t, t1, rfl⟩ := (vin_of2 (n := 8) ht.1 ht.2 (by omega)).2
  exact ⟨w1, KnoS_upd w2 (sm_or (w2 j hj) (sm_bit t t1)), w3, fun k hk => ⟨(w4 k hk).1, (updI_n (f := s.2.1) (k := j) (j := k) (show ¬ k = j by omega)).trans (w4 k hk).2⟩, p1, p2⟩
def AE : List Nat := [65, 68, 69, 103, 104] ++ nF 116
def ClA (M0 M : hp) (s : ASt) : Prop := agr AE M0 M ∧ hI M 68 = s.1 ∧ hI M 69 = s.2.1 ∧ (∀ k, hI M 65 k = if k = 5 then s.2.2.1 else hI M0 65 k) ∧ ClU M s.2.2.2
theorem AE_low : low AE := by
  intro x q
  have : kB = 154 := rfl
  simp [AE, nF] at q
  omega
theorem ClA_O {M0 : hp} {n : Nat} {L : Law} {s : ASt} (O : HallO M0 65 n L) (C : ClA M0 M s) (W : WFa n s) : HallO M 65 n L :=
  HallO_mid O C.1 AE_low (by decide) (by decide) (fun k q => by rw [C.2.2.2.1 k, if_neg q]) (by show PegS (hI M 68) n; rw [C.2.1]; exact W.1) (by show KnoS (hI M 69) n; rw [C.2.2.1]; exact W.2.1) (fun k hk => by show hI M 68 k = 0; rw [C.2.1]; exact (W.2.2.2.1 k hk).1) (fun k hk => by show hI M 69 k = 0; rw [C.2.2.1]; exact (W.2.2.2.1 k hk).2)
theorem ClU_fr {M' : hp} {u : USt} (U : ClU M u) (e1 : hI M' 103 = hI M 103) (e2 : hI M' 104 = hI M 104) : ClU M' u := by
  obtain ⟨x, h1, h2, h3, h4, h5⟩ := U
  exact ⟨x, h1, by rw [e1]; exact h2, by rw [e1]; exact h3, h4, fun k hk => EntC_fr (h5 k hk) (fun _ _ _ => by rw [e2])⟩
theorem whyNot_ok {M0 : hp} {n v : Nat} {L : Law} {hat num : Int32} {s : ASt} (X : XS M) (O : HallO M 65 n L) (C : ClA M0 M s) (hv : v < 4) : Wp none d 141 0 [(0, .ref 64), (1, .int (nI v)), (2, .int hat), (3, .int num)] [] M Q = Q (some (.int (whyA n (nI v) hat num s))) M := by
  have n7 := O.2.1.2
  have e5 : hI M 65 5 = s.2.2.1 := by rw [C.2.2.2.1 5, if_pos rfl]
  unfold whyA
  rw [k141_0, k141_2]
  by_cases c3 : nI v = 3
  · rw [if_neg (fun q => q c3), x141_5 X, e5, k141_15, if_pos c3]
    by_cases q : s.2.2.1 < 999
    · rw [if_neg (fun z => i_le.mp z q), k141_18, k141_24, if_pos q]
    · rw [if_pos (i_le.mpr q), k141_22, k141_24, if_neg q]
  rw [if_pos c3, if_neg c3, k141_25, k141_26]
  have hb : badN (nI v) num → Wp none d 141 51 [(0, .ref 64), (1, .int (nI v)), (2, .int hat), (3, .int num)] [] M Q = Q (some (.int (if badN (nI v) num then -1 else if ¬ hatOk n hat then -2 else if canA n (nI v) hat.toNatClampNeg num s.1 s.2.1 then 0 else -3))) M := by
    intro b
    rw [k141_51, if_pos b]
  have ok : ¬ badN (nI v) num → Wp none d 141 53 [(0, .ref 64), (1, .int (nI v)), (2, .int hat), (3, .int num)] [] M Q = Q (some (.int (if badN (nI v) num then -1 else if ¬ hatOk n hat then -2 else if canA n (nI v) hat.toNatClampNeg num s.1 s.2.1 then 0 else -3))) M := by
    intro b
    rw [x141_53 X, k141_58 (x_K65 X), Hall_hasHat X.2.1 O.2.1, if_neg b]
    simp only [oN]
    rw [k141_61]
    by_cases h : ¬ hat < 0 ∧ ¬ nI n ≤ hat
    case neg => rw [if_neg (by rw [bz_eq0]; exact fun q => q h), k141_64, if_pos (show ¬ hatOk n hat from h)]
    obtain ⟨j, hj, rfl⟩ := hatOk_j n7 h
    rw [if_pos (by rw [bz_eq0]; exact fun q => q h), x141_67 X, k141_74 (x_K65 X), if_neg (c := ¬ hatOk n (nI j)) (fun q => q (show hatOk n (nI j) from h)), n_cl (by omega), Hall_canDo X.2.1 O.2.1 hj]
    simp only [oN]
    have ec : (if nI v = 0 then hI M (65 + 3) j = -1 ∧ hatF n (hI M (65 + 3)) num = -1 else if nI v = 1 then ¬ hI M (65 + 3) j = -1 else ¬ (hI M (65 + 4) j >>> (num &&& 31)) &&& 1 = 1) ↔ canA n (nI v) j num s.1 s.2.1 := by
      rw [show hI M (65 + 3) = s.1 from C.2.1, show hI M (65 + 4) = s.2.1 from C.2.2.1]
    rw [k141_77]
    by_cases q : canA n (nI v) j num s.1 s.2.1
    · rw [if_neg (by rw [bz_eq0]; exact fun z => z (ec.mpr q)), k141_80, k141_86, if_pos q]
    · rw [if_pos (by rw [bz_eq0]; exact fun z => q (ec.mp z)), k141_84, k141_86, if_neg q]
  have two : ¬ (nI v = 0 ∧ ¬ (¬ num < 0 ∧ ¬ 10 ≤ num)) → Wp none d 141 39 [(0, .ref 64), (1, .int (nI v)), (2, .int hat), (3, .int num)] [] M Q = Q (some (.int (if badN (nI v) num then -1 else if ¬ hatOk n hat then -2 else if canA n (nI v) hat.toNatClampNeg num s.1 s.2.1 then 0 else -3))) M := by
    intro h0
    rw [k141_39, k141_41]
    by_cases c2 : nI v = 2
    · rw [if_neg (fun q => q c2), k141_44, k141_45, T_isThought]
      simp only [oN]
      rw [k141_48]
      by_cases t : ¬ num < 0 ∧ ¬ 8 ≤ num
      · rw [if_pos (by rw [bz_eq0]; exact fun q => q t)]
        exact ok (fun b => b.elim h0 (fun z => z.2 t))
      · rw [if_neg (by rw [bz_eq0]; exact fun q => q t)]
        exact hb (Or.inr ⟨c2, t⟩)
    · rw [if_pos c2]
      exact ok (fun b => b.elim h0 (fun z => c2 z.1))
  by_cases c0 : nI v = 0
  · rw [if_neg (fun q => q c0), k141_29, k141_30]
    by_cases q1 : num < 0
    · rw [if_pos q1]
      exact hb (Or.inl ⟨c0, fun z => z.1 q1⟩)
    rw [if_neg q1, k141_33, k141_36]
    by_cases q2 : (10 : Int32) ≤ num
    · rw [if_pos q2]
      exact hb (Or.inl ⟨c0, fun z => z.2 q2⟩)
    rw [if_neg q2]
    exact two (fun z => z.2 ⟨q1, q2⟩)
  · rw [if_pos c0]
    exact two (fun z => c0 z.1)
theorem act_ok {M0 : hp} {n v : Nat} {L : Law} {hat num : Int32} {s : ASt} (X : XS M) (O0 : HallO M0 65 n L) (C : ClA M0 M s) (W : WFa n s) (hv : v < 4) (H1 : ¬ whyA n (nI v) hat num s = 0 → Q (some (.int (whyA n (nI v) hat num s))) M) (H0 : whyA n (nI v) hat num s = 0 → ∀ M', XS M' → ClA M0 M' (doA n (hI M0 66) (hI M0 67) (hI M0 65 7) L (nI v) hat num s).2 → Q (some (.int (doA n (hI M0 66) (hI M0 67) (hI M0 65 7) L (nI v) hat num s).1)) M') : Wp none d 140 0 [(0, .ref 64), (1, .int (nI v)), (2, .int hat), (3, .int num)] [] M Q := by
  have kb : kB = 154 := rfl
  have O := ClA_O O0 C W
  have n7 := O.2.1.2
  rw [k140_0, x140_4 X, whyNot_ok X O C hv]
  simp only [oN]
  rw [k140_7, k140_11]
  by_cases c : whyA n (nI v) hat num s = 0
  case neg =>
    rw [if_neg c, k140_14]
    exact H1 c
  have H0 := H0 c
  have c' := c
  obtain ⟨a, e68, e69, e65, U⟩ := C
  rw [if_pos c, x140_17 X, x140_26 X (x_K103 X)]
  refine keep_ok X U (fun M1 a1 U1 => ?_)
  have X1 : XS M1 := XS_same (sameS_agq (agq_of (B := []) a1) (by intro x q; simp at q)) X
  have g68 : hI M1 68 = s.1 := by rw [agr_I a1 (a := 68) (by decide)]; exact e68
  have g69 : hI M1 69 = s.2.1 := by rw [agr_I a1 (a := 69) (by decide)]; exact e69
  have g65 : ∀ k, hI M1 65 k = if k = 5 then s.2.2.1 else hI M0 65 k := fun k => by rw [agr_I a1 (a := 65) (by decide)]; exact e65 k
  have U1 : ClU M1 (pushU (s.1, s.2.1, s.2.2.1, nI v) s.2.2.2) := by
    rw [e68, e69, e65 5, if_pos rfl] at U1
    exact U1
  have aa : agr AE M0 M1 := agr_trans a (agr_mono a1 (by intro x q; simp [AE] at q ⊢; omega))
  have O1 : HallO M1 65 n L := ClA_O (s := (s.1, s.2.1, s.2.2.1, pushU (s.1, s.2.1, s.2.2.1, nI v) s.2.2.2)) O0 ⟨aa, g68, g69, g65, U1⟩ ⟨W.1, W.2.1, W.2.2.1, W.2.2.2.1, push_le W.2.2.2.2.1, push_all ⟨W.1, W.2.1, W.2.2.1, v, hv, rfl⟩ W.2.2.2.2.2⟩
  simp only [oZ]
  rw [k140_29, k140_30]
  unfold whyA at c
  by_cases c3 : nI v = 3
  · rw [if_neg (by rw [c3]; decide), if_neg (by rw [c3]; decide), if_neg (by rw [c3]; decide), x140_131 X1, k140_139 (x_K116 X1)]
    refine hour_ok (x_N X1) O1 (by omega) (by omega) (fun M2 b w5 w0 O2 => ?_)
    have X2 : XS M2 := XS_same (sameS_agq (agq_of (B := []) b) (by intro x q; simp at q)) X1
    have e66 : hI M1 66 = hI M0 66 := agr_I aa (by decide)
    have e67 : hI M1 67 = hI M0 67 := agr_I aa (by decide)
    have e7 : hI M1 65 7 = hI M0 65 7 := by rw [g65 7, if_neg (by decide)]
    have e5 : hI M1 65 5 = s.2.2.1 := by rw [g65 5, if_pos rfl]
    have ev : lrnF (hourT L M1 65 n) n = lrnF (hourG L (hI M0 66) (hI M0 67) s.1 n (hI M0 65 7) (s.2.1, s.2.2.1)) n := by
      rw [hourT_G, show hI M1 (65 + 1) = hI M0 66 from e66, show hI M1 (65 + 2) = hI M0 67 from e67, show hI M1 (65 + 3) = s.1 from g68, show hI M1 (65 + 4) = s.2.1 from g69, e7, e5]
    have eh : hoursF L M1 65 n 1 = (stepG L (hI M0 66) (hI M0 67) s.1 n (hI M0 65 7) (s.2.1, s.2.2.1)).1 := by
      unfold hoursF
      rw [show hI M1 (65 + 1) = hI M0 66 from e66, show hI M1 (65 + 2) = hI M0 67 from e67, show hI M1 (65 + 3) = s.1 from g68, show hI M1 (65 + 4) = s.2.1 from g69, e7, e5]
      rfl
    simp only [oN]
    rw [ev, k140_142]
    unfold doA at H0
    rw [if_neg (by rw [c3]; decide), if_neg (by rw [c3]; decide), if_neg (by rw [c3]; decide)] at H0
    refine H0 M2 X2 ⟨agr_trans aa (agr_mono b (by intro x q; simp [hE, nF, AE] at q ⊢; omega)), ?_, ?_, fun k => ?_, ClU_fr U1 (agr_I b (by decide)) (agr_I b (by decide))⟩
    · rw [agr_I b (a := 68) (by decide)]; exact g68
    · show hI M2 (65 + 4) = _
      rw [w5]; exact eh
    · show hI M2 65 k = if k = 5 then s.2.2.1 + 1 else hI M0 65 k
      rw [w0 k]
      by_cases q : k = 5
      · rw [if_pos q, if_pos q, e5]
      · rw [if_neg q, if_neg q, g65 k, if_neg q]
  rw [if_neg c3] at c
  by_cases cb : badN (nI v) num
  · rw [if_pos cb] at c; exact absurd c (by decide)
  rw [if_neg cb] at c
  by_cases ch : hatOk n hat
  case neg => rw [if_pos ch] at c; exact absurd c (by decide)
  obtain ⟨j, hj, rfl⟩ := hatOk_j n7 ch
  unfold doA at H0
  rw [n_cl (by omega)] at H0
  by_cases c0 : nI v = 0
  · rw [if_pos c0] at H0
    rw [if_pos c0, x140_56 X1, k140_65, put_7 (x_K68 X1) (by decide) (by omega)]
    have X2 : XS (sI M1 68 j num) := X1
    have h68 : hI (sI M1 68 j num) 68 = updI s.1 j num := upd_sI g68
    simp only [oZ]
    rw [x140_68 X2, k140_73 (x_K65 X2), Hall_besideCount X2.2.1 (show HallN (sI M1 68 j num) 65 n from O1.2.1) (by omega)]
    simp only [oN]
    have eb : ((if hatF n (hI (sI M1 68 j num) (65 + 3)) (hI (sI M1 68 j num) (65 + 3) j - 1) = -1 then (0 : Int32) else 1) + (if hatF n (hI (sI M1 68 j num) (65 + 3)) (hI (sI M1 68 j num) (65 + 3) j + 1) = -1 then 0 else 1)) = besC n (updI s.1 j num) j := by
      rw [show hI (sI M1 68 j num) (65 + 3) = updI s.1 j num from h68]
      rfl
    rw [eb, k140_76]
    exact H0 _ X2 ⟨agr_trans aa (agr_sI (by decide)), h68, by rw [← g69]; funext k; exact hI_sI_a (by decide), fun k => by rw [hI_sI_a (by decide)]; exact g65 k, ClU_fr U1 (by funext k; exact hI_sI_a (by decide)) (by funext k; exact hI_sI_a (by decide))⟩
  rw [if_neg c0] at H0
  rw [if_neg c0]
  by_cases c1 : nI v = 1
  · rw [if_pos c1] at H0
    rw [if_pos c1, x140_77 X1, k140_85, at_7 (x_K68 X1) (by decide) (by omega)]
    simp only [oN]
    rw [x140_88 X1, k140_99, put_7 (x_K68 X1) (by decide) (by omega)]
    have X2 : XS (sI M1 68 j (-1)) := X1
    have h68 : hI (sI M1 68 j (-1)) 68 = updI s.1 j (-1) := upd_sI g68
    simp only [oZ]
    rw [k140_102, g68]
    exact H0 _ X2 ⟨agr_trans aa (agr_sI (by decide)), h68, by rw [← g69]; funext k; exact hI_sI_a (by decide), fun k => by rw [hI_sI_a (by decide)]; exact g65 k, ClU_fr U1 (by funext k; exact hI_sI_a (by decide)) (by funext k; exact hI_sI_a (by decide))⟩
  rw [if_neg c1] at H0
  have c2 : nI v = 2 := by
    have : ¬ v = 0 := fun e => c0 (by rw [e]; rfl)
    have : ¬ v = 1 := fun e => c1 (by rw [e]; rfl)
    have : ¬ v = 3 := fun e => c3 (by rw [e]; rfl)
    have : v = 2 := by omega
    rw [this]; rfl
  have ht : thOk num := Classical.byContradiction (fun q => cb (Or.inr ⟨c2, q⟩))
  obtain ⟨t, t1, rfl⟩ := (vin_of2 (n := 8) ht.1 ht.2 (by omega)).2
  rw [if_pos c2] at H0
  have X2 : XS (sI M1 69 j (s.2.1 j ||| ((1 : Int32) <<< (nI t &&& 31)))) := X1
  rw [if_neg c1, if_pos c2, x140_105 X1, k140_113 (x_K65 X1), Hall_learn X1.2.1 (by omega), show hI M1 (65 + 4) j = s.2.1 j from congrFun g69 j, show (65 + 4 : Nat) = 69 from rfl]
  simp only [oZ]
  rw [x140_116 X2, k140_124, at_7 (x_K69 X2) (by decide) (by omega), hI_sI_s]
  simp only [oN]
  rw [k140_127, bitCount_ok (sm_or (W.2.1 j hj) (sm_bit t t1))]
  simp only [oN]
  rw [k140_130]
  exact H0 _ X2 ⟨agr_trans aa (agr_sI (by decide)), by rw [← g68]; funext k; exact hI_sI_a (by decide), upd_sI g69, fun k => by rw [hI_sI_a (by decide)]; exact g65 k, ClU_fr U1 (by funext k; exact hI_sI_a (by decide)) (by funext k; exact hI_sI_a (by decide))⟩
