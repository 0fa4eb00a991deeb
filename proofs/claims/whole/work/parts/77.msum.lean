variable {d : Nat} {M : hp} {Q : Option Value → hp → Prop}
/-! the loop of readExpression, at a turn t -/
def WL (d : Nat) (ts : Int32) (Q : Option Value → hp → Prop) (t : Int32) (M : hp) : Prop := Wp none d 209 20 [(0, .ref 126), (1, .int ts), (2, .int t)] [] M Q
def WR (d : Nat) (ts : Int32) (Q : Option Value → hp → Prop) : Option Value → hp → Prop := fun r M1 => match r with
  | some (.int v) => WL d ts Q v M1
  | _ => False
theorem WL_1 {ts : Int32} (F : MF M) (hb : hI M 126 19 = 0) (h : Wp none d 205 0 [(0, .ref 126)] [] M (WR d ts Q)) : WL d ts Q 1 M := by
  unfold WL
  rw [m209_20 F, hb, k209_24, if_neg (by decide), k209_27, k209_29, if_neg (by decide), k209_32, k209_33, if_pos (by decide), k209_43, k209_45, if_neg (by decide), k209_48, m209_49 F]
  refine Wp.mono h ?_
  intro r M' hr
  unfold WR at hr
  split at hr
  · simp only [oN]
    rw [k209_52, k209_72]
    exact hr
  · exact absurd hr id
theorem WL_0 {ts : Int32} (F : MF M) (hb : hI M 126 19 = 0) (h : Wp none d 206 0 [(0, .ref 126)] [] M (WR d ts Q)) : WL d ts Q 0 M := by
  unfold WL
  rw [m209_20 F, hb, k209_24, if_neg (by decide), k209_27, k209_29, if_neg (by decide), k209_32, k209_33, if_neg (by decide), k209_36, m209_37 F]
  refine Wp.mono h ?_
  intro r M' hr
  unfold WR at hr
  split at hr
  · simp only [oN]
    rw [k209_40, k209_72]
    exact hr
  · exact absurd hr id
theorem WL_3 {ts : Int32} (F : MF M) (hb : hI M 126 19 = 0) (h : Wp none d 207 0 [(0, .ref 126), (1, .int ts)] [] M (WR d ts Q)) : WL d ts Q 3 M := by
  unfold WL
  rw [m209_20 F, hb, k209_24, if_neg (by decide), k209_27, k209_29, if_neg (by decide), k209_32, k209_33, if_pos (by decide), k209_43, k209_45, if_pos (by decide), k209_55, k209_57, if_neg (by decide), k209_60, m209_62 F]
  refine Wp.mono h ?_
  intro r M' hr
  unfold WR at hr
  split at hr
  · simp only [oN]
    rw [k209_65, k209_72]
    exact hr
  · exact absurd hr id
theorem WL_2 {ts : Int32} (F : MF M) (hb : hI M 126 19 = 0) (h : Wp none d 208 0 [(0, .ref 126)] [] M (WR d ts Q)) : WL d ts Q 2 M := by
  unfold WL
  rw [m209_20 F, hb, k209_24, if_neg (by decide), k209_27, k209_29, if_neg (by decide), k209_32, k209_33, if_pos (by decide), k209_43, k209_45, if_pos (by decide), k209_55, k209_57, if_pos (by decide), k209_68, m209_69 F]
  refine Wp.mono h ?_
  intro r M' hr
  unfold WR at hr
  split at hr
  · simp only [oN]
    rw [k209_72]
    exact hr
  · exact absurd hr id
/-- a part, as the reference reads it -/
def PK (M0 : hp) (b : Nat → Nat) (L : Nat) (o : Bool) (s n k c p d : Nat) (ts : Int32) (Q : Option Value → hp → Prop) (r : PR) : Prop := match r with
  | .inl q => ∀ M' t, Bd M0 M' q → WL d ts Q t M'
  | .inr (s1, n1, D) => ∀ M' c1, MOk M0 M' b L o s n k c p s1 n1 c1 D → WL d ts Q 3 M'
def SK (l : Nat) (M0 : hp) (b : Nat → Nat) (L : Nat) (o : Bool) (s n k c p d : Nat) (ts : Int32) (Q : Option Value → hp → Prop) (ex : Nat → Prop) (r : PR) : Prop := match r with
  | .inl q => ∀ M' t, Bd M0 M' q → WL d ts Q t M'
  | .inr (s1, n1, D) => ∀ M' M1 p1 c1, MSet l M0 M' M1 b L o s n k c p s1 n1 p1 c1 D → ex s1 → WL d ts Q 3 M'
/-- leaves -/
theorem leaf_n {b : Nat → Nat} {L s n k c p : Nat} {o : Bool} {is op arg : Int32} (F : MF M) (P : PS M b L o s n k c p) (h : is = 0 ∨ 50 ≤ n) : Wp none d 204 0 [(0, .ref 126), (1, .int is), (2, .int op), (3, .int arg)] [] M Q = Q none (badM M s) := by
  have h0 : Wp none d 204 18 [(0, .ref 126), (1, .int is), (2, .int op), (3, .int arg)] [.ref 126] M Q = Q none (badM M s) := by
    have F1 : MF (badM M s) := F
    rw [k204_18, m204_19 F, must_n F P.1 P.2.1]
    simp only [oZ]
    show Wp none d 204 22 [(0, .ref 126), (1, .int is), (2, .int op), (3, .int arg)] [] (badM M s) Q = _
    rw [m204_22 F1, badM_19, k204_26, if_pos (by decide), k204_45]
  rw [k204_0, k204_2]
  by_cases c1 : is = 0
  · rw [if_pos c1, h0]
  · have hn := P.2.2.2.2.2.2.2.1
    rw [if_neg c1, m204_5 F, P.2.2.1, k204_11, show (50 : Int32) = nI 50 from rfl, lei (by omega) (by omega), if_pos (by rcases h with h | h; exact absurd h c1; exact h), h0]
theorem leaf_y {b : Nat → Nat} {L s n k c p : Nat} {o : Bool} {is op arg : Int32} (F : MF M) (T : TR M b L) (P : PS M b L o s n k c p) (h : ¬ is = 0) (hn : n < 50) (hc : c < 400) (hQ : ∀ M', tkS M M' → NTk M' b L (nx b L s) → Q none (sI (memit M' c op arg) 126 26 (nI (n + 1)))) : Wp none d 204 0 [(0, .ref 126), (1, .int is), (2, .int op), (3, .int arg)] [] M Q := by
  rw [k204_0, k204_2, if_neg h, m204_5 F, P.2.2.1, k204_11, show (50 : Int32) = nI 50 from rfl, lei (by omega) (by omega), if_neg (by omega), k204_14, m204_19 F]
  refine must_y F T P.1 P.2.1 (by decide) ?_
  intro M1 t1 K1
  have F1 : MF M1 := MF_agr F t1.1
  have e : ∀ j, ¬ j = 14 → ¬ j = 15 → ¬ j = 16 → hI M1 126 j = hI M 126 j := t1.2.1
  have F2 : MF (memit M1 c op arg) := F1
  simp only [oZ]
  rw [m204_22 F1, (e 19 (by decide) (by decide) (by decide)), P.2.1, k204_26, if_neg (by decide), k204_29, m204_32 F1, memit_ok F1 ((e 23 (by decide) (by decide) (by decide)).trans P.2.2.2.2.1) hc]
  simp only [oZ]
  rw [m204_35 F2, memit_f (by decide), (e 26 (by decide) (by decide) (by decide)), P.2.2.1, nI_1, k204_45]
  exact hQ M1 t1 K1
/-- behind a leaf -/
theorem MOk_leaf {M1 : hp} {b : Nat → Nat} {L s n k c p s' : Nat} {o : Bool} {op arg : Int32} {D : Den} (P : PS M b L o s n k c p) (t : tkS M M1) (K : NTk M1 b L s') (hs : s < s') (hn : n < 50) (hop : op < 20) (hl : lfB o op arg = true) (hD : ∀ e, D e = some (lvR o e op arg)) : MOk M (sI (memit M1 c op arg) 126 26 (nI (n + 1))) b L o s n k c p s' (n + 1) (c + 1) D := by
  have P1 := PS_tk P t K (Nat.le_of_lt hs)
  obtain ⟨p1, p2, p3, p4, p5, p6, p7, p8, p9, p10⟩ := P1
  have hcp := P.2.2.2.2.2.2.2.2.1
  have ef : ∀ j, ¬ j = 23 → ¬ j = 26 → hI (sI (memit M1 c op arg) 126 26 (nI (n + 1))) 126 j = hI M1 126 j := fun j h1 h2 => by rw [hI_sI_k h2, memit_f h1]
  have pp := memit_pile M1 c op arg
  have ep : ∀ j, hI (sI (memit M1 c op arg) 126 26 (nI (n + 1))) 139 j = hI M1 139 j ∧ hI (sI (memit M1 c op arg) 126 26 (nI (n + 1))) 140 j = hI M1 140 j := fun j => by rw [hI_sI_a (by decide), hI_sI_a (by decide), pp.1, pp.2]; exact ⟨rfl, rfl⟩
  have n139 : ([126] : List Nat).contains 139 = false := by decide
  have n140 : ([126] : List Nat).contains 140 = false := by decide
  have n137 : ([126] : List Nat).contains 137 = false := by decide
  have n138 : ([126] : List Nat).contains 138 = false := by decide
  refine ⟨pFr_trans (tkS_pFr t) (pFr_f (memit_fr _ _ _ _) (by decide)), ⟨NTk_fr p1 (ef _ (by decide) (by decide)) (ef _ (by decide) (by decide)) (ef _ (by decide) (by decide)) rfl, (ef _ (by decide) (by decide)).trans p2, hI_sI_s _ _ _ _, (ef _ (by decide) (by decide)).trans p4, ?_, (ef _ (by decide) (by decide)).trans p6, (ef _ (by decide) (by decide)).trans p7, by omega, by omega, PV_cong p10 (fun j _ => ep j)⟩, ?_, ?_, ?_, hs, by omega⟩
  · rw [hI_sI_k (by decide)]; exact memit_23 _ _ _ _
  · intro j hj
    rw [hI_sI_a (by decide), hI_sI_a (by decide), memit_op, memit_arg, if_neg (by omega), if_neg (by omega), agr_I t.1 n137, agr_I t.1 n138]
    exact ⟨rfl, rfl⟩
  · intro j hj
    rw [(ep j).1, (ep j).2, agr_I t.1 n139, agr_I t.1 n140]
    exact ⟨rfl, rfl⟩
  · refine SegR_leaf ?_ ?_ (fun e => ?_)
    · rw [hI_sI_a (by decide), memit_op, if_pos rfl]; exact hop
    · rw [hI_sI_a (by decide), hI_sI_a (by decide), memit_op, memit_arg, if_pos rfl, if_pos rfl]; exact hl
    · rw [hI_sI_a (by decide), hI_sI_a (by decide), memit_op, memit_arg, if_pos rfl, if_pos rfl]; exact hD e
theorem mS {b : Nat → Nat} {L s c : Nat} (F : MF M) (T : TR M b L) (K : NTk M b L s) (hc : c = 42 ∨ c = 47 ∨ c = 37 ∨ c = 43 ∨ c = 45 ∨ c = 60 ∨ c = 62 ∨ c = 61 ∨ c = 91 ∨ c = 93 ∨ c = 40 ∨ c = 41 ∨ c = 59) : ∀ (d : Nat) (Q : Option Value → hp → Prop), Wp none d 191 0 [(0, .ref 126), (1, .int (nI c))] [] M Q = Q (some (.int (bz (sg b L s c)))) M := by
  intro d Q
  exact mIsSign F T K (by omega) (decide_eq_false (by omega)) (decide_eq_false (by omega))
theorem sg_un {b : Nat → Nat} {L s c c' : Nat} (h : sg b L s c) (hc : ¬ c = c') : ¬ sg b L s c' := fun z => hc (h.2.symm.trans z.2)
theorem ix1_ne {x : Option Nat} (h : ∀ j, x = some j → j < 100) : (ix1 x = -1) = (x = none) := by
  apply propext
  cases x with
  | none => exact ⟨fun _ => rfl, fun _ => rfl⟩
  | some j =>
    have := h j rfl
    constructor
    · intro q
      have q : nI (j + 1) = -1 := q
      rw [n_m1 (by omega)] at q
      exact absurd q id
    · intro q; cases q
/-- a number, a word, as the reference reads it -/
theorem leafR {b : Nat → Nat} {L s n k c p : Nat} {o : Bool} {ts : Int32} (F : MF M) (T : TR M b L) (W : MWd M) (P : PS M b L o s n k c p) (H : PK M b L o s n k c p d ts Q (leafP b L o s n)) : Wp none d 205 17 [(0, .ref 126)] [] M (WR d ts Q) := by
  have L4 := T.2.1
  have K := P.1
  have hsL := K.2.2.2.2
  have hn := P.2.2.2.2.2.2.2.1
  have hcp := P.2.2.2.2.2.2.2.2.1
  have h4 := srt_lt b L s
  have o20 := P.2.2.2.2.2.2.1
  -- which word
  have hw : Wp none d 205 17 [(0, .ref 126)] [] M (WR d ts Q) = Wp none d 205 35 [(0, .ref 126)] [.int (ix1 (wix (if o = true then kwOW else kwLW) (wrd b L s)))] M (WR d ts Q) := by
    rw [m205_17 F, o20, k205_21, bzi]
    by_cases co : o = true
    · rw [if_neg (fun z => z co), if_pos co, k205_24, m205_25 F, orderPartAt_ok F W K]
      simp only [oN]
      rw [k205_28]
    · rw [if_pos co, if_neg co, k205_31, m205_32 F, partAt_ok F W K]
      simp only [oN]
  rw [hw]
  have hix : ∀ j, wix (if o = true then kwOW else kwLW) (wrd b L s) = some j → j < 9 := by
    intro j hj
    have := wix_lt _ _ _ hj
    split at this
    · exact Nat.lt_of_lt_of_le this (by decide)
    · exact Nat.lt_of_lt_of_le this (by decide)
  -- whether it is a number
  have hnum : ∃ w : Int32, (∀ v, nmI b L s 0 1000 = some v → w = nI v) ∧ Wp none d 205 35 [(0, .ref 126)] [.int (ix1 (wix (if o = true then kwOW else kwLW) (wrd b L s)))] M (WR d ts Q) = Wp none d 205 60 [(0, .ref 126), (1, .int (ix1 (wix (if o = true then kwOW else kwLW) (wrd b L s))))] [.int (bz (¬ nmI b L s 0 1000 = none))] M (WR d ts Q) ∧ (hL M 126 17).toInt32 = w := by
    refine ⟨_, ?_, ?_, rfl⟩
    · intro v hv
      obtain ⟨q1, q2, q3, q4⟩ := nmI_s hv
      have h2 := srt_2 q1 q2
      obtain ⟨w, w1, w2, w3⟩ := dig_w h2
      have e := nmI_dig (lo := 0) (hi := 1000) h2 w3 (by omega)
      rw [e] at hv
      split at hv
      · cases hv
        rw [K.2.2.2.1, w1, lN_i]
      · cases hv
    · rw [m205_35 F, K.2.2.1, k205_41, show (2 : Int32) = nI 2 from rfl, nej (by omega) (by omega)]
      by_cases c2 : srt b L s = 2
      · obtain ⟨w, w1, w2, w3⟩ := dig_w c2
        have e := nmI_dig (lo := 0) (hi := 1000) c2 w3 (by omega)
        rw [if_neg (fun z => z c2), m205_44 F, K.2.2.2.1, w1, k205_52]
        simp only [lg_cmp_gt]
        by_cases c3 : w ≤ 1000
        · rw [if_neg (by rw [show (1000 : Int64) = lN 1000 from rfl, lN_lt (by omega) (by omega)]; omega), k205_55, bz_t (by rw [e, if_pos ⟨by omega, c3⟩]; intro z; cases z)]
        · rw [if_pos (by rw [show (1000 : Int64) = lN 1000 from rfl, lN_lt (by omega) (by omega)]; omega), k205_59, bz_f (fun z => z (by rw [e, if_neg (fun z => c3 z.2)]))]
      · rw [if_pos c2, k205_59, bz_f (fun z => z (nmI_nodig c2))]
  obtain ⟨w, hw1, hw2, hw3⟩ := hnum
  rw [hw2, k205_60, k205_64]
  generalize hx : wix (if o = true then kwOW else kwLW) (wrd b L s) = x at *
  have hixn := ix1_ne (x := x) (fun j hj => by have := hix j hj; omega)
  -- the arguments of leaf
  have args : ∀ is : Int32, Wp none d 205 76 [(0, .ref 126), (1, .int (ix1 x)), (2, .int (bz (¬ nmI b L s 0 1000 = none)))] [.int is, .ref 126] M (WR d ts Q) = Wp none d 204 0 [(0, .ref 126), (1, .int is), (2, .int (if x = none then 0 else ix1 x)), (3, .int (if ¬ nmI b L s 0 1000 = none then w else 0))] [] M (fun r M1 => Wp none d 205 102 [(0, .ref 126), (1, .int (ix1 x)), (2, .int (bz (¬ nmI b L s 0 1000 = none)))] (r.toList ++ []) M1 (WR d ts Q)) := by
    intro is
    rw [k205_76, k205_78]
    by_cases c1 : x = none
    · rw [if_neg (fun z => z (by rw [hixn]; exact c1)), if_pos c1, k205_81, k205_86, k205_87, bzi]
      by_cases c2 : nmI b L s 0 1000 = none
      · rw [if_pos (fun z => z c2), if_neg (fun z => z c2), k205_98, m205_99 F]
      · rw [if_neg (fun z => z c2), if_pos c2, m205_90 F, hw3, m205_99 F]
    · rw [if_pos (by rw [hixn]; exact c1), if_neg c1, k205_85, k205_86, k205_87, bzi]
      by_cases c2 : nmI b L s 0 1000 = none
      · rw [if_pos (fun z => z c2), if_neg (fun z => z c2), k205_98, m205_99 F]
      · rw [if_neg (fun z => z c2), if_pos c2, m205_90 F, hw3, m205_99 F]
  -- behind a leaf that was none
  have bad : leafP b L o s n = .inl s → Wp none d 205 102 [(0, .ref 126), (1, .int (ix1 x)), (2, .int (bz (¬ nmI b L s 0 1000 = none)))] [] (badM M s) (WR d ts Q) := by
    intro e
    rw [e] at H
    have F1 : MF (badM M s) := F
    have done : Wp none d 205 142 [(0, .ref 126), (1, .int (ix1 x)), (2, .int (bz (¬ nmI b L s 0 1000 = none)))] [] (badM M s) (WR d ts Q) := by
      rw [k205_142]
      exact H (badM M s) 3 (badM_Bd P L4)
    rw [m205_102 F1, k205_106]
    split
    · exact done
    · rw [k205_109, k205_111]
      split
      · exact done
      · rw [m205_114 F1, badM_19, k205_118, if_pos (by decide)]
        exact done
  have nbad : ∀ is, (is = 0 ∨ 50 ≤ n) → leafP b L o s n = .inl s → Wp none d 205 76 [(0, .ref 126), (1, .int (ix1 x)), (2, .int (bz (¬ nmI b L s 0 1000 = none)))] [.int is, .ref 126] M (WR d ts Q) := by
    intro is h e
    rw [args, leaf_n F P h]
    simp only [oZ]
    exact bad e
  by_cases c0 : nmI b L s 0 1000 = none ∧ x = none
  · rw [if_neg (fun z => z (by rw [hixn]; exact c0.2)), k205_67, k205_68, if_pos (bz_f (fun z => z c0.1)), k205_75]
    refine nbad 0 (Or.inl rfl) ?_
    unfold leafP
    rw [c0.1, hx, c0.2]
  · have is1 : (if ¬ ix1 x = -1 then Wp none d 205 71 [(0, .ref 126), (1, .int (ix1 x)), (2, .int (bz (¬ nmI b L s 0 1000 = none)))] [.ref 126] M (WR d ts Q) else Wp none d 205 67 [(0, .ref 126), (1, .int (ix1 x)), (2, .int (bz (¬ nmI b L s 0 1000 = none)))] [.ref 126] M (WR d ts Q)) = Wp none d 205 76 [(0, .ref 126), (1, .int (ix1 x)), (2, .int (bz (¬ nmI b L s 0 1000 = none)))] [.int 1, .ref 126] M (WR d ts Q) := by
      by_cases c1 : x = none
      · rw [if_neg (fun z => z (by rw [hixn]; exact c1)), k205_67, k205_68, bzi, if_neg (fun z => z (fun q => c0 ⟨q, c1⟩)), k205_71]
      · rw [if_pos (by rw [hixn]; exact c1), k205_71]
    rw [is1]
    by_cases c5 : n < 50
    · have hsl : s < L := by
        rcases Nat.lt_or_ge s L with q | q
        · exact q
        · exfalso
          apply c0
          refine ⟨?_, ?_⟩
          · unfold nmI; rw [if_neg (by omega)]
          · rw [← hx]
            apply wix_no
            intro w hw
            refine wrd_ne ?_ (by omega)
            split at hw
            · exact List.all_eq_true.mp kd_l2 w hw
            · exact List.all_eq_true.mp kd_l1 w hw
      have hnx := nx_gt (b := b) hsl
      have hnl := nx_le (b := b) (L := L) (s := s) (by omega)
      rw [args]
      refine leaf_y F T P (by decide) c5 (by omega) ?_
      intro M1 t1 K1
      simp only [oZ]
      have F1 : MF M1 := MF_agr F t1.1
      cases hv : nmI b L s 0 1000 with
      | some v =>
        obtain ⟨q1, q2, q3, q4⟩ := nmI_s hv
        have hxn : x = none := by rw [← hx]; exact wix_num hv (by split; exact kd_l2; exact kd_l1)
        have e1 : leafP b L o s n = .inr (nx b L s, n + 1, numD v) := by unfold leafP; rw [hv]; show (if 50 ≤ n then _ else _) = _; rw [if_neg (by omega)]
        rw [e1] at H
        rw [hv] at hw1
        rw [if_pos hxn, if_pos (show ¬ (some v : Option Nat) = none by intro z; cases z), hw1 v rfl]
        have ok := MOk_leaf (op := 0) (arg := nI v) P t1 K1 hnx c5 (by decide) (by cases o <;> rfl) (D := numD v) (fun e => by unfold lvR; rw [if_pos rfl]; rfl)
        have F2 : MF (sI (memit M1 c 0 (nI v)) 126 26 (nI (n + 1))) := F1
        have done : ∀ x1 x2 : Int32, Wp none d 205 142 [(0, .ref 126), (1, .int x1), (2, .int x2)] [] (sI (memit M1 c 0 (nI v)) 126 26 (nI (n + 1))) (WR d ts Q) := by
          intro x1 x2
          rw [k205_142]
          exact H _ _ ok
        rw [m205_102 F2, k205_106, hxn]
        split
        · exact done _ _
        · rw [k205_109, k205_111, if_pos (show ix1 none < 5 by decide)]
          exact done _ _
      | none =>
        rw [hv] at c0
        cases hxs : x with
        | none => exact absurd ⟨rfl, hxs⟩ c0
        | some j =>
          have hj9 := hix j hxs
          have e1 : leafP b L o s n = if o = true ∧ 4 ≤ j then (match nmI b L (nx b L s) 0 6 with
            | none => .inl (nx b L s)
            | some h => .inr (nx b L (nx b L s), n + 1, wrdD (h + if j = 5 then 11 else 4))) else .inr (nx b L s, n + 1, wrdD j) := by
            unfold leafP
            rw [hv, hx, hxs]
            show (if 50 ≤ n then _ else _) = _
            rw [if_neg (by omega)]
            rfl
          rw [e1] at H
          rw [if_neg (show ¬ (some j : Option Nat) = none by intro z; cases z), if_neg (fun z => z rfl), show ix1 (some j) = nI (j + 1) from rfl]
          have F2 : MF (sI (memit M1 c (nI (j + 1)) 0) 126 26 (nI (n + 1))) := F1
          have hop : nI (j + 1) < (20 : Int32) := by show nI (j + 1) < nI 20; rw [n_lt (by omega) (by omega)]; omega
          have hl : lfB o (nI (j + 1)) 0 = true := by
            have q := wix_lt _ _ _ (hx.trans hxs)
            have h0 : (0 : Int32) ≤ nI (j + 1) := by show nI 0 ≤ nI (j + 1); rw [n_le (by omega) (by omega)]; omega
            have h6 : j < 6 → nI (j + 1) ≤ (6 : Int32) := fun z => by show nI (j + 1) ≤ nI 6; rw [n_le (by omega) (by omega)]; omega
            have h9 : nI (j + 1) ≤ (9 : Int32) := by show nI (j + 1) ≤ nI 9; rw [n_le (by omega) (by omega)]; omega
            unfold lfB
            rw [show (decide ((0 : Int32) ≤ 0) && decide ((0 : Int32) ≤ 6)) = true from rfl, Bool.or_true]
            by_cases co : o = true
            · rw [if_pos co] at q
              rw [if_pos co, decide_eq_true h0, decide_eq_true (h6 q)]
              rfl
            · rw [if_neg co, decide_eq_true h0, decide_eq_true h9]
              rfl
          have e20 : hI (sI (memit M1 c (nI (j + 1)) 0) 126 26 (nI (n + 1))) 126 20 = bz (o = true) := by rw [hI_sI_k (by decide), memit_f (by decide), t1.2.1 20 (by decide) (by decide) (by decide)]; exact o20
          rw [m205_102 F2, e20, k205_106, bzi]
          have ok0 : ¬ (o = true ∧ 4 ≤ j) → Wp none d 205 142 [(0, .ref 126), (1, .int (nI (j + 1))), (2, .int (bz (¬ (none : Option Nat) = none)))] [] (sI (memit M1 c (nI (j + 1)) 0) 126 26 (nI (n + 1))) (WR d ts Q) := by
            intro z
            rw [if_neg z] at H
            rw [k205_142]
            refine H _ _ (MOk_leaf P t1 K1 hnx c5 hop hl (fun e => ?_))
            unfold lvR
            have z0 : ¬ nI (j + 1) = 0 := by rw [show (0 : Int32) = nI 0 from rfl, n_eq (by omega) (by omega)]; omega
            have z5 : ¬ (o = true ∧ nI (j + 1) = 5) := by rw [show (5 : Int32) = nI 5 from rfl, n_eq (by omega) (by omega)]; intro q; exact z ⟨q.1, by omega⟩
            have z6 : ¬ (o = true ∧ nI (j + 1) = 6) := by rw [show (6 : Int32) = nI 6 from rfl, n_eq (by omega) (by omega)]; intro q; exact z ⟨q.1, by omega⟩
            rw [if_neg z0, if_neg z5, if_neg z6, n_cl (by omega)]
            rfl
          by_cases co : o = true
          · rw [if_neg (fun z => z co), k205_109, k205_111, show (5 : Int32) = nI 5 from rfl, lti (by omega) (by omega)]
            by_cases c6 : j + 1 < 5
            · rw [if_pos c6]
              exact ok0 (by omega)
            · rw [if_neg c6]
              rw [if_pos ⟨co, by omega⟩] at H
              have b19 : hI (sI (memit M1 c (nI (j + 1)) 0) 126 26 (nI (n + 1))) 126 19 = 0 := by rw [hI_sI_k (by decide), memit_f (by decide), t1.2.1 19 (by decide) (by decide) (by decide)]; exact P.2.1
              have e23 : hI (sI (memit M1 c (nI (j + 1)) 0) 126 26 (nI (n + 1))) 126 23 = nI (c + 1) := by rw [hI_sI_k (by decide)]; exact memit_23 _ _ _ _
              have K2 : NTk (sI (memit M1 c (nI (j + 1)) 0) 126 26 (nI (n + 1))) b L (nx b L s) := NTk_fr K1 (by rw [hI_sI_k (by decide), memit_f (by decide)]) (by rw [hI_sI_k (by decide), memit_f (by decide)]) (by rw [hI_sI_k (by decide), memit_f (by decide)]) rfl
              have fr2 : pFr M (sI (memit M1 c (nI (j + 1)) 0) 126 26 (nI (n + 1))) := pFr_trans (tkS_pFr t1) (pFr_f (memit_fr _ _ _ _) (by decide))
              have ok1 := MOk_leaf (op := nI (j + 1)) (arg := 0) P t1 K1 hnx c5 hop hl (D := fun e => some (lvR o e (nI (j + 1)) 0)) (fun e => rfl)
              have opx0 : hI (sI (memit M1 c (nI (j + 1)) 0) 126 26 (nI (n + 1))) 137 c = nI (j + 1) := by rw [hI_sI_a (by decide), memit_op, if_pos rfl]
              generalize sI (memit M1 c (nI (j + 1)) 0) 126 26 (nI (n + 1)) = M2 at *
              have T2 := TR_pFr T fr2
              rw [m205_114 F2, b19, k205_118, if_neg (by decide), m205_121 F2, e23, nI_pred, m205_138 F2, show (0 : Int64) = lN 0 from rfl, show (6 : Int64) = lN 6 from rfl]
              refine number_ok F2 T2 K2 b19 (by omega) (by omega) ?_
              cases hh : nmI b L (nx b L s) 0 6 with
              | none =>
                rw [hh] at H
                intro v
                simp only [oM]
                rw [m205_141 (M := sI (sI M2 126 19 1) 126 18 (nI (nx b L s))) F2 (by show (hK M2 138).1 = 20; rw [m_K138 F2]) (by show vin (nI c) (hK M2 138).2 = true; rw [m_K138 F2]; exact v400 (by omega)), k205_142, n_cl (by omega)]
                refine H _ 3 ?_
                have bd := badM_Bd (q := nx b L s) ok1.2.1 L4
                obtain ⟨g1, g2, g3, cc, ppp, g4, g5, g6, g7⟩ := bd
                exact ⟨pFr_trans fr2 (pFr_a g1 (Or.inr (Or.inl rfl))), (hI_sI_a (by decide)).trans g2, (hI_sI_a (by decide)).trans g3, cc, ppp, (hI_sI_a (by decide)).trans g4, (hI_sI_a (by decide)).trans g5, g6, PV_cong g7 (fun i _ => ⟨hI_sI_a (by decide), hI_sI_a (by decide)⟩)⟩
              | some h =>
                rw [hh] at H
                obtain ⟨q1, q2, q3, q4⟩ := nmI_s hh
                have hnx2 := nx_gt (b := b) q1
                intro M3 t3 K3
                have F3 : MF M3 := MF_agr F2 t3.1
                simp only [oM]
                rw [m205_141 F3 (by rw [m_K138 F3]) (by rw [m_K138 F3]; exact v400 (by omega)), k205_142, n_cl (by omega)]
                have ok2 := MOk_tk ok1 t3 K3 (Nat.le_of_lt hnx2)
                obtain ⟨g1, g2, g3, g4, g5, g6, g7⟩ := ok2
                obtain ⟨r1, r2, r3, r4, r5, r6, r7, r8, r9, r10⟩ := g2
                refine H _ (c + 1) ⟨pFr_a g1 (Or.inr (Or.inl rfl)), ⟨NTk_fr r1 (hI_sI_a (by decide)) (hI_sI_a (by decide)) (hI_sI_a (by decide)) rfl, (hI_sI_a (by decide)).trans r2, (hI_sI_a (by decide)).trans r3, (hI_sI_a (by decide)).trans r4, (hI_sI_a (by decide)).trans r5, (hI_sI_a (by decide)).trans r6, (hI_sI_a (by decide)).trans r7, r8, r9, PV_cong r10 (fun i _ => ⟨hI_sI_a (by decide), hI_sI_a (by decide)⟩)⟩, ?_, ?_, ?_, g6, g7⟩
                · intro i hi
                  rw [hI_sI_a (by decide), hI_sI_k (by omega)]
                  exact g3 i hi
                · intro i hi
                  rw [hI_sI_a (by decide), hI_sI_a (by decide)]
                  exact g4 i hi
                · have eop : hI M3 137 c = nI (j + 1) := by rw [agr_I t3.1 (show ([126] : List Nat).contains 137 = false by decide)]; exact opx0
                  refine SegR_leaf ?_ ?_ (fun e => ?_)
                  · rw [hI_sI_a (by decide), eop]; exact hop
                  · rw [hI_sI_a (by decide), hI_sI_s, eop]; exact lfB_arg hl (by omega)
                  · rw [hI_sI_a (by decide), hI_sI_s, eop]
                    unfold lvR
                    have z0 : ¬ nI (j + 1) = 0 := by rw [show (0 : Int32) = nI 0 from rfl, n_eq (by omega) (by omega)]; omega
                    rw [if_neg z0, n_cl (by omega)]
                    by_cases c7 : j = 5
                    · rw [if_pos c7, if_neg (by rw [c7]; intro z; exact absurd z.2 (by decide)), if_pos ⟨co, by rw [c7]; rfl⟩, Nat.add_comm 11 h]
                      rfl
                    · have hj6 : j < 6 := by
                        have := wix_lt _ _ _ (hx.trans hxs)
                        rw [if_pos co] at this
                        exact this
                      rw [if_neg c7, if_pos ⟨co, by rw [show j = 4 by omega]; rfl⟩, Nat.add_comm 4 h]
                      rfl
          · rw [if_pos co]
            exact ok0 (fun z => co z.1)
    · refine nbad 1 (Or.inr (by omega)) ?_
      unfold leafP
      cases hv : nmI b L s 0 1000 with
      | some v => show (if 50 ≤ n then _ else _) = _; rw [if_pos (by omega)]
      | none =>
        rw [hx]
        cases x with
        | none => rfl
        | some j => show (if 50 ≤ n then _ else _) = _; rw [if_pos (by omega)]
