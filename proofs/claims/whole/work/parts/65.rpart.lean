variable {d : Nat} {M : hp} {Q : Option Value → hp → Prop}
theorem RS_brk {b : Nat → Nat} {L s n k c k' : Nat} {o : Bool} (R : RS M b L o s n k c) : RS (sI M 109 5 (nI k')) b L o s n k' c := by
  obtain ⟨r1, r2, r3, r4, r5, r6, r7⟩ := R
  exact ⟨⟨(hI_sI_k (by decide)).trans r1.1, (hI_sI_k (by decide)).trans r1.2.1, r1.2.2⟩, (hI_sI_k (by decide)).trans r2, hI_sI_s _ _ _ _, (hI_sI_k (by decide)).trans r4, (hI_sI_a (by decide)).trans r5, r6, r7⟩
theorem RS_prt {b : Nat → Nat} {L s n k c n' : Nat} {o : Bool} (R : RS M b L o s n k c) (h : n' ≤ 50) : RS (sI M 109 4 (nI n')) b L o s n' k c := by
  obtain ⟨r1, r2, r3, r4, r5, r6, r7⟩ := R
  exact ⟨⟨(hI_sI_k (by decide)).trans r1.1, (hI_sI_k (by decide)).trans r1.2.1, r1.2.2⟩, hI_sI_s _ _ _ _, (hI_sI_k (by decide)).trans r3, (hI_sI_k (by decide)).trans r4, (hI_sI_a (by decide)).trans r5, h, r7⟩
theorem fails_ok {b : Nat → Nat} {L s : Nat} (F : RXF M) (K : RTk M b L s) : Wp none d 58 0 [(0, .ref 109)] [] M Q = Q (some (.int 0)) (sI M 109 2 (nI s)) := by
  rw [k58_0 F.1, K.1, k58_8]
theorem opens_y {b : Nat → Nat} {L s n k c : Nat} {o : Bool} (F : RXF M) (T : TB M b L) (R : RS M b L o s n k c) (hk : k < 8) : Wp none d 75 0 [(0, .ref 109)] [] M Q = Q (some (.int 1)) (aSt (sI M 109 5 (nI (k + 1))) (nx b L s) (tkE b L (nx b L s))) := by
  rw [k75_0 F.1, R.2.2.1, k75_6, if_pos (by show nI k < nI 8; rw [n_lt (by omega) (by omega)]; exact hk), k75_14 F.1, R.2.2.1, nI_1, k75_24, k75_25 (M := sI M 109 5 (nI (k + 1))) F.1, RTk_next (M := sI M 109 5 (nI (k + 1))) (RXF_of F rfl rfl) (TB_of T rfl rfl) (RS_brk (k' := k + 1) R).1]
  simp only [oZ]
  rw [k75_28]
theorem opens_n {b : Nat → Nat} {L s n k c : Nat} {o : Bool} (F : RXF M) (R : RS M b L o s n k c) (hk : ¬ k < 8) (hk2 : k < 100) : Wp none d 75 0 [(0, .ref 109)] [] M Q = Q (some (.int 0)) (sI M 109 2 (nI s)) := by
  rw [k75_0 F.1, R.2.2.1, k75_6, if_neg (by show ¬ nI k < nI 8; rw [n_lt (by omega) (by omega)]; exact hk), k75_9, k75_10 F.1, fails_ok F R.1]
  simp only [oN]
  rw [k75_13 (Or.inl rfl)]
theorem closes_ok {b : Nat → Nat} {L s n k c cc : Nat} {o : Bool} (F : RXF M) (T : TB M b L) (R : RS M b L o s n (k + 1) c) (hcc : cc = 93 ∨ cc = 41) : Wp none d 76 0 [(0, .ref 109), (1, .int (nI cc))] [] M Q = if sg b L s cc then Q (some (.int 1)) (aSt (sI M 109 5 (nI k)) (nx b L s) (tkE b L (nx b L s))) else Q (some (.int 0)) (sI M 109 2 (nI s)) := by
  rw [k76_0, k76_2 F.1, sg1 F T R.1 (by omega)]
  simp only [oN]
  rw [k76_5, bzj]
  by_cases c1 : sg b L s cc
  · rw [if_pos (fun z => z c1), if_pos c1, k76_13 F.1, R.2.2.1, nI_pred, k76_23, k76_24 (M := sI M 109 5 (nI k)) F.1, RTk_next (M := sI M 109 5 (nI k)) (RXF_of F rfl rfl) (TB_of T rfl rfl) (RS_brk (k' := k) R).1]
    simp only [oZ]
    rw [k76_27]
  · rw [if_neg (fun z => z c1), if_neg c1, k76_8, k76_9 F.1, fails_ok F R.1]
    simp only [oN]
    rw [k76_12 (Or.inl rfl)]
theorem agr_f (M : hp) (v : Int32) (k : Nat) : agr [109, 110, 111, 112] M (sI M 109 k v) := agr_sI (by decide)
theorem agr_f3 (M : hp) (v : Int32) (k : Nat) : agr [109, 110, 111] M (sI M 109 k v) := agr_sI (by decide)
/-- a fault here -/
theorem RRes_f {b : Nat → Nat} {L s n k c q : Nat} {o : Bool} {M' : hp} (H : RRes M b L o s n k c Q (.inl q)) (a : agr [109, 110, 111, 112] M M') : Q (some (.int 0)) (sI M' 109 2 (nI q)) := H _ (agr_trans a (agr_f _ _ _)) (hI_sI_s _ _ _ _)
/-- in brackets -/
theorem ROk_brk {M2 : hp} {b : Nat → Nat} {L s n k c s' s1 n1 c1 s2 : Nat} {o : Bool} {D : Den} (h : ROk (aSt (sI M 109 5 (nI (k + 1))) s' (tkE b L s')) M2 b L o s' n (k + 1) c s1 n1 c1 D) (h1 : s < s') (h2 : s1 < s2) (h3 : s2 ≤ L) : ROk M (aSt (sI M2 109 5 (nI k)) s2 (tkE b L s2)) b L o s n k c s2 n1 c1 D := by
  obtain ⟨b1, b2, b3, b4, b5, b6, b7, b8, b9⟩ := h
  refine ⟨agr_trans (agr_f3 _ _ _) (agr_trans (agr_9 (aSt_agr _ _ _)) (agr_trans b1 (agr_trans (agr_f3 _ _ _) (agr_9 (aSt_agr _ _ _))))), RS_adv (RS_brk b2) (by omega) h3, ?_, ?_, ?_, ?_, by omega, b8, by omega⟩
  · rw [hI_aSt_k (by decide) (by decide), hI_sI_k (by decide), b3, hI_aSt_k (by decide) (by decide), hI_sI_k (by decide)]
  · rw [hI_aSt_a (by decide), hI_sI_a (by decide), b4, hI_aSt_a (by decide), hI_sI_a (by decide)]
  · intro i hi
    rw [hI_aSt_a (by decide), hI_sI_a (by decide), b5 i hi, hI_aSt_a (by decide), hI_sI_a (by decide)]
  · exact SegC_cong b6 (fun j _ _ => by rw [hI_aSt_a (by decide), hI_sI_a (by decide)])
theorem ROk_leaf {b : Nat → Nat} {L s n k c s' : Nat} {o : Bool} {D : Den} {x : Int32} (R : RS M b L o s n k c) (hn : n < 50) (h1 : s < s') (h2 : s' ≤ L) (hs : ∀ C : Nat → Int32, C c = x → SegC (nW o) C c (c + 1) 1 D) : ROk M (emM (aSt (sI M 109 4 (nI (n + 1))) s' (tkE b L s')) c x) b L o s n k c s' (n + 1) (c + 1) D := by
  have hc := R.2.2.2.2.2.2
  refine ⟨agr_trans (agr_f3 _ _ _) (agr_trans (agr_9 (aSt_agr _ _ _)) (emM_agr _ _ _)), RS_em (RS_adv (RS_prt R (by omega)) (by omega) h2) (by omega), ?_, ?_, ?_, ?_, h1, by omega, by omega⟩
  · rw [hI_emM_9, hI_aSt_k (by decide) (by decide), hI_sI_k (by decide)]
  · unfold emM
    rw [hI_sI_k (by decide), hI_sI_a (by decide), hI_aSt_a (by decide), hI_sI_a (by decide)]
  · intro i hi
    rw [hI_emM_o (by omega), hI_aSt_a (by decide), hI_sI_a (by decide)]
  · rw [show n + 1 - n = 1 by omega]
    exact hs _ (hI_emM_c _ _ _)
theorem wix_lt : ∀ (l : List (List Nat)) (t : List Nat) (j : Nat), wix l t = some j → j < l.length
  | [], _, _, h => by cases h
  | w :: r, t, j, h => by
    unfold wix at h
    split at h
    · cases h
      exact Nat.succ_pos _
    · cases e : wix r t with
      | none => rw [e] at h; cases h
      | some i =>
        rw [e] at h
        cases h
        have := wix_lt r t i e
        show i + 1 < r.length + 1
        omega
theorem wix_no : ∀ (l : List (List Nat)) (t : List Nat), (∀ w, w ∈ l → ¬ t = w) → wix l t = none
  | [], _, _ => rfl
  | w :: r, t, h => by
    unfold wix
    rw [if_neg (h w List.mem_cons_self), wix_no r t (fun w hw => h w (List.mem_cons_of_mem _ hw))]
    rfl
/-- a word begins with a letter -/
def lett (w : List Nat) : Bool := match w with
  | [] => false
  | c :: _ => isL c
theorem wrd_hd {b : Nat → Nat} {L s : Nat} (h : s < L) : ∃ r, wrd b L s = b s :: r := by
  have := tkE_gt (b := b) h
  unfold wrd
  rw [show tkE b L s - s = (tkE b L s - s - 1) + 1 by omega]
  exact ⟨_, rfl⟩
theorem wrd_ne {b : Nat → Nat} {L s : Nat} {w : List Nat} (hw : lett w = true) (h : ¬ (s < L ∧ isL (b s) = true)) : ¬ wrd b L s = w := by
  intro e
  by_cases c : s < L
  · obtain ⟨r, hr⟩ := wrd_hd (b := b) c
    rw [hr] at e
    rw [← e] at hw
    exact h ⟨c, hw⟩
  · have : wrd b L s = [] := by
      unfold wrd
      rw [tkE_L (by omega), Nat.sub_self]
      rfl
    rw [this] at e
    rw [← e] at hw
    cases hw
theorem kw_lett : (kwLW.all lett && kwOW.all lett && kwL.all lett && kwO.all lett) = true := by decide
theorem nmI_s {b : Nat → Nat} {L s lo hi v : Nat} (h : nmI b L s lo hi = some v) : s < L ∧ isD (b s) = true ∧ lo ≤ v ∧ v ≤ hi := by
  unfold nmI at h
  split at h
  · rename_i c
    cases h
    exact c
  · cases h
theorem wix_num {b : Nat → Nat} {L s lo hi v : Nat} (h : nmI b L s lo hi = some v) {l : List (List Nat)} (hl : l.all lett = true) : wix l (wrd b L s) = none := by
  have := nmI_s h
  apply wix_no
  intro w hw
  refine wrd_ne (List.all_eq_true.mp hl w hw) (fun z => ?_)
  rw [isL_D z.2] at this
  exact absurd this.2.1 (by decide)
theorem wix_lt_L {b : Nat → Nat} {L s j : Nat} {l : List (List Nat)} (hl : l.all lett = true) (h : wix l (wrd b L s) = some j) : s < L := by
  apply Nat.lt_of_not_le
  intro c
  rw [wix_no l _ (fun w hw => wrd_ne (List.all_eq_true.mp hl w hw) (fun z => absurd z.1 (by omega)))] at h
  cases h
theorem kd_l1 : kwLW.all lett = true := by decide
theorem kd_l2 : kwOW.all lett = true := by decide
theorem kd_l3 : kwL.all lett = true := by decide
theorem kd_l4 : kwO.all lett = true := by decide
theorem wordLW {b : Nat → Nat} {L s : Nat} (F : RXF M) (T : TB M b L) (K : RTk M b L s) : Wp none d 62 0 [(0, .ref 109), (1, .ref 4)] [] M Q = Q (some (.int (ixI (wix kwLW (wrd b L s))))) M := by
  rw [wordIn_ok F T K (by omega) (by omega) (ss_ok 4 (by omega)).1 (ss_ok 4 (by omega)).2, ws_4]
theorem wordOW {b : Nat → Nat} {L s : Nat} (F : RXF M) (T : TB M b L) (K : RTk M b L s) : Wp none d 62 0 [(0, .ref 109), (1, .ref 3)] [] M Q = Q (some (.int (ixI (wix kwOW (wrd b L s))))) M := by
  rw [wordIn_ok F T K (by omega) (by omega) (ss_ok 3 (by omega)).1 (ss_ok 3 (by omega)).2, ws_3]
/-- a number, a word -/
theorem leafOK {b : Nat → Nat} {L : Nat} {o : Bool} {dd k s n c : Nat} (F : RXF M) (T : TB M b L) (R : RS M b L o s n k c) (H : RRes M b L o s n k c Q (leafP b L o s n)) : Wp none dd 79 38 [(0, .ref 109)] [] M Q := by
  have L4 := T.2.1
  have K := R.1
  have hn := R.2.2.2.2.2.1
  have hc := R.2.2.2.2.2.2
  rw [k79_38, k79_43 F.1, show (0 : Int32) = nI 0 from rfl, show (1000 : Int32) = nI 1000 from rfl, numberIn_ok F T K (by omega) (by omega)]
  simp only [oN]
  rw [k79_46 F.1, R.2.2.2.1, k79_52, bzi]
  have wrdC : (if ¬ (o = true) then Wp none dd 79 60 [(0, .ref 109), (1, .int (ixI (nmI b L s 0 1000)))] [.ref 109] M Q else Wp none dd 79 55 [(0, .ref 109), (1, .int (ixI (nmI b L s 0 1000)))] [.ref 109] M Q) = Wp none dd 79 65 [(0, .ref 109), (1, .int (ixI (nmI b L s 0 1000)))] [.int (ixI (wix (if o = true then kwOW else kwLW) (wrd b L s)))] M Q := by
    by_cases co : o = true
    · rw [if_neg (fun z => z co), if_pos co, k79_55, k79_62 F.1, wordOW F T K]
      simp only [oN]
    · rw [if_pos co, if_neg co, k79_60, k79_62 F.1, wordLW F T K]
      simp only [oN]
  rw [wrdC, k79_65, k79_68]
  -- a fault
  have fl : (leafP b L o s n = .inl s) → ∀ (x1 x2 : Int32), Wp none dd 79 85 [(0, .ref 109), (1, .int x1), (2, .int x2)] [] M Q := by
    intro e x1 x2
    rw [e] at H
    rw [k79_85, k79_86 F.1, fails_ok F K]
    simp only [oN]
    rw [k79_89 (Or.inl rfl)]
    exact RRes_f H (agr_refl _ _)
  -- the parts, the next token
  have nxt : s < L → n < 50 → ∀ (x1 x2 : Int32), Wp none dd 79 90 [(0, .ref 109), (1, .int x1), (2, .int x2)] [] M Q = (if ¬ (o = true) then Wp none dd 79 122 [(0, .ref 109), (1, .int x1), (2, .int x2)] [] (aSt (sI M 109 4 (nI (n + 1))) (nx b L s) (tkE b L (nx b L s))) Q else if x2 < 4 then Wp none dd 79 122 [(0, .ref 109), (1, .int x1), (2, .int x2)] [] (aSt (sI M 109 4 (nI (n + 1))) (nx b L s) (tkE b L (nx b L s))) Q else Wp none dd 79 116 [(0, .ref 109), (1, .int x1), (2, .int x2)] [] (aSt (sI M 109 4 (nI (n + 1))) (nx b L s) (tkE b L (nx b L s))) Q) := by
    intro hs hn2 x1 x2
    have R2 := RS_prt (n' := n + 1) R (by omega)
    have R3 := RS_adv R2 (s' := nx b L s) (Nat.le_of_lt (nx_gt hs)) (nx_le K.2.2)
    rw [k79_90 F.1, R.2.1, nI_1, k79_100, k79_101 (M := sI M 109 4 (nI (n + 1))) F.1, RTk_next (M := sI M 109 4 (nI (n + 1))) (RXF_of F rfl rfl) (TB_of T rfl rfl) R2.1]
    simp only [oZ]
    rw [k79_104 (M := aSt (sI M 109 4 (nI (n + 1))) (nx b L s) (tkE b L (nx b L s))) F.1, R3.2.2.2.1, k79_108, bzi, k79_111, k79_113]
  cases hv : nmI b L s 0 1000 with
  | some v =>
    obtain ⟨q1, q2, q3, q4⟩ := nmI_s hv
    have hw : wix (if o = true then kwOW else kwLW) (wrd b L s) = none := wix_num hv (by split; exact kd_l2; exact kd_l1)
    have e1 : leafP b L o s n = if 50 ≤ n then .inl s else .inr (nx b L s, n + 1, numD v) := by unfold leafP; rw [hv]
    rw [hw, if_pos (show ¬ ixI (some v) = -1 by show ¬ nI v = -1; rw [n_m1 (by omega)]; exact id), k79_76 F.1, R.2.1, k79_82]
    by_cases c5 : n < 50
    · rw [if_pos (by show nI n < nI 50; rw [n_lt (by omega) (by omega)]; exact c5), nxt q1 c5]
      rw [e1, if_neg (by omega)] at H
      have F2 : RXF (aSt (sI M 109 4 (nI (n + 1))) (nx b L s) (tkE b L (nx b L s))) := RXF_of F rfl rfl
      have hx : ixI none < 4 := by decide
      have done : Wp none dd 79 122 [(0, .ref 109), (1, .int (ixI (some v))), (2, .int (ixI none))] [] (aSt (sI M 109 4 (nI (n + 1))) (nx b L s) (tkE b L (nx b L s))) Q := by
        rw [k79_122 F2.1 (by rw [F2.2.2.1]; omega), F2.2.2.1, k79_128, if_pos (show ¬ ixI (some v) = -1 by show ¬ nI v = -1; rw [n_m1 (by omega)]; exact id), k79_135, k79_136, k79_138, if_pos (show ¬ ixI (some v) = -1 by show ¬ nI v = -1; rw [n_m1 (by omega)]; exact id), k79_145, k79_146 F2.2.2.2.2.2.2.1, emit_ok (c := c) F2 (by rw [hI_aSt_a (by decide), hI_sI_a (by decide)]; exact R.2.2.2.2.1) (by have := nx_gt (b := b) q1; have := nx_le (b := b) (L := L) (s := s) (by omega); omega)]
        simp only [oZ]
        rw [k79_149]
        have de := dec_op (v := v) (o := 0) (by omega) (by omega)
        exact H _ (c + 1) (ROk_leaf R c5 (nx_gt q1) (nx_le (by omega)) (fun C hC => SegC_num (by rw [hC]; exact de.1) (by rw [hC]; exact de.2) (by omega)))
      by_cases co : o = true
      · rw [if_neg (fun z => z co), if_pos hx]
        exact done
      · rw [if_pos co]
        exact done
    · rw [if_neg (by show ¬ nI n < nI 50; rw [n_lt (by omega) (by omega)]; exact c5)]
      exact fl (by rw [e1, if_pos (by omega)]) _ _
  | none =>
    rw [if_neg (show ¬ ¬ ixI none = -1 from fun z => z rfl), k79_71, k79_73]
    cases hw : wix (if o = true then kwOW else kwLW) (wrd b L s) with
    | none =>
      rw [if_pos (show ixI none = -1 from rfl)]
      exact fl (by unfold leafP; rw [hv, hw]) _ _
    | some w =>
      have hw9 : w < 9 := by
        have := wix_lt _ _ _ hw
        split at this
        · exact Nat.lt_of_lt_of_le this (by decide)
        · exact Nat.lt_of_lt_of_le this (by decide)
      have hwN : w < nW o := by
        unfold nW
        split
        · omega
        · omega
      have q1 : s < L := wix_lt_L (by split; exact kd_l2; exact kd_l1) hw
      have e1 : leafP b L o s n = if 50 ≤ n then .inl s else if o = true ∧ 4 ≤ w then (match nmI b L (nx b L s) 0 6 with
        | none => .inl (nx b L s)
        | some h => .inr (nx b L (nx b L s), n + 1, wrdD (h + if w = 5 then 11 else 4))) else .inr (nx b L s, n + 1, wrdD w) := by unfold leafP; rw [hv, hw]; rfl
      rw [if_neg (show ¬ ixI (some w) = -1 by show ¬ nI w = -1; rw [n_m1 (by omega)]; exact id), k79_76 F.1, R.2.1, k79_82]
      by_cases c5 : n < 50
      · rw [if_pos (by show nI n < nI 50; rw [n_lt (by omega) (by omega)]; exact c5), nxt q1 c5]
        rw [e1, if_neg (by omega)] at H
        have F2 : RXF (aSt (sI M 109 4 (nI (n + 1))) (nx b L s) (tkE b L (nx b L s))) := RXF_of F rfl rfl
        have hnx := nx_gt (b := b) q1
        have hnl := nx_le (b := b) (L := L) (s := s) (by omega)
        have done : ¬ (o = true ∧ 4 ≤ w) → Wp none dd 79 122 [(0, .ref 109), (1, .int (ixI none)), (2, .int (ixI (some w)))] [] (aSt (sI M 109 4 (nI (n + 1))) (nx b L s) (tkE b L (nx b L s))) Q := by
          intro z
          rw [if_neg z] at H
          rw [k79_122 F2.1 (by rw [F2.2.2.1]; omega), F2.2.2.1, k79_128, if_neg (show ¬ ¬ ixI none = -1 from fun z => z rfl), k79_131, k79_136, k79_138, if_neg (show ¬ ¬ ixI none = -1 from fun z => z rfl), k79_141, k79_146 F2.2.2.2.2.2.2.1, emit_ok (c := c) F2 (by rw [hI_aSt_a (by decide), hI_sI_a (by decide)]; exact R.2.2.2.2.1) (by omega)]
          simp only [oZ]
          rw [k79_149]
          have de := dec_op (v := w) (o := 1) (by omega) (by omega)
          exact H _ (c + 1) (ROk_leaf R c5 hnx hnl (fun C hC => SegC_wrd (by rw [hC]; exact de.1) (by rw [hC]; exact de.2) hwN (by omega)))
        by_cases co : o = true
        · rw [if_neg (fun z => z co)]
          by_cases c4 : w < 4
          · rw [if_pos (by show nI w < nI 4; rw [n_lt (by omega) (by omega)]; exact c4)]
            exact done (by omega)
          · rw [if_neg (by show ¬ nI w < nI 4; rw [n_lt (by omega) (by omega)]; exact c4)]
            rw [if_pos ⟨co, by omega⟩] at H
            have R3 := RS_adv (RS_prt (n' := n + 1) R (by omega)) (s' := nx b L s) (Nat.le_of_lt hnx) hnl
            have T2 : TB (aSt (sI M 109 4 (nI (n + 1))) (nx b L s) (tkE b L (nx b L s))) b L := TB_agr T (agr_trans (agr_f _ _ _) (E4 (agr_9 (aSt_agr _ _ _))))
            have a2 : agr [109, 110, 111, 112] M (aSt (sI M 109 4 (nI (n + 1))) (nx b L s) (tkE b L (nx b L s))) := agr_trans (agr_f _ _ _) (E4 (agr_9 (aSt_agr _ _ _)))
            rw [k79_116, k79_118 F2.1, k80_0, k80_4 F2.1, show (0 : Int32) = nI 0 from rfl, show (6 : Int32) = nI 6 from rfl, numberIn_ok F2 T2 R3.1 (by omega) (by omega)]
            simp only [oN]
            rw [k80_7, k80_10]
            cases hh : nmI b L (nx b L s) 0 6 with
            | none =>
              rw [hh] at H
              rw [if_neg (show ¬ ¬ ixI none = -1 from fun z => z rfl), k80_13, k80_14 F2.1, fails_ok F2 R3.1]
              simp only [oN]
              rw [k80_17 (Or.inl rfl)]
              simp only [oN]
              rw [k79_121 (Or.inl rfl)]
              exact RRes_f H a2
            | some h =>
              rw [hh] at H
              obtain ⟨p1, p2, p3, p4⟩ := nmI_s hh
              have hnx2 := nx_gt (b := b) p1
              have hnl2 := nx_le (b := b) (L := L) (s := nx b L s) (by omega)
              rw [if_pos (show ¬ ixI (some h) = -1 by show ¬ nI h = -1; rw [n_m1 (by omega)]; exact id), k80_18, k80_19 F2.1, RTk_next F2 T2 R3.1]
              simp only [oZ]
              have F3 : RXF (aSt (aSt (sI M 109 4 (nI (n + 1))) (nx b L s) (tkE b L (nx b L s))) (nx b L (nx b L s)) (tkE b L (nx b L (nx b L s)))) := RXF_of F rfl rfl
              have e9 : aSt (aSt (sI M 109 4 (nI (n + 1))) (nx b L s) (tkE b L (nx b L s))) (nx b L (nx b L s)) (tkE b L (nx b L (nx b L s))) = aSt (sI M 109 4 (nI (n + 1))) (nx b L (nx b L s)) (tkE b L (nx b L (nx b L s))) := by
                unfold aSt
                simp only [sI_w, wI_wI, hI_wI]
                apply wI_ext
                intro a' k'
                by_cases z7 : a' = 109 ∧ k' = 7
                · simp only [if_pos z7]
                · simp only [if_neg z7]
                  by_cases z6 : a' = 109 ∧ k' = 6
                  · simp only [if_pos z6]
                  · simp only [if_neg z6]
              rw [e9] at F3 ⊢
              have fin : ∀ x : Nat, x + h < 18 → Wp none dd 80 40 [(0, .ref 109), (1, .int (ixI (some w))), (2, .int (ixI (some h)))] [.int (nI h + nI x), .int 1, .ref 110] (aSt (sI M 109 4 (nI (n + 1))) (nx b L (nx b L s)) (tkE b L (nx b L (nx b L s)))) (fun r M1 => Wp none dd 79 121 [(0, .ref 109), (1, .int (ixI none)), (2, .int (ixI (some w)))] (r.toList ++ []) M1 Q) = Q (some (.int 1)) (emM (aSt (sI M 109 4 (nI (n + 1))) (nx b L (nx b L s)) (tkE b L (nx b L (nx b L s)))) c (eItm (nI (h + x)) 1)) := by
                intro x hx
                rw [k80_40 F3.2.2.2.2.2.2.1, nI_add, emit_ok (c := c) F3 (by rw [hI_aSt_a (by decide), hI_sI_a (by decide)]; exact R.2.2.2.2.1) (by omega)]
                simp only [oZ]
                rw [k80_43]
                simp only [oN]
                rw [k79_121 (Or.inr rfl)]
              rw [k80_22 F3.1 (by rw [F3.2.2.1]; omega), F3.2.2.1, k80_30]
              have de := fun x (hx : x + h < 18) => dec_op (v := h + x) (o := 1) (by omega) (by omega)
              by_cases c6 : w = 5
              · have e7 : ixI (some w) = 5 := by rw [c6]; rfl
                rw [if_neg (fun z => z e7), k80_33, k80_39, show (11 : Int32) = nI 11 from rfl]
                have := fin 11 (by omega)
                rw [show ixI (some h) = nI h from rfl] at *
                rw [this]
                rw [if_pos c6] at H
                exact H _ (c + 1) (ROk_leaf R c5 (by omega) hnl2 (fun C hC => SegC_wrd (by rw [hC]; exact (de 11 (by omega)).1) (by rw [hC]; exact (de 11 (by omega)).2) (by unfold nW; rw [if_pos co]; omega) (by omega)))
              · have e7 : ¬ ixI (some w) = 5 := by show ¬ nI w = nI 5; rw [n_eq (by omega) (by omega)]; exact c6
                rw [if_pos e7, k80_38, k80_39, show (4 : Int32) = nI 4 from rfl]
                have := fin 4 (by omega)
                rw [show ixI (some h) = nI h from rfl] at *
                rw [this]
                rw [if_neg c6] at H
                exact H _ (c + 1) (ROk_leaf R c5 (by omega) hnl2 (fun C hC => SegC_wrd (by rw [hC]; exact (de 4 (by omega)).1) (by rw [hC]; exact (de 4 (by omega)).2) (by unfold nW; rw [if_pos co]; omega) (by omega)))
        · rw [if_pos co]
          exact done (fun z => co z.1)
      · rw [if_neg (by show ¬ nI n < nI 50; rw [n_lt (by omega) (by omega)]; exact c5)]
        exact fl (by rw [e1, if_pos (by omega)]) _ _
/-- a part -/
theorem partOK {b : Nat → Nat} {L : Nat} {o : Bool} : ∀ (g k e : Nat), k + g = 8 → PartOK b L o 79 (g + e) k (pPart b L o g) := by
  intro g
  induction g with
  | zero =>
    intro k e hk M s n c Q F T R H
    rw [k79_0, k79_3 F.1, show (91 : Int32) = nI 91 from rfl, sg1 F T R.1 (by omega)]
    simp only [oN]
    rw [k79_6, bzi]
    unfold pPart at H
    by_cases c1 : sg b L s 91
    · rw [if_neg (fun z => z c1), k79_9, k79_10 F.1, opens_n F R (by omega) (by omega)]
      simp only [oN]
      rw [k79_13, if_pos rfl, k79_36, k79_37 (Or.inl rfl)]
      rw [if_pos c1] at H
      exact RRes_f H (agr_refl _ _)
    · rw [if_pos c1]
      rw [if_neg c1] at H
      exact leafOK F T R H
  | succ g ih =>
    intro k e hk M s n c Q F T R H
    have L4 := T.2.1
    rw [k79_0, k79_3 F.1, show (91 : Int32) = nI 91 from rfl, sg1 F T R.1 (by omega)]
    simp only [oN]
    rw [k79_6, bzi]
    unfold pPart at H
    by_cases c1 : sg b L s 91
    · rw [if_pos c1] at H
      have hnx := nx_gt (b := b) c1.1
      have hnl := nx_le (b := b) (L := L) (s := s) (Nat.le_of_lt c1.1)
      have P := sumOK (termOK (ih (k + 1) e (by omega)))
      rw [if_neg (fun z => z c1), k79_9, k79_10 F.1, opens_y F T R (by omega)]
      simp only [oN]
      have F2 : RXF (aSt (sI M 109 5 (nI (k + 1))) (nx b L s) (tkE b L (nx b L s))) := RXF_of F rfl rfl
      have a2 : agr [109, 110, 111, 112] M (aSt (sI M 109 5 (nI (k + 1))) (nx b L s) (tkE b L (nx b L s))) := agr_trans (agr_f _ _ _) (E4 (agr_9 (aSt_agr _ _ _)))
      rw [k79_13, if_neg (by decide), k79_16, show g + 1 + e = (g + e) + 1 by omega, k79_17 F2.1]
      refine P _ (nx b L s) n c _ F2 (TB_agr T a2) (RS_adv (RS_brk R) (by omega) hnl) ?_
      have H2 : RRes M b L o s n k c Q (clos b L 93 (chainP b L (addF b L) (pTerm b L (pPart b L o g)) (nx b L s) n)) := H
      cases hp : chainP b L (addF b L) (pTerm b L (pPart b L o g)) (nx b L s) n with
      | inl q =>
        rw [hp] at H2
        intro M' b1 b2
        simp only [oN]
        rw [k79_20, if_pos rfl, k79_36, k79_37 (Or.inl rfl)]
        exact H2 M' (agr_trans a2 b1) b2
      | inr x =>
        obtain ⟨s1, n1, D⟩ := x
        rw [hp] at H2
        intro M' c2 ok
        have F3 := RXF_agr F2 ok.1
        have T3 := TB_agr (TB_agr T a2) (E4 ok.1)
        simp only [oN]
        rw [k79_20, if_neg (by decide), k79_23, k79_26 F3.1, show (93 : Int32) = nI 93 from rfl, closes_ok F3 T3 ok.2.1 (Or.inl rfl)]
        have H3 : RRes M b L o s n k c Q (if sg b L s1 93 then .inr (nx b L s1, n1, D) else .inl s1) := H2
        by_cases c2 : sg b L s1 93
        · rw [if_pos c2] at H3
          rw [if_pos c2]
          simp only [oN]
          rw [k79_29, if_neg (by decide), k79_32, k79_37 (Or.inr rfl)]
          exact H3 _ _ (ROk_brk ok hnx (nx_gt c2.1) (nx_le (Nat.le_of_lt c2.1)))
        · rw [if_neg c2] at H3
          rw [if_neg c2]
          simp only [oN]
          rw [k79_29, if_pos rfl, k79_36, k79_37 (Or.inl rfl)]
          exact RRes_f H3 (agr_trans a2 (E4 ok.1))
    · rw [if_pos c1]
      rw [if_neg c1] at H
      exact leafOK F T R H
