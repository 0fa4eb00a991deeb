variable {d : Nat} {M : hp} {Q : Option Value → hp → Prop}
/-- without "not" -/
theorem coreR {b : Nat → Nat} {L : Nat} {o : Bool} {g k : Nat} (hk : k + g = 8) (ih : ∀ g', g = g' + 1 → TestR 3 4 b L o (k + 1) d Q (fun _ => True) (pPlain b L o g')) {s n c p : Nat} (F : MF M) (T : TR M b L) (W : MWd M) (P : PS M b L o s n k c p) (Tb0 : Tb M p 4) (I0 : ¬ inF (hI M 139) p = nI 32) (hnot : ¬ wrd b L s = kwNot) (H : TK 3 M b L o s n k c p d Q (fun _ => True) (coreP b L o g s n)) : Wp none d 206 0 [(0, .ref 126)] [] M (WR d 1 Q) := by
  have L4 := T.2.1
  have hcp := P.2.2.2.2.2.2.2.2.1
  rw [k206_0, m206_4 F, mIsWord F P.1 (show kwOk kwNot = true by decide) (show (14836 : Int64) = lN (wcode kwNot) by decide)]
  simp only [oN]
  rw [k206_7, bzi, if_pos hnot, k206_23, m206_26 F, show (40 : Int32) = nI 40 from rfl, mS F T P.1 (by omega)]
  simp only [oN]
  rw [k206_29, bzi]
  unfold coreP at H
  by_cases c1 : sg b L s 40
  · rw [if_pos c1] at H
    rw [if_neg (fun z => z c1), k206_32, m206_35 F, show (31 : Int32) = nI 31 from rfl]
    cases g with
    | zero =>
      rw [open_n F P (by omega) (by omega)]
      simp only [oZ]
      rw [k206_38]
      exact H (badM M s) 0 (badM_Bd P L4)
    | succ g' =>
      have hnx := nx_gt (b := b) c1.1
      refine open_y F T P (by omega) (by have := c1.1; omega) ?_
      intro M1 t1 K1
      simp only [oZ]
      rw [k206_38]
      have fr := opnM_fr t1 k p 31
      have F2 := MF_pFr F fr
      have T2 := TR_pFr T fr
      have P2 := PS_open (v := 31) P t1 K1 hnx (by omega)
      have h31 : hI (opnM M1 k p 31) 139 p = nI 31 := by rw [opnM_op, if_pos rfl]
      have S := testR (bothR (ih g' rfl))
      show WL d 1 Q 0 (opnM M1 k p 31)
      refine WL_0 F2 P2.2.1 ?_
      refine S _ (nx b L s) n c (p + 1) F2 T2 (MWd_pFr W fr) P2 (Or.inr ⟨31, by omega, by omega, by rw [Nat.add_sub_cancel]; exact h31, by decide⟩) ?_ ?_
      · show ¬ (if 31 ≤ hI (opnM M1 k p 31) 139 p then hI (opnM M1 k p 31) 139 p else _) = nI 32
        rw [h31, if_pos (by decide)]
        decide
      · have H2 : TK 3 M b L o s n k c p d Q (fun _ => True) (clos b L 41 (chainP b L (orF b L) (chainP b L (andF b L) (pPlain b L o g')) (nx b L s) n)) := H
        cases hp : chainP b L (orF b L) (chainP b L (andF b L) (pPlain b L o g')) (nx b L s) n with
        | inl q =>
          rw [hp] at H2
          intro M4 t bd
          exact H2 M4 t (Bd_pre fr bd)
        | inr x =>
          obtain ⟨s1, n1, D⟩ := x
          rw [hp] at H2
          have H2 : TK 3 M b L o s n k c p d Q (fun _ => True) (if sg b L s1 41 then .inr (nx b L s1, n1, D) else .inl s1) := H2
          intro M' M5 p1 c5 hset ex
          refine bt_close F2 T2 hset ex.1.2 ex.2 h31 ?_ ?_
          · intro z t
            rw [if_neg z] at H2
            obtain ⟨⟨c', P'⟩, _, _, fr', _⟩ := hset
            exact H2 _ t (Bd_pre (pFr_trans fr fr') (badM_Bd P' L4))
          · intro z M3 ok3
            rw [if_pos z] at H2
            have ok4 := MOk_close P t1 hnx ok3
            exact H2 _ _ p c5 ⟨⟨c5, ok4.2.1⟩, Nat.le_refl _, ok4, ok4.1, Pn_refl _ _, inF_cong p (fun j hj => (ok4.2.2.2.1 j hj).1), hset.2.2.2.2.2.2⟩ trivial
  · rw [if_neg c1] at H
    rw [if_pos c1, k206_40, m206_41 F]
    have S := sumR (termR (partR (b := b) (L := L) (o := o) (ts := 1) (d := d) (Q := Q) g k hk))
    have back : ∀ r M', WR d 1 Q r M' → Wp none d 206 44 [(0, .ref 126)] (r.toList ++ []) M' (WR d 1 Q) := by
      intro r M' hr
      have hr2 := hr
      unfold WR at hr2
      split at hr2
      · simp only [oN]
        rw [k206_44]
        exact hr
      · exact absurd hr2 id
    refine Wp.mono ?_ back
    refine S M s n c p F T W P (Tb_le Tb0 (by omega)) ?_
    have H2 : TK 3 M b L o s n k c p d Q (fun _ => True) (match chainP b L (addF b L) (pTerm b L (pPart b L o g)) s n with
      | .inl q => .inl q
      | .inr (s1, n1, D1) => match cmpO b L s1 with
        | none => .inl s1
        | some op => match chainP b L (addF b L) (pTerm b L (pPart b L o g)) (nx b L s1) n1 with
          | .inl q => .inl q
          | .inr (s2, n2, D2) => .inr (s2, n2, binD op D1 D2)) := H
    cases hp : chainP b L (addF b L) (pTerm b L (pPart b L o g)) s n with
    | inl q =>
      rw [hp] at H2
      exact H2
    | inr x =>
      obtain ⟨s1, n1, D1⟩ := x
      rw [hp] at H2
      have H2 : TK 3 M b L o s n k c p d Q (fun _ => True) (match cmpO b L s1 with
        | none => .inl s1
        | some op => match chainP b L (addF b L) (pTerm b L (pPart b L o g)) (nx b L s1) n1 with
          | .inl q => .inl q
          | .inr (s2, n2, D2) => .inr (s2, n2, binD op D1 D2)) := H2
      intro M' M1 p1 c1' hset ex
      refine bs_cmp F T hset ex Tb0 I0 ?_ ?_
      · intro e t
        rw [e] at H2
        obtain ⟨⟨c', P'⟩, _, _, fr', _⟩ := hset
        exact H2 _ t (Bd_pre fr' (badM_Bd P' L4))
      · intro v v1 v2 hc M2 t2 K2
        rw [hc] at H2
        have hsl := (cmp_v hc).2
        have hnx := nx_gt (b := b) hsl
        have ok := hset.2.2.1
        have fr2 : pFr M M2 := pFr_trans ok.1 (pFr_trans (mpush_fr _ _ _ _) (tkS_pFr t2))
        have F2 := MF_pFr F fr2
        have T2 := TR_pFr T fr2
        have P2 := PS_push ok.2.1 (show 20 ≤ v ∧ v ≤ 32 by omega) (show 0 < 400 by omega) t2 K2 hnx
        have e0 : hI M2 139 p = nI v := by rw [agr_I t2.1 (show ([126] : List Nat).contains 139 = false by decide), mpush_op, if_pos rfl]
        refine WL_1 F2 P2.2.1 ?_
        refine S M2 (nx b L s1) n1 c1' (p + 1) F2 T2 (MWd_pFr W fr2) P2 (Tb_push (by omega) t2 (by
          have : v = 25 ∨ v = 26 ∨ v = 27 := by omega
          rcases this with rfl | rfl | rfl <;> decide)) ?_
        have H3 : TK 3 M b L o s n k c p d Q (fun _ => True) (match chainP b L (addF b L) (pTerm b L (pPart b L o g)) (nx b L s1) n1 with
          | .inl q => .inl q
          | .inr (s2, n2, D2) => .inr (s2, n2, binD (nI (v - 18)) D1 D2)) := H2
        cases hp2 : chainP b L (addF b L) (pTerm b L (pPart b L o g)) (nx b L s1) n1 with
        | inl q =>
          rw [hp2] at H3
          intro M4 t bd
          exact H3 M4 t (Bd_pre fr2 bd)
        | inr y =>
          obtain ⟨s2, n2, D2⟩ := y
          rw [hp2] at H3
          intro M4 M5 p4 c4 set4 ex4
          refine bs_cmp2 F2 T2 set4 ex4 e0 ⟨v1, v2⟩ ?_ ?_
          · rw [inF_cong (P' := hI M 139) p (fun j hj => by rw [agr_I t2.1 (show ([126] : List Nat).contains 139 = false by decide), mpush_op, if_neg (by omega)]; exact (ok.2.2.2.1 j hj).1)]
            exact I0
          · exact H3 M4 _ p4 _ (TSet_cmp F ok hnx ⟨v1, v2⟩ t2 set4 L4) trivial
