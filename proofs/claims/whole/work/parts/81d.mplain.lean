variable {d : Nat} {M : hp} {Q : Option Value → hp → Prop}
theorem plain_step {b : Nat → Nat} {L : Nat} {o : Bool} {g k : Nat} (hk : k + g = 8) (ih : ∀ g', g = g' + 1 → TestR 3 4 b L o (k + 1) d Q (fun _ => True) (pPlain b L o g')) : TestR 3 4 b L o k d Q (fun _ => True) (pPlain b L o g) := by
  have key : ∀ (f : Nat) (M : hp) (s n c p : Nat), L ≤ s + f → MF M → TR M b L → MWd M → PS M b L o s n k c p → Tb M p 4 → ¬ inF (hI M 139) p = nI 32 → TK 3 M b L o s n k c p d Q (fun _ => True) (turn (nots b L f s false).2 (coreP b L o g (nots b L f s false).1 n)) → Wp none d 206 0 [(0, .ref 126)] [] M (WR d 1 Q) := by
    intro f
    induction f with
    | zero =>
      intro M s n c p hf F T W P Tb0 I0 H
      refine coreR hk ih F T W P Tb0 I0 (fun z => by have := kw_lt (show lett kwNot = true by decide) z; omega) ?_
      have H : TK 3 M b L o s n k c p d Q (fun _ => True) (turn false (coreP b L o g s n)) := H
      cases hc : coreP b L o g s n with
      | inl q => rw [hc] at H; exact H
      | inr x =>
        obtain ⟨s1, n1, D⟩ := x
        rw [hc] at H
        exact H
    | succ f ihf =>
      intro M s n c p hf F T W P Tb0 I0 H
      have L4 := T.2.1
      have hcp := P.2.2.2.2.2.2.2.2.1
      by_cases z : wrd b L s = kwNot
      · have e : nots b L (f + 1) s false = nots b L f (nx b L s) true := by
          show (if wrd b L s = kwNot then _ else _) = _
          rw [if_pos z]
          rfl
        have e2 := nots_flip b L f (nx b L s) false
        rw [e, show (true : Bool) = !false from rfl, e2] at H
        have hsL := kw_lt (show lett kwNot = true by decide) z
        have hnx := nx_gt (b := b) hsL
        rw [k206_0, m206_4 F, mIsWord F P.1 (show kwOk kwNot = true by decide) (show (14836 : Int64) = lN (wcode kwNot) by decide)]
        simp only [oN]
        rw [k206_7, bzi, if_neg (fun w => w z), k206_10, m206_14 F, show (28 : Int32) = nI 28 from rfl, show (0 : Int32) = nI 0 from rfl, mpush_ok F P.2.2.2.2.2.1 (by omega)]
        simp only [oZ]
        have F4 : MF (mpush M p (nI 28) (nI 0)) := F
        have T4 : TR (mpush M p (nI 28) (nI 0)) b L := TR_pFr T (mpush_fr _ _ _ _)
        rw [k206_17, m206_18 F4]
        refine next_ok F4 T4 (by rw [mpush_f (by decide)]; exact P.1.2.1) (tkE_le P.1.2.2.2.2) ?_
        intro M2 t2 K2
        simp only [oZ]
        rw [k206_21]
        have fr2 : pFr M M2 := pFr_trans (mpush_fr _ _ _ _) (tkS_pFr t2)
        have F2 := MF_pFr F fr2
        have P2 := PS_push P (show 20 ≤ 28 ∧ 28 ≤ 32 by omega) (show 0 < 400 by omega) t2 K2 hnx
        have n139 : ([126] : List Nat).contains 139 = false := by decide
        have n140 : ([126] : List Nat).contains 140 = false := by decide
        have n137 : ([126] : List Nat).contains 137 = false := by decide
        have n138 : ([126] : List Nat).contains 138 = false := by decide
        have e0 : hI M2 139 p = nI 28 := by rw [agr_I t2.1 n139, mpush_op, if_pos rfl]
        have eIn : inF (hI M2 139) (p + 1) = inF (hI M 139) p := by
          show (if 31 ≤ hI M2 139 p then hI M2 139 p else inF (hI M2 139) p) = _
          rw [if_neg (by rw [e0]; decide)]
          exact inF_cong p (fun j hj => by rw [agr_I t2.1 n139, mpush_op, if_neg (by omega)])
        show WL d 1 Q 0 M2
        refine WL_0 F2 P2.2.1 ?_
        refine ihf M2 (nx b L s) n c (p + 1) (by omega) F2 (TR_pFr T fr2) (MWd_pFr W fr2) P2 (Tb_push (by omega) t2 (by decide)) (by rw [eIn]; exact I0) ?_
        have hbd := core_BD (b := b) (L := L) (o := o) g (nots b L f (nx b L s) false).1 n
        generalize nots b L f (nx b L s) false = r at *
        obtain ⟨s', t⟩ := r
        have H : TK 3 M b L o s n k c p d Q (fun _ => True) (turn (!t) (coreP b L o g s' n)) := H
        show TK 3 M2 b L o (nx b L s) n k c (p + 1) d Q (fun _ => True) (turn t (coreP b L o g s' n))
        have hbd : ∀ s1 n1 D, coreP b L o g s' n = .inr (s1, n1, D) → isBD D := hbd
        cases hc : coreP b L o g s' n with
        | inl q =>
          rw [hc] at H
          intro M4 t' bd
          exact H M4 t' (Bd_pre fr2 bd)
        | inr x =>
          obtain ⟨s1, n1, D⟩ := x
          rw [hc] at H
          have H : ∀ M' M1 p1 c1, TSet 3 M M' M1 b L o s n k c p s1 n1 p1 c1 (if (!t) = true then notD D else D) → True → WL d 1 Q 2 M' := H
          have hD := hbd s1 n1 D hc
          intro M4 M5 p4 c4 set4 _
          have set4 : TSet 3 M2 M4 M5 b L o (nx b L s) n k c (p + 1) s1 n1 p4 c4 (if t = true then notD D else D) := set4
          have eD : notD (if t = true then notD D else D) = if (!t) = true then notD D else D := by
            cases t
            · rfl
            · exact notD_notD hD
          obtain ⟨P', q2, ok5, fr5, pn, hin, hbd2⟩ := set4
          obtain ⟨b1, b2, b3, b4, b5, b6, b7⟩ := ok5
          have hs3 := b2.1.2.2.2.2
          have hcp3 := b2.2.2.2.2.2.2.2.2.1
          have hc3 := b5.1
          have F5 : MF M5 := MF_pFr F2 b1
          have et : hI M5 139 p = nI 28 := by rw [(b4 p (by omega)).1]; exact e0
          have frp : pFr M5 (popE M5 c4 p 28) := pFr_trans (pFr_f (pFr_refl M5) (by decide)) (memit_fr _ _ _ _)
          have pp := memit_pile (sI M5 126 29 (nI p)) c4 (nI 28) 0
          have ep : ∀ j, j < p → hI (popE M5 c4 p 28) 139 j = hI M 139 j ∧ hI (popE M5 c4 p 28) 140 j = hI M 140 j := fun j hj => by
            have := b4 j (by omega)
            unfold popE
            rw [pp.1, pp.2, hI_sI_a (by decide), hI_sI_a (by decide), this.1, this.2, agr_I t2.1 n139, agr_I t2.1 n140, mpush_op, mpush_at, if_neg (by omega), if_neg (by omega)]
            exact ⟨rfl, rfl⟩
          have eo : ∀ j, ¬ j = c4 → hI (popE M5 c4 p 28) 137 j = hI M5 137 j ∧ hI (popE M5 c4 p 28) 138 j = hI M5 138 j := fun j hj => by
            unfold popE
            rw [memit_op, memit_arg, if_neg hj, if_neg hj, hI_sI_a (by decide), hI_sI_a (by decide)]
            exact ⟨rfl, rfl⟩
          have ef : ∀ j, ¬ j = 23 → ¬ j = 29 → hI (popE M5 c4 p 28) 126 j = hI M5 126 j := fun j h1 h2 => by
            unfold popE
            rw [memit_f h1, hI_sI_k h2]
          obtain ⟨p1, p2, p3, p4', p5, p6, p7, p8, p9, p10⟩ := b2
          have pc := mpush_code M p (nI 28) (nI 0)
          refine H M4 (popE M5 c4 p 28) p4 (c4 + 1) ⟨P', by omega, ⟨pFr_trans fr2 (pFr_trans b1 frp), ⟨NTk_fr p1 (ef _ (by decide) (by decide)) (ef _ (by decide) (by decide)) (ef _ (by decide) (by decide)) rfl, (ef _ (by decide) (by decide)).trans p2, (ef _ (by decide) (by decide)).trans p3, (ef _ (by decide) (by decide)).trans p4', ?_, ?_, (ef _ (by decide) (by decide)).trans p7, p8, by omega, PV_cong P.2.2.2.2.2.2.2.2.2 ep⟩, ?_, ep, ?_, by omega, by omega⟩, pFr_trans fr2 fr5, Pn_pop pn F5 p6 (by omega) (by omega) (by omega) et (by decide) p5 (by omega), hin.trans eIn, by rw [← eD]; exact isBD_not _⟩ trivial
          · unfold popE; exact memit_23 _ _ _ _
          · unfold popE; rw [memit_f (by decide), hI_sI_s]
          · intro j hj
            have := b3 j hj
            rw [(eo j (by omega)).1, (eo j (by omega)).2, this.1, this.2, agr_I t2.1 n137, agr_I t2.1 n138, pc.1, pc.2]
            exact ⟨rfl, rfl⟩
          · rw [← eD]
            refine SegR_not (SegR_cong b5 (fun j q1 q2 => ?_)) hbd2 ?_
            · rw [(eo j (by omega)).1, (eo j (by omega)).2]
              exact ⟨rfl, rfl⟩
            · unfold popE; rw [memit_op, if_pos rfl]; rfl
      · have e : nots b L (f + 1) s false = (s, false) := by
          show (if wrd b L s = kwNot then _ else _) = _
          rw [if_neg z]
        rw [e] at H
        refine coreR hk ih F T W P Tb0 I0 z ?_
        have H : TK 3 M b L o s n k c p d Q (fun _ => True) (turn false (coreP b L o g s n)) := H
        cases hc : coreP b L o g s n with
        | inl q => rw [hc] at H; exact H
        | inr x =>
          obtain ⟨s1, n1, D⟩ := x
          rw [hc] at H
          exact H
  intro M s n c p F T W P Tb0 I0 H
  rw [plain_core] at H
  exact key 400 M s n c p (by have := T.2.1; omega) F T W P Tb0 I0 H
/-- what can be turned, as the reference reads it -/
theorem plainR {b : Nat → Nat} {L : Nat} {o : Bool} : ∀ (g k : Nat), k + g = 8 → TestR 3 4 b L o k d Q (fun _ => True) (pPlain b L o g) := by
  intro g
  induction g with
  | zero =>
    intro k hk
    exact plain_step hk (fun g' e => absurd e (by omega))
  | succ g ih =>
    intro k hk
    exact plain_step hk (fun g' e => by cases e; exact ih (k + 1) (by omega))
