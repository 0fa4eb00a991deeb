variable {d : Nat} {M : hp} {Q : Option Value → hp → Prop}
/-! tests, as the reference reads them -/
def TSet (l : Nat) (M0 M' M1 : hp) (b : Nat → Nat) (L : Nat) (o : Bool) (s n k c p s1 n1 p1 c1 : Nat) (D : Den) : Prop := (∃ c', PS M' b L o s1 n1 k c' p1) ∧ p ≤ p1 ∧ MOk M0 M1 b L o s n k c p s1 n1 c1 D ∧ pFr M0 M' ∧ Pn l M' M1 ∧ inF (hI M' 139) p1 = inF (hI M0 139) p ∧ isBD D
def TK (l : Nat) (M0 : hp) (b : Nat → Nat) (L : Nat) (o : Bool) (s n k c p d : Nat) (Q : Option Value → hp → Prop) (ex : Nat → Prop) (r : PR) : Prop := match r with
  | .inl q => ∀ M' t, Bd M0 M' q → WL d 1 Q t M'
  | .inr (s1, n1, D) => ∀ M' M1 p1 c1, TSet l M0 M' M1 b L o s n k c p s1 n1 p1 c1 D → ex s1 → WL d 1 Q 2 M'
theorem TSet_le {M0 M' M1 : hp} {b : Nat → Nat} {L s n k c p s1 n1 p1 c1 l l' : Nat} {o : Bool} {D : Den} (h : TSet l M0 M' M1 b L o s n k c p s1 n1 p1 c1 D) (hl : l' ≤ l) : TSet l' M0 M' M1 b L o s n k c p s1 n1 p1 c1 D := ⟨h.1, h.2.1, h.2.2.1, h.2.2.2.1, Pn_le h.2.2.2.2.1 hl, h.2.2.2.2.2⟩
theorem wrd_len {b : Nat → Nat} {L s : Nat} {w : List Nat} (h : wrd b L s = w) : tkE b L s = s + w.length := by
  have e := ran_len b (tkE b L s - s) s
  have := tkE_ge b L s
  unfold wrd at h
  rw [h] at e
  omega
/-- behind a test: "and", "or" -/
theorem bt_head {b : Nat → Nat} {L s : Nat} (F : MF M) (K : NTk M b L s) : Wp none d 208 0 [(0, .ref 126)] [] M Q = (if wrd b L s = kwAnd then Wp none d 208 22 [(0, .ref 126), (1, .int 1)] [] M Q else if wrd b L s = kwOr then Wp none d 208 22 [(0, .ref 126), (1, .int 0)] [] M Q else Wp none d 208 76 [(0, .ref 126), (1, .int 0)] [] M Q) := by
  rw [k208_0, m208_4 F, mIsWord F K (show kwOk kwAnd = true by decide) (show (1476 : Int64) = lN (wcode kwAnd) by decide)]
  simp only [oN]
  rw [k208_7, k208_9, bzj, k208_12, m208_16 F, mIsWord F K (show kwOk kwOr = true by decide) (show (498 : Int64) = lN (wcode kwOr) by decide)]
  simp only [oN]
  rw [k208_19, bzi]
  by_cases c1 : wrd b L s = kwAnd
  · rw [if_pos (fun z => z c1), if_pos c1, bz_t c1]
  · rw [if_neg (fun z => z c1), if_neg c1, bz_f c1]
    by_cases c2 : wrd b L s = kwOr
    · rw [if_neg (fun z => z c2), if_pos c2]
    · rw [if_pos c2, if_neg c2]
def joiM (M3 : hp) (c p v : Nat) : hp := memit (mpush M3 p (nI v) (nI c)) c (nI v) 0
theorem bt_op {M0 M' M1 : hp} {b : Nat → Nat} {L s n k c p s1 n1 p1 c1 l v : Nat} {o : Bool} {D : Den} (F : MF M0) (T : TR M0 b L) (h : TSet l M0 M' M1 b L o s n k c p s1 n1 p1 c1 D) (hv : (v = 29 ∧ l = 2 ∧ wrd b L s1 = kwAnd) ∨ (v = 30 ∧ l = 1 ∧ wrd b L s1 = kwOr)) (hb : Tb M0 p l) (hQ : ∀ M3 M2, MOk M0 M3 b L o s n k c p s1 n1 c1 D → tkS (joiM M3 c1 p v) M2 → NTk M2 b L (nx b L s1) → WL d 1 Q 0 M2) : WL d 1 Q 2 M' := by
  have L4 := T.2.1
  obtain ⟨⟨c', P'⟩, h2, ok, fr, pn, hin, hbd⟩ := h
  have F' := MF_pFr F fr
  refine WL_2 F' P'.2.1 ?_
  rw [bt_head F' P'.1]
  obtain ⟨M3, t3, te, st⟩ := pn M' (tkS_refl M')
  have K3 := NTk_tokE P'.1 te
  have ok3 := MOk_tk ok t3 K3 (Nat.le_refl s1)
  have F3 := MF_pFr F ok3.1
  have P3 := ok3.2.1
  have hcp3 := P3.2.2.2.2.2.2.2.2.1
  have hs1 := P3.1.2.2.2.2
  have tb3 : Tb M3 p l := by
    rcases hb with hb | ⟨w, w1, w2, w3, w4⟩
    · exact Or.inl hb
    · rcases Nat.eq_zero_or_pos p with z | z
      · exact Or.inl z
      · exact Or.inr ⟨w, w1, w2, by rw [(ok3.2.2.2.1 (p - 1) (by omega)).1]; exact w3, w4⟩
  -- behind the settling
  have F4 : MF (mpush M3 p (nI v) (nI c1)) := F3
  have F5 : MF (joiM M3 c1 p v) := F3
  have fin : ∀ x : Int32, s1 < L → (∀ Q', Wp none d 208 35 [(0, .ref 126), (1, .int x)] [] M3 Q' = Wp none d 208 51 [(0, .ref 126), (1, .int x)] [.int (nI c1), .int (nI v), .ref 126] M3 Q') → (∀ Q', Wp none d 208 54 [(0, .ref 126), (1, .int x)] [] (mpush M3 p (nI v) (nI c1)) Q' = Wp none d 208 67 [(0, .ref 126), (1, .int x)] [.int 0, .int (nI v), .ref 126] (mpush M3 p (nI v) (nI c1)) Q') → Wp none d 208 35 [(0, .ref 126), (1, .int x)] [] M3 (WR d 1 Q) := by
    intro x hsl e1 e2
    have hv2 : v = 29 ∨ v = 30 := by rcases hv with h | h; exact Or.inl h.1; exact Or.inr h.1
    have hcp4 : c1 < 400 := by omega
    rw [e1, m208_51 F3, mpush_ok F3 P3.2.2.2.2.2.1 (by omega)]
    simp only [oZ]
    rw [e2, m208_67 F4, memit_ok F4 (by rw [mpush_f (by decide)]; exact P3.2.2.2.2.1) hcp4]
    simp only [oZ]
    show Wp none d 208 70 [(0, .ref 126), (1, .int x)] [] (joiM M3 c1 p v) (WR d 1 Q)
    have T5 : TR (joiM M3 c1 p v) b L := TR_pFr (TR_pFr T ok3.1) (pFr_trans (mpush_fr _ _ _ _) (memit_fr _ _ _ _))
    rw [k208_70, m208_71 F5]
    refine next_ok F5 T5 (p := tkE b L s1) (by unfold joiM; rw [memit_f (by decide), mpush_f (by decide)]; exact P3.1.2.1) (tkE_le hs1) ?_
    intro M2 t2 K2
    simp only [oZ]
    rw [k208_74]
    exact hQ M3 M2 ok3 t2 K2
  rcases hv with ⟨hv, hl, hw⟩ | ⟨hv, hl, hw⟩
  · have hsl := kw_lt (show lett kwAnd = true by decide) hw
    rw [if_pos hw, k208_22, k208_24, if_neg (by decide), k208_27, m208_32 F', show (2 : Int32) = nI 2 from rfl]
    refine st 2 d _ (by omega) ?_
    rw [settle_stop F3 P3.2.2.2.2.2.1 (by omega) (by omega) (by rw [← hl]; exact tb3)]
    simp only [oZ]
    refine fin 1 hsl (fun Q' => ?_) (fun Q' => ?_)
    · rw [k208_35, k208_37, if_neg (by decide), k208_40, m208_47 F3, P3.2.2.2.2.1, hv]
      rfl
    · rw [k208_54, k208_56, if_neg (by decide), k208_59, k208_66, hv]
      rfl
  · have hsl := kw_lt (show lett kwOr = true by decide) hw
    rw [if_neg (by rw [hw]; decide), if_pos hw, k208_22, k208_24, if_pos rfl, k208_31, m208_32 F', show (1 : Int32) = nI 1 from rfl]
    refine st 1 d _ (by omega) ?_
    rw [settle_stop F3 P3.2.2.2.2.2.1 (by omega) (by omega) (by rw [← hl]; exact tb3)]
    simp only [oZ]
    refine fin 0 hsl (fun Q' => ?_) (fun Q' => ?_)
    · rw [k208_35, k208_37, if_pos rfl, k208_45, m208_47 F3, P3.2.2.2.2.1, hv]
      rfl
    · rw [k208_54, k208_56, if_pos rfl, k208_64, k208_66, hv]
      rfl
theorem joi_fr (M3 : hp) (c p v : Nat) : pFr M3 (joiM M3 c p v) := pFr_trans (mpush_fr _ _ _ _) (memit_fr _ _ _ _)
theorem PS_joi {M3 M2 : hp} {b : Nat → Nat} {L s n k c p s' v : Nat} {o : Bool} (P : PS M3 b L o s n k c p) (hv : v = 29 ∨ v = 30) (hc : c < 400) (t : tkS (joiM M3 c p v) M2) (K : NTk M2 b L s') (hs : s + 2 ≤ s') : PS M2 b L o s' n k (c + 1) (p + 1) := by
  obtain ⟨a1, a2, a3, a4, a5, a6, a7, a8, a9, a10⟩ := P
  have e : ∀ j, ¬ j = 14 → ¬ j = 15 → ¬ j = 16 → ¬ j = 29 → ¬ j = 23 → hI M2 126 j = hI M3 126 j := fun j h1 h2 h3 h4 h5 => (t.2.1 j h1 h2 h3).trans (by unfold joiM; rw [memit_f h5, mpush_f h4])
  refine ⟨K, (e 19 (by decide) (by decide) (by decide) (by decide) (by decide)).trans a2, (e 26 (by decide) (by decide) (by decide) (by decide) (by decide)).trans a3, (e 30 (by decide) (by decide) (by decide) (by decide) (by decide)).trans a4, (t.2.1 23 (by decide) (by decide) (by decide)).trans (memit_23 _ _ _ _), (t.2.1 29 (by decide) (by decide) (by decide)).trans ?_, (e 20 (by decide) (by decide) (by decide) (by decide) (by decide)).trans a7, a8, by omega, PV_cong (PV_push a10 (show 20 ≤ v ∧ v ≤ 32 by omega) hc) (fun j _ => ?_)⟩
  · unfold joiM; rw [memit_f (by decide)]; exact mpush_29 _ _ _ _
  · rw [agr_I t.1 (by decide), agr_I t.1 (by decide)]
    unfold joiM
    rw [(memit_pile _ _ _ _).1, (memit_pile _ _ _ _).2]
    exact ⟨rfl, rfl⟩
theorem joi_op {M3 M2 : hp} {c p v : Nat} (t : tkS (joiM M3 c p v) M2) (j : Nat) : hI M2 139 j = (if j = p then nI v else hI M3 139 j) ∧ hI M2 140 j = (if j = p then nI c else hI M3 140 j) ∧ hI M2 137 j = (if j = c then nI v else hI M3 137 j) ∧ hI M2 138 j = (if j = c then 0 else hI M3 138 j) := by
  rw [agr_I t.1 (show ([126] : List Nat).contains 139 = false by decide), agr_I t.1 (show ([126] : List Nat).contains 140 = false by decide), agr_I t.1 (show ([126] : List Nat).contains 137 = false by decide), agr_I t.1 (show ([126] : List Nat).contains 138 = false by decide)]
  unfold joiM
  rw [(memit_pile _ _ _ _).1, (memit_pile _ _ _ _).2, memit_op, memit_arg, mpush_op, mpush_at, (mpush_code _ _ _ _).1, (mpush_code _ _ _ _).2]
  exact ⟨rfl, rfl, rfl, rfl⟩
/-- what is joined -/
theorem TSet_joi {M0 M3 M2 M' M5 : hp} {b : Nat → Nat} {L s n k c p s1 n1 c1 s' s3 n3 p3 c3 v l l2 : Nat} {o : Bool} {D D1 : Den} (F : MF M0) (h : MOk M0 M3 b L o s n k c p s1 n1 c1 D) (hbd : isBD D) (hs : s1 + 2 ≤ s') (hv : (v = 29 ∧ l = 2) ∨ (v = 30 ∧ l = 1)) (t : tkS (joiM M3 c1 p v) M2) (h2 : TSet l2 M2 M' M5 b L o s' n1 k (c1 + 1) (p + 1) s3 n3 p3 c3 D1) (hl2 : l ≤ l2) (hL : L ≤ 400) : TSet l M0 M' (popJ M5 c3 p c1) b L o s n k c p s3 n3 p3 c3 (if v = 29 then andD D D1 else orD D D1) := by
  obtain ⟨P', q2, ok5, fr, pn, hin, hbd2⟩ := h2
  obtain ⟨a1, a2, a3, a4, a5, a6, a7⟩ := h
  have ok5' := ok5
  obtain ⟨b1, b2, b3, b4, b5, b6, b7⟩ := ok5
  have hv2 : v = 29 ∨ v = 30 := by rcases hv with h | h; exact Or.inl h.1; exact Or.inr h.1
  have hs3 := b2.1.2.2.2.2
  have hcp := a2.2.2.2.2.2.2.2.2.1
  have hcp3 := b2.2.2.2.2.2.2.2.2.1
  have hc1 := a5.1
  have hc3 := b5.1
  have fr2 : pFr M0 M2 := pFr_trans a1 (pFr_trans (joi_fr _ _ _ _) (tkS_pFr t))
  have F5 : MF M5 := MF_pFr F (pFr_trans fr2 b1)
  have e39 : ∀ j, j < p → hI M5 139 j = hI M3 139 j ∧ hI M5 140 j = hI M3 140 j := fun j hj => by
    have := b4 j (by omega)
    rw [this.1, this.2, (joi_op t j).1, (joi_op t j).2.1, if_neg (by omega), if_neg (by omega)]
    exact ⟨rfl, rfl⟩
  have e37 : ∀ j, j < c1 → hI M5 137 j = hI M3 137 j ∧ hI M5 138 j = hI M3 138 j := fun j hj => by
    have := b3 j (by omega)
    rw [this.1, this.2, (joi_op t j).2.2.1, (joi_op t j).2.2.2, if_neg (by omega), if_neg (by omega)]
    exact ⟨rfl, rfl⟩
  have et : hI M5 139 p = nI v := by rw [(b4 p (by omega)).1, (joi_op t p).1, if_pos rfl]
  have ea : hI M5 140 p = nI c1 := by rw [(b4 p (by omega)).2, (joi_op t p).2.1, if_pos rfl]
  have eo : hI M5 137 c1 = nI v := by rw [(b3 c1 (by omega)).1, (joi_op t c1).2.2.1, if_pos rfl]
  obtain ⟨p1, p2, p3', p4, p5, p6, p7, p8, p9, p10⟩ := b2
  have ef : ∀ j, ¬ j = 29 → hI (popJ M5 c3 p c1) 126 j = hI M5 126 j := fun j h1 => by unfold popJ; rw [hI_sI_a (by decide), hI_sI_k h1]
  have ep : ∀ j, hI (popJ M5 c3 p c1) 139 j = hI M5 139 j ∧ hI (popJ M5 c3 p c1) 140 j = hI M5 140 j ∧ hI (popJ M5 c3 p c1) 137 j = hI M5 137 j := fun j => by
    unfold popJ
    rw [hI_sI_a (by decide), hI_sI_a (by decide), hI_sI_a (by decide), hI_sI_a (by decide), hI_sI_a (by decide), hI_sI_a (by decide)]
    exact ⟨rfl, rfl, rfl⟩
  have eA : ∀ j, hI (popJ M5 c3 p c1) 138 j = if j = c1 then nI c3 else hI M5 138 j := fun j => by
    unfold popJ
    rw [hI_sI]
    by_cases h : j = c1
    · rw [if_pos ⟨rfl, h⟩, if_pos h]
    · rw [if_neg (fun z => h z.2), if_neg h, hI_sI_a (by decide)]
  have sA : SegR o (hI (popJ M5 c3 p c1) 137) (hI (popJ M5 c3 p c1) 138) c c1 D := SegR_cong a5 (fun j q1 q2 => by
    rw [(ep j).2.2, eA, if_neg (by omega), (e37 j q2).1, (e37 j q2).2]
    exact ⟨rfl, rfl⟩)
  have sB : SegR o (hI (popJ M5 c3 p c1) 137) (hI (popJ M5 c3 p c1) 138) (c1 + 1) c3 D1 := SegR_cong b5 (fun j q1 q2 => by
    rw [(ep j).2.2, eA, if_neg (by omega)]
    exact ⟨rfl, rfl⟩)
  refine ⟨P', by omega, ⟨pFr_trans fr2 (pFr_trans b1 (pFr_a (pFr_f (pFr_refl M5) (by decide)) (Or.inr (Or.inl rfl)))), ⟨NTk_fr p1 (ef _ (by decide)) (ef _ (by decide)) (ef _ (by decide)) rfl, (ef _ (by decide)).trans p2, (ef _ (by decide)).trans p3', (ef _ (by decide)).trans p4, (ef _ (by decide)).trans p5, ?_, (ef _ (by decide)).trans p7, p8, by omega, ?_⟩, ?_, ?_, ?_, by omega, by omega⟩, pFr_trans fr2 fr, Pn_jmp (Pn_le pn hl2) F5 p6 (by omega) (by omega) hv2 et (by rcases hv with h | h; rw [h.1, h.2]; decide; rw [h.1, h.2]; decide) p5 ea (by omega), ?_, ?_⟩
  · unfold popJ; rw [hI_sI_a (by decide), hI_sI_s]
  · exact PV_cong a2.2.2.2.2.2.2.2.2.2 (fun j hj => by rw [(ep j).1, (ep j).2.1]; exact e39 j hj)
  · intro j hj
    rw [(ep j).2.2, eA, if_neg (by omega), (e37 j (by omega)).1, (e37 j (by omega)).2]
    exact a3 j hj
  · intro j hj
    rw [(ep j).1, (ep j).2.1, (e39 j hj).1, (e39 j hj).2]
    exact a4 j hj
  · rcases hv with h | h
    · rw [if_pos h.1]
      exact SegR_and sA sB (by rw [(ep c1).2.2, eo, h.1]; rfl) (by rw [eA, if_pos rfl]) (by omega)
    · rw [if_neg (by omega)]
      exact SegR_or sA hbd sB (by rw [(ep c1).2.2, eo, h.1]; rfl) (by rw [eA, if_pos rfl]) (by omega)
  · rw [hin]
    show (if 31 ≤ hI M2 139 p then hI M2 139 p else inF (hI M2 139) p) = _
    have e0 : hI M2 139 p = nI v := by rw [(joi_op t p).1, if_pos rfl]
    rw [if_neg (by rw [e0]; show ¬ nI 31 ≤ nI v; rw [n_le (by omega) (by omega)]; omega)]
    exact inF_cong p (fun j hj => by rw [(joi_op t j).1, if_neg (by omega)]; exact (a4 j hj).1)
  · split
    · exact isBD_and hbd hbd2
    · exact isBD_or hbd hbd2
def TestR (l lp : Nat) (b : Nat → Nat) (L : Nat) (o : Bool) (k d : Nat) (Q : Option Value → hp → Prop) (ex : Nat → Prop) (plain : Nat → Nat → PR) : Prop := ∀ (M : hp) (s n c p : Nat), MF M → TR M b L → MWd M → PS M b L o s n k c p → Tb M p lp → ¬ inF (hI M 139) p = nI 32 → TK l M b L o s n k c p d Q ex (plain s n) → Wp none d 206 0 [(0, .ref 126)] [] M (WR d 1 Q)
/-- a pile with what is joined on top -/
theorem Tb_joi {M3 M2 : hp} {c p v l : Nat} (t : tkS (joiM M3 c p v) M2) (hv : v = 29 ∨ v = 30) (hl : bnF v < l) : Tb M2 (p + 1) l := Or.inr ⟨v, by omega, by omega, by rw [Nat.add_sub_cancel, (joi_op t p).1, if_pos rfl], hl⟩
theorem in_joi {M0 M3 M2 : hp} {b : Nat → Nat} {L s n k c0 p s1 n1 c v : Nat} {o : Bool} {D : Den} (h : MOk M0 M3 b L o s n k c0 p s1 n1 c D) (t : tkS (joiM M3 c p v) M2) (hv : v = 29 ∨ v = 30) (hi : ¬ inF (hI M0 139) p = nI 32) : ¬ inF (hI M2 139) (p + 1) = nI 32 := by
  have e0 : hI M2 139 p = nI v := by rw [(joi_op t p).1, if_pos rfl]
  show ¬ (if 31 ≤ hI M2 139 p then hI M2 139 p else inF (hI M2 139) p) = nI 32
  rw [if_neg (by rw [e0]; show ¬ nI 31 ≤ nI v; rw [n_le (by omega) (by omega)]; omega), inF_cong (P' := hI M0 139) p (fun j hj => by rw [(joi_op t j).1, if_neg (by omega)]; exact (h.2.2.2.1 j hj).1)]
  exact hi
/-- what holds together, as the reference reads it -/
theorem bothR {b : Nat → Nat} {L k : Nat} {o : Bool} {ex0 : Nat → Prop} {plain : Nat → Nat → PR} (hP : TestR 3 4 b L o k d Q ex0 plain) : TestR 2 2 b L o k d Q (fun s => ex0 s ∧ ¬ wrd b L s = kwAnd) (chainP b L (andF b L) plain) := by
  intro M0 s0 n0 c0 p0 F T W P Tb0 I0 H
  have L4 := T.2.1
  have loop : ∀ (f s n : Nat) (D : Den) (M' M1 : hp) (p1 c1 : Nat), L ≤ s + f → ex0 s → TSet 2 M0 M' M1 b L o s0 n0 k c0 p0 s n p1 c1 D → TK 2 M0 b L o s0 n0 k c0 p0 d Q (fun s => ex0 s ∧ ¬ wrd b L s = kwAnd) (loopP b L (andF b L) plain f s n D) → WL d 1 Q 2 M' := by
    intro f
    induction f with
    | zero =>
      intro s n D M' M1 p1 c1 hf hx hset hr
      exact hr M' M1 p1 c1 hset ⟨hx, fun z => by have := kw_lt (show lett kwAnd = true by decide) z; omega⟩
    | succ f ih =>
      intro s n D M' M1 p1 c1 hf hx hset hr
      by_cases hw : wrd b L s = kwAnd
      · have e : loopP b L (andF b L) plain (f + 1) s n D = (match plain (nx b L s) n with
          | .inl q => .inl q
          | .inr (s1, n1, D1) => loopP b L (andF b L) plain f s1 n1 (andD D D1)) := by
          show (match andF b L s with | none => _ | some f' => _) = _
          unfold andF
          rw [if_pos hw]
          rfl
        rw [e] at hr
        have hsL := kw_lt (show lett kwAnd = true by decide) hw
        have hnx : s + 2 ≤ nx b L s := by
          have h1 := wrd_len hw
          have h2 := nx_ge b L s
          have h3 : 2 ≤ kwAnd.length := by decide
          omega
        have hbd := hset.2.2.2.2.2.2
        refine bt_op (v := 29) F T hset (Or.inl ⟨rfl, rfl, hw⟩) Tb0 ?_
        intro M3 M2 ok3 t2 K2
        have fr2 : pFr M0 M2 := pFr_trans ok3.1 (pFr_trans (joi_fr _ _ _ _) (tkS_pFr t2))
        have P2 := PS_joi ok3.2.1 (Or.inl rfl) (by have := ok3.2.1.2.2.2.2.2.2.2.2.1; have := ok3.2.1.1.2.2.2.2; omega) t2 K2 hnx
        refine WL_0 (MF_pFr F fr2) P2.2.1 ?_
        refine hP M2 (nx b L s) n (c1 + 1) (p0 + 1) (MF_pFr F fr2) (TR_pFr T fr2) (MWd_pFr W fr2) P2 (Tb_joi t2 (Or.inl rfl) (by decide)) (in_joi ok3 t2 (Or.inl rfl) I0) ?_
        cases hp2 : plain (nx b L s) n with
        | inl q =>
          rw [hp2] at hr
          intro M4 t bd
          exact hr M4 t (Bd_pre fr2 bd)
        | inr y =>
          obtain ⟨s1, n1, D1⟩ := y
          rw [hp2] at hr
          intro M4 M5 p4 c4 set4 ex4
          have hs4 := set4.2.2.1.2.2.2.2.2.1
          have st := TSet_joi (l := 2) F ok3 hbd hnx (Or.inl ⟨rfl, rfl⟩) t2 set4 (by omega) L4
          exact ih s1 n1 _ M4 _ _ _ (by omega) ex4 st hr
      · have e : loopP b L (andF b L) plain (f + 1) s n D = .inr (s, n, D) := by
          show (match andF b L s with | none => _ | some f' => _) = _
          unfold andF
          rw [if_neg hw]
        rw [e] at hr
        exact hr M' M1 p1 c1 hset ⟨hx, hw⟩
  refine hP M0 s0 n0 c0 p0 F T W P (Tb_le Tb0 (by omega)) I0 ?_
  have H2 : TK 2 M0 b L o s0 n0 k c0 p0 d Q (fun s => ex0 s ∧ ¬ wrd b L s = kwAnd) (match plain s0 n0 with
    | .inl q => .inl q
    | .inr (s1, n1, D) => loopP b L (andF b L) plain 400 s1 n1 D) := H
  cases hp : plain s0 n0 with
  | inl q =>
    rw [hp] at H2
    exact H2
  | inr x =>
    obtain ⟨s1, n1, D⟩ := x
    rw [hp] at H2
    intro M' M1 p1 c1 hset ex
    exact loop 400 s1 n1 D M' M1 p1 c1 (by omega) ex (TSet_le hset (by omega)) H2
/-- a test, as the reference reads it -/
theorem testR {b : Nat → Nat} {L k : Nat} {o : Bool} {ex0 : Nat → Prop} {plain : Nat → Nat → PR} (hP : TestR 2 2 b L o k d Q ex0 plain) : TestR 1 1 b L o k d Q (fun s => ex0 s ∧ ¬ wrd b L s = kwOr) (chainP b L (orF b L) plain) := by
  intro M0 s0 n0 c0 p0 F T W P Tb0 I0 H
  have L4 := T.2.1
  have loop : ∀ (f s n : Nat) (D : Den) (M' M1 : hp) (p1 c1 : Nat), L ≤ s + f → ex0 s → TSet 1 M0 M' M1 b L o s0 n0 k c0 p0 s n p1 c1 D → TK 1 M0 b L o s0 n0 k c0 p0 d Q (fun s => ex0 s ∧ ¬ wrd b L s = kwOr) (loopP b L (orF b L) plain f s n D) → WL d 1 Q 2 M' := by
    intro f
    induction f with
    | zero =>
      intro s n D M' M1 p1 c1 hf hx hset hr
      exact hr M' M1 p1 c1 hset ⟨hx, fun z => by have := kw_lt (show lett kwOr = true by decide) z; omega⟩
    | succ f ih =>
      intro s n D M' M1 p1 c1 hf hx hset hr
      by_cases hw : wrd b L s = kwOr
      · have e : loopP b L (orF b L) plain (f + 1) s n D = (match plain (nx b L s) n with
          | .inl q => .inl q
          | .inr (s1, n1, D1) => loopP b L (orF b L) plain f s1 n1 (orD D D1)) := by
          show (match orF b L s with | none => _ | some f' => _) = _
          unfold orF
          rw [if_pos hw]
          rfl
        rw [e] at hr
        have hsL := kw_lt (show lett kwOr = true by decide) hw
        have hnx : s + 2 ≤ nx b L s := by
          have h1 := wrd_len hw
          have h2 := nx_ge b L s
          have h3 : 2 ≤ kwOr.length := by decide
          omega
        have hbd := hset.2.2.2.2.2.2
        refine bt_op (v := 30) F T hset (Or.inr ⟨rfl, rfl, hw⟩) Tb0 ?_
        intro M3 M2 ok3 t2 K2
        have fr2 : pFr M0 M2 := pFr_trans ok3.1 (pFr_trans (joi_fr _ _ _ _) (tkS_pFr t2))
        have P2 := PS_joi ok3.2.1 (Or.inr rfl) (by have := ok3.2.1.2.2.2.2.2.2.2.2.1; have := ok3.2.1.1.2.2.2.2; omega) t2 K2 hnx
        refine WL_0 (MF_pFr F fr2) P2.2.1 ?_
        refine hP M2 (nx b L s) n (c1 + 1) (p0 + 1) (MF_pFr F fr2) (TR_pFr T fr2) (MWd_pFr W fr2) P2 (Tb_joi t2 (Or.inr rfl) (by decide)) (in_joi ok3 t2 (Or.inr rfl) I0) ?_
        cases hp2 : plain (nx b L s) n with
        | inl q =>
          rw [hp2] at hr
          intro M4 t bd
          exact hr M4 t (Bd_pre fr2 bd)
        | inr y =>
          obtain ⟨s1, n1, D1⟩ := y
          rw [hp2] at hr
          intro M4 M5 p4 c4 set4 ex4
          have hs4 := set4.2.2.1.2.2.2.2.2.1
          have st := TSet_joi (l := 1) F ok3 hbd hnx (Or.inr ⟨rfl, rfl⟩) t2 set4 (by omega) L4
          exact ih s1 n1 _ M4 _ _ _ (by omega) ex4 st hr
      · have e : loopP b L (orF b L) plain (f + 1) s n D = .inr (s, n, D) := by
          show (match orF b L s with | none => _ | some f' => _) = _
          unfold orF
          rw [if_neg hw]
        rw [e] at hr
        exact hr M' M1 p1 c1 hset ⟨hx, hw⟩
  refine hP M0 s0 n0 c0 p0 F T W P (Tb_le Tb0 (by omega)) I0 ?_
  have H2 : TK 1 M0 b L o s0 n0 k c0 p0 d Q (fun s => ex0 s ∧ ¬ wrd b L s = kwOr) (match plain s0 n0 with
    | .inl q => .inl q
    | .inr (s1, n1, D) => loopP b L (orF b L) plain 400 s1 n1 D) := H
  cases hp : plain s0 n0 with
  | inl q =>
    rw [hp] at H2
    exact H2
  | inr x =>
    obtain ⟨s1, n1, D⟩ := x
    rw [hp] at H2
    intro M' M1 p1 c1 hset ex
    exact loop 400 s1 n1 D M' M1 p1 c1 (by omega) ex (TSet_le hset (by omega)) H2
