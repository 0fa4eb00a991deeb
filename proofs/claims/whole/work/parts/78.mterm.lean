variable {d : Nat} {M : hp} {Q : Option Value → hp → Prop}
theorem inF_ar {P : Nat → Int32} {p : Nat} : ∀ (k : Nat), (∀ j, p ≤ j → j < p + k → ∃ v, 20 ≤ v ∧ v ≤ 24 ∧ P j = nI v) → inF P (p + k) = inF P p
  | 0, _ => rfl
  | k + 1, h => by
    obtain ⟨v, v1, v2, v3⟩ := h (p + k) (by omega) (by omega)
    show (if 31 ≤ P (p + k) then _ else _) = _
    rw [if_neg (by rw [v3]; show ¬ nI 31 ≤ nI v; rw [n_le (by omega) (by omega)]; omega)]
    exact inF_ar k (fun j h1 h2 => h j h1 (by omega))
theorem inF_cong {P P' : Nat → Int32} : ∀ (p : Nat), (∀ j, j < p → P j = P' j) → inF P p = inF P' p
  | 0, _ => rfl
  | p + 1, h => by
    show (if 31 ≤ P p then P p else inF P p) = (if 31 ≤ P' p then P' p else inF P' p)
    rw [h p (by omega), inF_cong p (fun j hj => h j (by omega))]
theorem cmF_ar {P : Nat → Int32} {p : Nat} : ∀ (k : Nat), (∀ j, p ≤ j → j < p + k → ∃ v, 20 ≤ v ∧ v ≤ 24 ∧ P j = nI v) → cmF P (p + k) = cmF P p
  | 0, _ => rfl
  | k + 1, h => by
    obtain ⟨v, v1, v2, v3⟩ := h (p + k) (by omega) (by omega)
    show (if 20 ≤ P (p + k) ∧ P (p + k) ≤ 24 then _ else _) = _
    rw [if_pos (by rw [v3]; show nI 20 ≤ nI v ∧ nI v ≤ nI 24; rw [n_le (by omega) (by omega), n_le (by omega) (by omega)]; omega)]
    exact cmF_ar k (fun j h1 h2 => h j h1 (by omega))
/-- which operation stands here -/
def opAt (b : Nat → Nat) (L s : Nat) : Option Nat := if sg b L s 43 then some 20 else if sg b L s 45 then some 21 else if sg b L s 42 then some 22 else if sg b L s 47 then some 23 else if sg b L s 37 then some 24 else none
/-- behind a part: the operation, or none -/
theorem bs_head {b : Nat → Nat} {L s : Nat} {ts : Int32} (F : MF M) (T : TR M b L) (K : NTk M b L s) : Wp none d 207 0 [(0, .ref 126), (1, .int ts)] [] M Q = (match opAt b L s with
    | some v => Wp none d 207 77 [(0, .ref 126), (1, .int ts), (2, .int (nI v))] [] M Q
    | none => Wp none d 207 97 [(0, .ref 126), (1, .int ts), (2, .int (-1))] [] M Q) := by
  have g43 := mS (c := 43) F T K (by omega)
  have g45 := mS (c := 45) F T K (by omega)
  have g42 := mS (c := 42) F T K (by omega)
  have g47 := mS (c := 47) F T K (by omega)
  have g37 := mS (c := 37) F T K (by omega)
  rw [k207_0, m207_3 F, show (43 : Int32) = nI 43 from rfl, g43]
  simp only [oN]
  rw [k207_6, bzi, k207_9, k207_14, m207_17 F, show (45 : Int32) = nI 45 from rfl, g45]
  simp only [oN]
  rw [k207_20, bzi, k207_23, k207_28, m207_31 F, show (42 : Int32) = nI 42 from rfl, g42]
  simp only [oN]
  rw [k207_34, bzi, k207_37, k207_42, m207_45 F, show (47 : Int32) = nI 47 from rfl, g47]
  simp only [oN]
  rw [k207_48, bzi, k207_51, k207_56, m207_59 F, show (37 : Int32) = nI 37 from rfl, g37]
  simp only [oN]
  rw [k207_62, bzi, k207_65, k207_70]
  have fin : ∀ v, v < 100 → Wp none d 207 71 [(0, .ref 126), (1, .int ts)] [.int (nI v)] M Q = Wp none d 207 77 [(0, .ref 126), (1, .int ts), (2, .int (nI v))] [] M Q := by
    intro v hv
    rw [k207_71, k207_74, if_neg (by rw [n_m1 (by omega)]; exact id)]
  unfold opAt
  by_cases z1 : sg b L s 43
  · rw [if_neg (fun z => z z1), if_pos z1]; exact fin 20 (by omega)
  · rw [if_pos z1, if_neg z1]
    by_cases z2 : sg b L s 45
    · rw [if_neg (fun z => z z2), if_pos z2]; exact fin 21 (by omega)
    · rw [if_pos z2, if_neg z2]
      by_cases z3 : sg b L s 42
      · rw [if_neg (fun z => z z3), if_pos z3]; exact fin 22 (by omega)
      · rw [if_pos z3, if_neg z3]
        by_cases z4 : sg b L s 47
        · rw [if_neg (fun z => z z4), if_pos z4]; exact fin 23 (by omega)
        · rw [if_pos z4, if_neg z4]
          by_cases z5 : sg b L s 37
          · rw [if_neg (fun z => z z5), if_pos z5]; exact fin 24 (by omega)
          · rw [if_pos z5, if_neg z5, k207_71, k207_74, if_pos rfl]
/-- an operation: what binds more is settled, it comes on the pile, the next token -/
theorem bs_op {M0 M' M1 : hp} {b : Nat → Nat} {L s n k c p s1 n1 p1 c1 l v : Nat} {o : Bool} {D : Den} {ts : Int32} (F : MF M0) (T : TR M0 b L) (h : MSet l M0 M' M1 b L o s n k c p s1 n1 p1 c1 D) (hv : opAt b L s1 = some v) (hl : l = bnF v) (hb : Tb M0 p l) (hQ : ∀ M3 M2, MOk M0 M3 b L o s n k c p s1 n1 c1 D → tkS (mpush M3 p (nI v) (nI 0)) M2 → NTk M2 b L (nx b L s1) → WL d ts Q 1 M2) : WL d ts Q 3 M' := by
  have L4 := T.2.1
  obtain ⟨⟨c', P'⟩, h2, ok, fr, pn, ar, pb⟩ := h
  have F' := MF_pFr F fr
  have T' := TR_pFr T fr
  have hv2 : 20 ≤ v ∧ v ≤ 24 ∧ s1 < L := by
    unfold opAt at hv
    split at hv
    · rename_i z; cases hv; exact ⟨by omega, by omega, z.1⟩
    · split at hv
      · rename_i z; cases hv; exact ⟨by omega, by omega, z.1⟩
      · split at hv
        · rename_i z; cases hv; exact ⟨by omega, by omega, z.1⟩
        · split at hv
          · rename_i z; cases hv; exact ⟨by omega, by omega, z.1⟩
          · split at hv
            · rename_i z; cases hv; exact ⟨by omega, by omega, z.1⟩
            · cases hv
  have hb7 := bnF_lt v
  refine WL_3 F' P'.2.1 ?_
  rw [bs_head F' T' P'.1, hv]
  show Wp none d 207 77 [(0, .ref 126), (1, .int ts), (2, .int (nI v))] [] M' (WR d ts Q)
  rw [k207_77, k207_79, binds_ok ⟨hv2.1, by omega⟩]
  simp only [oM]
  rw [m207_82 F']
  obtain ⟨M3, t3, te, st⟩ := pn M' (tkS_refl M')
  refine st (bnF v) d _ (by omega) ?_
  have K3 := NTk_tokE P'.1 te
  have ok3 := MOk_tk ok t3 K3 (Nat.le_refl s1)
  have F3 := MF_pFr F ok3.1
  have P3 := ok3.2.1
  have hcp3 := P3.2.2.2.2.2.2.2.2.1
  have tb3 : Tb M3 p (bnF v) := by
    rcases hb with hb | ⟨w, w1, w2, w3, w4⟩
    · exact Or.inl hb
    · rcases Nat.eq_zero_or_pos p with z | z
      · exact Or.inl z
      · exact Or.inr ⟨w, w1, w2, by rw [(ok3.2.2.2.1 (p - 1) (by omega)).1]; exact w3, by omega⟩
  rw [settle_stop F3 P3.2.2.2.2.2.1 (by omega) (by omega) tb3]
  simp only [oZ]
  rw [k207_85, m207_88 F3, show (0 : Int32) = nI 0 from rfl, mpush_ok F3 P3.2.2.2.2.2.1 (by omega)]
  simp only [oZ]
  have F4 : MF (mpush M3 p (nI v) (nI 0)) := F3
  have T4 : TR (mpush M3 p (nI v) (nI 0)) b L := TR_pFr (TR_pFr T ok3.1) (mpush_fr _ _ _ _)
  rw [k207_91, m207_92 F4]
  refine next_ok F4 T4 (by rw [mpush_f (by decide)]; exact P3.1.2.1) (tkE_le P3.1.2.2.2.2) ?_
  intro M2 t2 K2
  simp only [oZ]
  rw [k207_95]
  exact hQ M3 M2 ok3 t2 K2
/-- the pile's top behind a push -/
theorem Tb_push {M1 M2 : hp} {p v l a : Nat} (hv : 20 ≤ v ∧ v ≤ 32) (t : tkS (mpush M1 p (nI v) (nI a)) M2) (hl : bnF v < l) : Tb M2 (p + 1) l := by
  refine Or.inr ⟨v, hv.1, hv.2, ?_, hl⟩
  rw [Nat.add_sub_cancel, agr_I t.1 (show ([126] : List Nat).contains 139 = false by decide), mpush_op, if_pos rfl]
/-- an operand behind an operation on the pile -/
theorem MSet_bin {M0 M1 M2 M' M3 : hp} {b : Nat → Nat} {L s n k c p s1 n1 c1 s' s3 n3 p3 c3 v l l2 : Nat} {o : Bool} {D D1 : Den} (F : MF M0) (h : MOk M0 M1 b L o s n k c p s1 n1 c1 D) (hs : s1 < s') (hv : 20 ≤ v ∧ v ≤ 24) (t : tkS (mpush M1 p (nI v) (nI 0)) M2) (h2 : MSet l2 M2 M' M3 b L o s' n1 k c1 (p + 1) s3 n3 p3 c3 D1) (hl : l ≤ bnF v) (hl2 : l ≤ l2) (hL : L ≤ 400) : MSet l M0 M' (popE M3 c3 p v) b L o s n k c p s3 n3 p3 (c3 + 1) (binD (nI (v - 18)) D D1) := by
  obtain ⟨P', q2, ok3, fr, pn, ar, pb⟩ := h2
  obtain ⟨e1, e2, e3, e4, e5, e6⟩ := MOk_bin h hs ⟨hv.1, by omega⟩ t ok3 hL
  have fr2 : pFr M0 M2 := pFr_trans h.1 (pFr_trans (mpush_fr _ _ _ _) (tkS_pFr t))
  have F3 : MF M3 := MF_pFr F (pFr_trans fr2 ok3.1)
  have n139 : ([126] : List Nat).contains 139 = false := by decide
  refine ⟨P', by omega, e6, pFr_trans fr2 fr, Pn_pop (Pn_le pn hl2) F3 e1 e4 (by have := bnF_lt v; omega) ⟨hv.1, by omega⟩ e2 hl e3 e5, ?_, ?_⟩
  · intro j h1 h3
    by_cases c : j = p
    · refine ⟨v, hv.1, hv.2, ?_⟩
      rw [c, pb p (by omega), agr_I t.1 n139, mpush_op, if_pos rfl]
    · exact ar j (by omega) h3
  · intro j hj
    rw [pb j (by omega), agr_I t.1 n139, mpush_op, if_neg (by omega)]
    exact (h.2.2.2.1 j hj).1
def PartR (b : Nat → Nat) (L : Nat) (o : Bool) (k d : Nat) (ts : Int32) (Q : Option Value → hp → Prop) (part : Nat → Nat → PR) : Prop := ∀ (M : hp) (s n c p : Nat), MF M → TR M b L → MWd M → PS M b L o s n k c p → PK M b L o s n k c p d ts Q (part s n) → Wp none d 205 0 [(0, .ref 126)] [] M (WR d ts Q)
def ChainR (l : Nat) (b : Nat → Nat) (L : Nat) (o : Bool) (k d : Nat) (ts : Int32) (Q : Option Value → hp → Prop) (ex : Nat → Prop) (sum : Nat → Nat → PR) : Prop := ∀ (M : hp) (s n c p : Nat), MF M → TR M b L → MWd M → PS M b L o s n k c p → Tb M p l → SK l M b L o s n k c p d ts Q ex (sum s n) → Wp none d 205 0 [(0, .ref 126)] [] M (WR d ts Q)
theorem mul_op {b : Nat → Nat} {L s : Nat} {op : Int32} (h : mulO b L s = some op) : ∃ v, opAt b L s = some v ∧ bnF v = 6 ∧ 20 ≤ v ∧ v ≤ 24 ∧ op = nI (v - 18) ∧ s < L := by
  unfold mulO at h
  unfold opAt
  split at h
  · rename_i z
    cases h
    rw [if_neg (sg_un z (by decide)), if_neg (sg_un z (by decide)), if_pos z]
    exact ⟨22, rfl, by decide, by omega, by omega, rfl, z.1⟩
  · rename_i z1
    split at h
    · rename_i z
      cases h
      rw [if_neg (sg_un z (by decide)), if_neg (sg_un z (by decide)), if_neg z1, if_pos z]
      exact ⟨23, rfl, by decide, by omega, by omega, rfl, z.1⟩
    · rename_i z2
      split at h
      · rename_i z
        cases h
        rw [if_neg (sg_un z (by decide)), if_neg (sg_un z (by decide)), if_neg z1, if_neg z2, if_pos z]
        exact ⟨24, rfl, by decide, by omega, by omega, rfl, z.1⟩
      · cases h
theorem add_op {b : Nat → Nat} {L s : Nat} {op : Int32} (h : addO b L s = some op) : ∃ v, opAt b L s = some v ∧ bnF v = 5 ∧ 20 ≤ v ∧ v ≤ 24 ∧ op = nI (v - 18) ∧ s < L := by
  unfold addO at h
  unfold opAt
  split at h
  · rename_i z
    cases h
    rw [if_pos z]
    exact ⟨20, rfl, by decide, by omega, by omega, rfl, z.1⟩
  · rename_i z1
    split at h
    · rename_i z
      cases h
      rw [if_neg z1, if_pos z]
      exact ⟨21, rfl, by decide, by omega, by omega, rfl, z.1⟩
    · cases h
theorem op_none {b : Nat → Nat} {L s : Nat} (h1 : mulO b L s = none) (h2 : addO b L s = none) : opAt b L s = none := by
  unfold mulO at h1
  unfold addO at h2
  unfold opAt
  split at h2
  · cases h2
  · rename_i z1
    split at h2
    · cases h2
    · rename_i z2
      split at h1
      · cases h1
      · rename_i z3
        split at h1
        · cases h1
        · rename_i z4
          split at h1
          · cases h1
          · rename_i z5
            rw [if_neg z1, if_neg z2, if_neg z3, if_neg z4, if_neg z5]
theorem mul_L {b : Nat → Nat} {L s : Nat} (h : L ≤ s) : mulO b L s = none := by
  unfold mulO
  rw [if_neg (fun z => by have := z.1; omega), if_neg (fun z => by have := z.1; omega), if_neg (fun z => by have := z.1; omega)]
theorem add_L {b : Nat → Nat} {L s : Nat} (h : L ≤ s) : addO b L s = none := by
  unfold addO
  rw [if_neg (fun z => by have := z.1; omega), if_neg (fun z => by have := z.1; omega)]
/-- a term, as the reference reads it -/
theorem termR {b : Nat → Nat} {L k : Nat} {o : Bool} {ts : Int32} {part : Nat → Nat → PR} (hP : PartR b L o k d ts Q part) : ChainR 6 b L o k d ts Q (fun s => mulO b L s = none) (pTerm b L part) := by
  intro M0 s0 n0 c0 p0 F T W P Tb0 H
  have L4 := T.2.1
  have loop : ∀ (f s n : Nat) (D : Den) (M' M1 : hp) (p1 c1 : Nat), L ≤ s + f → MSet 6 M0 M' M1 b L o s0 n0 k c0 p0 s n p1 c1 D → SK 6 M0 b L o s0 n0 k c0 p0 d ts Q (fun s => mulO b L s = none) (loopP b L (mulF b L) part f s n D) → WL d ts Q 3 M' := by
    intro f
    induction f with
    | zero =>
      intro s n D M' M1 p1 c1 hf hset hr
      exact hr M' M1 p1 c1 hset (mul_L (by omega))
    | succ f ih =>
      intro s n D M' M1 p1 c1 hf hset hr
      cases hm : mulO b L s with
      | none =>
        have e : loopP b L (mulF b L) part (f + 1) s n D = .inr (s, n, D) := by
          show (match mulF b L s with | none => _ | some f' => _) = _
          unfold mulF
          rw [hm]
          rfl
        rw [e] at hr
        exact hr M' M1 p1 c1 hset hm
      | some op =>
        obtain ⟨v, hv, hb, v1, v2, hop, hsL⟩ := mul_op hm
        have e : loopP b L (mulF b L) part (f + 1) s n D = (match part (nx b L s) n with
          | .inl q => .inl q
          | .inr (s1, n1, D1) => loopP b L (mulF b L) part f s1 n1 (binD op D D1)) := by
          show (match mulF b L s with | none => _ | some f' => _) = _
          unfold mulF
          rw [hm]
          rfl
        rw [e] at hr
        have hnx := nx_gt (b := b) hsL
        refine bs_op F T hset hv hb.symm Tb0 ?_
        intro M3 M2 ok3 t2 K2
        have fr2 : pFr M0 M2 := pFr_trans ok3.1 (pFr_trans (mpush_fr _ _ _ _) (tkS_pFr t2))
        have P2 := PS_push ok3.2.1 ⟨v1, by omega⟩ (by omega) t2 K2 hnx
        refine WL_1 (MF_pFr F fr2) P2.2.1 ?_
        refine hP M2 (nx b L s) n c1 (p0 + 1) (MF_pFr F fr2) (TR_pFr T fr2) (MWd_pFr W fr2) P2 ?_
        cases hp2 : part (nx b L s) n with
        | inl q =>
          rw [hp2] at hr
          intro M4 t bd
          exact hr M4 t (Bd_pre fr2 bd)
        | inr y =>
          obtain ⟨s1, n1, D1⟩ := y
          rw [hp2] at hr
          intro M4 c4 ok4
          have hs4 := ok4.2.2.2.2.2.1
          rw [hop] at hr
          exact ih s1 n1 _ M4 _ _ _ (by omega) (MSet_bin F ok3 hnx ⟨v1, v2⟩ t2 (MSet_refl (l := 6) ok4) (by omega) (by omega) L4) hr
  refine hP M0 s0 n0 c0 p0 F T W P ?_
  have H2 : SK 6 M0 b L o s0 n0 k c0 p0 d ts Q (fun s => mulO b L s = none) (match part s0 n0 with
    | .inl q => .inl q
    | .inr (s1, n1, D) => loopP b L (mulF b L) part 400 s1 n1 D) := H
  cases hp : part s0 n0 with
  | inl q =>
    rw [hp] at H2
    exact H2
  | inr x =>
    obtain ⟨s1, n1, D⟩ := x
    rw [hp] at H2
    intro M' c1 ok
    exact loop 400 s1 n1 D M' M' p0 c1 (by omega) (MSet_refl ok) H2
theorem Tb_le {p l l' : Nat} (h : Tb M p l) (hl : l ≤ l') : Tb M p l' := by
  rcases h with h | ⟨v, v1, v2, v3, v4⟩
  · exact Or.inl h
  · exact Or.inr ⟨v, v1, v2, v3, by omega⟩
/-- a sum, as the reference reads it -/
def exS (b : Nat → Nat) (L s : Nat) : Prop := opAt b L s = none
theorem sumR {b : Nat → Nat} {L k : Nat} {o : Bool} {ts : Int32} {term : Nat → Nat → PR} (hP : ChainR 6 b L o k d ts Q (fun s => mulO b L s = none) term) : ChainR 5 b L o k d ts Q (exS b L) (chainP b L (addF b L) term) := by
  intro M0 s0 n0 c0 p0 F T W P Tb0 H
  have L4 := T.2.1
  have loop : ∀ (f s n : Nat) (D : Den) (M' M1 : hp) (p1 c1 : Nat), L ≤ s + f → mulO b L s = none → MSet 5 M0 M' M1 b L o s0 n0 k c0 p0 s n p1 c1 D → SK 5 M0 b L o s0 n0 k c0 p0 d ts Q (exS b L) (loopP b L (addF b L) term f s n D) → WL d ts Q 3 M' := by
    intro f
    induction f with
    | zero =>
      intro s n D M' M1 p1 c1 hf hm hset hr
      exact hr M' M1 p1 c1 hset (op_none hm (add_L (by omega)))
    | succ f ih =>
      intro s n D M' M1 p1 c1 hf hm hset hr
      cases ha : addO b L s with
      | none =>
        have e : loopP b L (addF b L) term (f + 1) s n D = .inr (s, n, D) := by
          show (match addF b L s with | none => _ | some f' => _) = _
          unfold addF
          rw [ha]
          rfl
        rw [e] at hr
        exact hr M' M1 p1 c1 hset (op_none hm ha)
      | some op =>
        obtain ⟨v, hv, hb, v1, v2, hop, hsL⟩ := add_op ha
        have e : loopP b L (addF b L) term (f + 1) s n D = (match term (nx b L s) n with
          | .inl q => .inl q
          | .inr (s1, n1, D1) => loopP b L (addF b L) term f s1 n1 (binD op D D1)) := by
          show (match addF b L s with | none => _ | some f' => _) = _
          unfold addF
          rw [ha]
          rfl
        rw [e] at hr
        have hnx := nx_gt (b := b) hsL
        refine bs_op F T hset hv hb.symm Tb0 ?_
        intro M3 M2 ok3 t2 K2
        have fr2 : pFr M0 M2 := pFr_trans ok3.1 (pFr_trans (mpush_fr _ _ _ _) (tkS_pFr t2))
        have P2 := PS_push ok3.2.1 ⟨v1, by omega⟩ (by omega) t2 K2 hnx
        refine WL_1 (MF_pFr F fr2) P2.2.1 ?_
        refine hP M2 (nx b L s) n c1 (p0 + 1) (MF_pFr F fr2) (TR_pFr T fr2) (MWd_pFr W fr2) P2 (Tb_push ⟨v1, by omega⟩ t2 (by omega)) ?_
        cases hp2 : term (nx b L s) n with
        | inl q =>
          rw [hp2] at hr
          intro M4 t bd
          exact hr M4 t (Bd_pre fr2 bd)
        | inr y =>
          obtain ⟨s1, n1, D1⟩ := y
          rw [hp2] at hr
          intro M4 M5 p4 c4 set4 ex4
          have hs4 := set4.2.2.1.2.2.2.2.2.1
          rw [hop] at hr
          exact ih s1 n1 _ M4 _ _ _ (by omega) ex4 (MSet_bin F ok3 hnx ⟨v1, v2⟩ t2 set4 (by omega) (by omega) L4) hr
  refine hP M0 s0 n0 c0 p0 F T W P (Tb_le Tb0 (by omega)) ?_
  have H2 : SK 5 M0 b L o s0 n0 k c0 p0 d ts Q (exS b L) (match term s0 n0 with
    | .inl q => .inl q
    | .inr (s1, n1, D) => loopP b L (addF b L) term 400 s1 n1 D) := H
  cases hp : term s0 n0 with
  | inl q =>
    rw [hp] at H2
    exact H2
  | inr x =>
    obtain ⟨s1, n1, D⟩ := x
    rw [hp] at H2
    intro M' M1 p1 c1 hset ex
    exact loop 400 s1 n1 D M' M1 p1 c1 (by omega) ex (MSet_le hset (by omega)) H2
