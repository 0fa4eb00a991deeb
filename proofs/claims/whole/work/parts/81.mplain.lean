variable {d : Nat} {M : hp} {Q : Option Value → hp → Prop}
/-! what is told by a test is true or false -/
theorem loop_BD {b : Nat → Nat} {L : Nat} {opO : Nat → Option (Den → Den → Den)} {part : Nat → Nat → PR} (h1 : ∀ s f A B, opO s = some f → isBD A → isBD B → isBD (f A B)) (h2 : ∀ s n s1 n1 D, part s n = .inr (s1, n1, D) → isBD D) : ∀ (i s n : Nat) (D : Den), isBD D → ∀ s1 n1 D1, loopP b L opO part i s n D = .inr (s1, n1, D1) → isBD D1 := by
  intro i
  induction i with
  | zero =>
    intro s n D hD s1 n1 D1 h
    unfold loopP at h
    cases h
    exact hD
  | succ i ih =>
    intro s n D hD s1 n1 D1 h
    unfold loopP at h
    cases ho : opO s with
    | none => rw [ho] at h; cases h; exact hD
    | some f =>
      rw [ho] at h
      cases hp : part (nx b L s) n with
      | inl q => simp only [hp] at h; cases h
      | inr x =>
        obtain ⟨s2, n2, D2⟩ := x
        simp only [hp] at h
        exact ih s2 n2 (f D D2) (h1 s f D D2 ho hD (h2 _ _ _ _ _ hp)) s1 n1 D1 h
theorem chain_BD {b : Nat → Nat} {L : Nat} {opO : Nat → Option (Den → Den → Den)} {part : Nat → Nat → PR} (h1 : ∀ s f A B, opO s = some f → isBD A → isBD B → isBD (f A B)) (h2 : ∀ s n s1 n1 D, part s n = .inr (s1, n1, D) → isBD D) : ∀ s n s1 n1 D, chainP b L opO part s n = .inr (s1, n1, D) → isBD D := by
  intro s n s1 n1 D h
  unfold chainP at h
  cases hp : part s n with
  | inl q => rw [hp] at h; cases h
  | inr x =>
    obtain ⟨s2, n2, D2⟩ := x
    rw [hp] at h
    exact loop_BD h1 h2 400 s2 n2 D2 (h2 _ _ _ _ _ hp) s1 n1 D h
theorem test_BD {b : Nat → Nat} {L : Nat} {plain : Nat → Nat → PR} (h : ∀ s n s1 n1 D, plain s n = .inr (s1, n1, D) → isBD D) : ∀ s n s1 n1 D, pTest b L plain s n = .inr (s1, n1, D) → isBD D := by
  refine chain_BD ?_ (chain_BD ?_ h)
  · intro s f A B hf hA hB
    unfold orF at hf
    split at hf
    · cases hf; exact isBD_or hA hB
    · cases hf
  · intro s f A B hf hA hB
    unfold andF at hf
    split at hf
    · cases hf; exact isBD_and hA hB
    · cases hf
def coreP (b : Nat → Nat) (L : Nat) (o : Bool) (g s n : Nat) : PR := if sg b L s 40 then (match g with
    | 0 => .inl s
    | g + 1 => clos b L 41 (pTest b L (pPlain b L o g) (nx b L s) n)) else cmpP b L (pSum b L (pPart b L o g)) s n
theorem plain_core (b : Nat → Nat) (L : Nat) (o : Bool) (g s n : Nat) : pPlain b L o g s n = turn (nots b L 400 s false).2 (coreP b L o g (nots b L 400 s false).1 n) := by
  cases g <;> rfl
theorem cmp_v {b : Nat → Nat} {L s : Nat} {op : Int32} (h : cmpO b L s = some op) : (op = 7 ∨ op = 8 ∨ op = 9) ∧ s < L := by
  unfold cmpO at h
  split at h
  · rename_i z; cases h; exact ⟨Or.inl rfl, z.1⟩
  · split at h
    · rename_i z; cases h; exact ⟨Or.inr (Or.inl rfl), z.1⟩
    · split at h
      · rename_i z; cases h; exact ⟨Or.inr (Or.inr rfl), z.1⟩
      · cases h
theorem turn_BD {t : Bool} {r : PR} (h : ∀ s1 n1 D, r = .inr (s1, n1, D) → isBD D) : ∀ s1 n1 D, turn t r = .inr (s1, n1, D) → isBD D := by
  intro s1 n1 D e
  cases r with
  | inl q => cases e
  | inr x =>
    obtain ⟨s2, n2, D2⟩ := x
    have e : (.inr (s2, n2, if t = true then notD D2 else D2) : PR) = .inr (s1, n1, D) := e
    cases e
    split
    · exact isBD_not _
    · exact h s2 n2 D2 rfl
theorem core_BD {b : Nat → Nat} {L : Nat} {o : Bool} : ∀ (g s n s1 n1 : Nat) (D : Den), coreP b L o g s n = .inr (s1, n1, D) → isBD D := by
  intro g
  induction g with
  | zero =>
    intro s n s1 n1 D h
    unfold coreP at h
    split at h
    · cases h
    · unfold cmpP at h
      split at h
      · cases h
      · split at h
        · cases h
        · rename_i op ho
          split at h
          · cases h
          · cases h
            exact isBD_cmp (cmp_v ho).1
  | succ g ih =>
    intro s n s1 n1 D h
    unfold coreP at h
    split at h
    · have hp : ∀ s n s1 n1 D, pPlain b L o g s n = .inr (s1, n1, D) → isBD D := by
        intro s n s1 n1 D e
        rw [plain_core] at e
        exact turn_BD (fun s1 n1 D e => ih _ _ s1 n1 D e) s1 n1 D e
      have h : clos b L 41 (pTest b L (pPlain b L o g) (nx b L s) n) = .inr (s1, n1, D) := h
      cases ht : pTest b L (pPlain b L o g) (nx b L s) n with
      | inl q => rw [ht] at h; cases h
      | inr x =>
        obtain ⟨s2, n2, D2⟩ := x
        rw [ht] at h
        have h : (if sg b L s2 41 then .inr (nx b L s2, n2, D2) else .inl s2 : PR) = .inr (s1, n1, D) := h
        split at h
        · cases h
          exact test_BD hp _ _ _ _ _ ht
        · cases h
    · unfold cmpP at h
      split at h
      · cases h
      · split at h
        · cases h
        · rename_i op ho
          split at h
          · cases h
          · cases h
            exact isBD_cmp (cmp_v ho).1
theorem notD_notD {D : Den} (h : isBD D) : notD (notD D) = D := by
  funext e
  unfold notD
  cases he : D e with
  | none => rfl
  | some v =>
    rcases h e v he with q | q
    · subst q; rfl
    · subst q; rfl
theorem nots_flip (b : Nat → Nat) (L : Nat) : ∀ (f s : Nat) (t : Bool), nots b L f s (!t) = ((nots b L f s t).1, !(nots b L f s t).2)
  | 0, _, _ => rfl
  | f + 1, s, t => by
    unfold nots
    by_cases z : wrd b L s = kwNot
    · rw [if_pos z, if_pos z]
      exact nots_flip b L f (nx b L s) (!t)
    · rw [if_neg z, if_neg z]
/-! no comparison waits -/
theorem cmF_no {p : Nat} (h : Tb M p 4) : ¬ cmF (hI M 139) p := by
  rcases h with h | ⟨v, v1, v2, v3, v4⟩
  · subst h
    exact fun z => z
  · cases p with
    | zero => exact fun z => z
    | succ p =>
      rw [Nat.add_sub_cancel] at v3
      have hv : 28 ≤ v := by
        unfold bnF at v4
        split at v4
        · omega
        · split at v4
          · omega
          · split at v4
            · omega
            · split at v4
              · omega
              · split at v4
                · omega
                · split at v4 <;> omega
      show ¬ (if 20 ≤ hI M 139 p ∧ hI M 139 p ≤ 24 then _ else 25 ≤ hI M 139 p ∧ hI M 139 p ≤ 27)
      rw [v3, if_neg (by show ¬ (nI 20 ≤ nI v ∧ nI v ≤ nI 24); rw [n_le (by omega) (by omega), n_le (by omega) (by omega)]; omega)]
      show ¬ (nI 25 ≤ nI v ∧ nI v ≤ nI 27)
      rw [n_le (by omega) (by omega), n_le (by omega) (by omega)]
      omega
theorem cmF_yes {p v : Nat} (h : hI M 139 p = nI v) (hv : 25 ≤ v ∧ v ≤ 27) : cmF (hI M 139) (p + 1) := by
  show (if 20 ≤ hI M 139 p ∧ hI M 139 p ≤ 24 then _ else 25 ≤ hI M 139 p ∧ hI M 139 p ≤ 27)
  rw [h, if_neg (by show ¬ (nI 20 ≤ nI v ∧ nI v ≤ nI 24); rw [n_le (by omega) (by omega), n_le (by omega) (by omega)]; omega)]
  show nI 25 ≤ nI v ∧ nI v ≤ nI 27
  rw [n_le (by omega) (by omega), n_le (by omega) (by omega)]
  omega
/-- behind a sum in a test, to where a comparison is asked for -/
theorem bs_test {M' : hp} {b : Nat → Nat} {L s1 n1 k c' p1 : Nat} {o : Bool} (F' : MF M') (T' : TR M' b L) (P' : PS M' b L o s1 n1 k c' p1) (ex : exS b L s1) (hi : ¬ inF (hI M' 139) p1 = nI 32) : Wp none d 207 0 [(0, .ref 126), (1, .int 1)] [] M' Q = Wp none d 207 164 [(0, .ref 126), (1, .int 1), (2, .int (-1)), (3, .int (inF (hI M' 139) p1))] [.ref 126] M' Q := by
  have hcp := P'.2.2.2.2.2.2.2.2.1
  have hs1 := P'.1.2.2.2.2
  have L4 := T'.2.1
  rw [bs_head F' T' P'.1, ex]
  show Wp none d 207 97 [(0, .ref 126), (1, .int 1), (2, .int (-1))] [] M' Q = _
  rw [k207_97, m207_98 F', inner_ok F' P'.2.2.2.2.2.1 (by omega)]
  simp only [oN]
  rw [k207_101, k207_105, if_pos (show ¬ inF (hI M' 139) p1 = 32 from hi), k207_152, k207_154, k207_157, k207_158, if_pos (show ¬ (1 : Int32) = 0 by decide), k207_163]
  split <;> rfl
/-- a comparison's sign -/
theorem bs_cmp {M0 M' M1 : hp} {b : Nat → Nat} {L s n k c p s1 n1 p1 c1 : Nat} {o : Bool} {D : Den} (F : MF M0) (T : TR M0 b L) (h : MSet 5 M0 M' M1 b L o s n k c p s1 n1 p1 c1 D) (ex : exS b L s1) (hb : Tb M0 p 4) (hi : ¬ inF (hI M0 139) p = nI 32) (hN : cmpO b L s1 = none → ∀ t, WL d 1 Q t (badM M' s1)) (hY : ∀ v, 25 ≤ v → v ≤ 27 → cmpO b L s1 = some (nI (v - 18)) → ∀ M2, tkS (mpush M1 p (nI v) (nI 0)) M2 → NTk M2 b L (nx b L s1) → WL d 1 Q 1 M2) : WL d 1 Q 3 M' := by
  have L4 := T.2.1
  have hin := MSet_in h
  obtain ⟨⟨c', P'⟩, h2, ok, fr, pn, ar, pb⟩ := h
  have F' := MF_pFr F fr
  have T' := TR_pFr T fr
  have K' := P'.1
  have hcp := P'.2.2.2.2.2.2.2.2.1
  have hs1 := K'.2.2.2.2
  refine WL_3 F' P'.2.1 ?_
  rw [bs_test F' T' P' ex (by rw [hin.1]; exact hi)]
  obtain ⟨v0, w1, w2, w3⟩ := isCompared_ok F' P'.2.2.2.2.2.1 (by omega)
  have hv0 : v0 = 0 := by
    rcases w1 with w1 | w1
    · exact w1
    · exact absurd (w2.mp w1) (by rw [hin.2]; exact cmF_no hb)
  generalize inF (hI M' 139) p1 = x3 at *
  rw [m207_164 F', w3]
  simp only [oN]
  rw [k207_167, if_pos hv0, k207_172, m207_175 F', show (60 : Int32) = nI 60 from rfl, mS (c := 60) F' T' K' (by omega)]
  simp only [oN]
  rw [k207_178, bzi, k207_181, k207_186, m207_189 F', show (62 : Int32) = nI 62 from rfl, mS (c := 62) F' T' K' (by omega)]
  simp only [oN]
  rw [k207_192, bzi, k207_195, k207_200]
  have yes : ∀ v, 25 ≤ v → v ≤ 27 → cmpO b L s1 = some (nI (v - 18)) → Wp none d 207 224 [(0, .ref 126), (1, .int 1), (2, .int (nI v)), (3, .int x3)] [.int 1, .ref 126] M' (WR d 1 Q) := by
    intro v v1 v2 hc
    have hsl := (cmp_v hc).2
    have hnx := nx_gt (b := b) hsl
    rw [m207_224 F']
    refine must_y F' T' K' P'.2.1 (by decide) ?_
    intro M2 t2 K2
    have F2 := MF_agr F' t2.1
    simp only [oZ]
    rw [m207_227 F2, t2.2.1 19 (by decide) (by decide) (by decide), P'.2.1, k207_231, if_neg (by decide), k207_234, m207_236 F2, show (5 : Int32) = nI 5 from rfl]
    obtain ⟨M3, t3, te, st⟩ := pn M2 t2
    refine st 5 d _ (by omega) ?_
    have K3 := NTk_tokE K2 te
    have ok3 := MOk_tk ok t3 K3 (Nat.le_of_lt hnx)
    have F3 := MF_pFr F ok3.1
    have P3 := ok3.2.1
    have hcp1 := ok.2.1.2.2.2.2.2.2.2.2.1
    have tb3 : Tb M3 p 5 := by
      rcases Tb_le hb (show 4 ≤ 5 by omega) with hb | ⟨w, w1, w2, w3, w4⟩
      · exact Or.inl hb
      · rcases Nat.eq_zero_or_pos p with z | z
        · exact Or.inl z
        · exact Or.inr ⟨w, w1, w2, by rw [(ok3.2.2.2.1 (p - 1) (by omega)).1]; exact w3, w4⟩
    rw [settle_stop F3 P3.2.2.2.2.2.1 (by omega) (by omega) tb3]
    simp only [oZ]
    rw [k207_239, m207_242 F3, show (0 : Int32) = nI 0 from rfl, mpush_ok F3 P3.2.2.2.2.2.1 (by omega)]
    simp only [oZ]
    rw [k207_245]
    exact hY v v1 v2 hc _ (tkS_both (tkS_both (tkS_both t3 _ _ _) _ _ _) _ _ _) (NTk_fr K3 (mpush_f (by decide)) (mpush_f (by decide)) (mpush_f (by decide)) rfl)
  by_cases z1 : sg b L s1 60
  · rw [if_neg (fun z => z z1), k207_202, k207_207, if_pos (by decide), k207_219]
    exact yes 25 (by omega) (by omega) (by unfold cmpO; rw [if_pos z1]; rfl)
  · rw [if_pos z1]
    by_cases z2 : sg b L s1 62
    · rw [if_neg (fun z => z z2), k207_202, k207_207, if_pos (by decide), k207_219]
      exact yes 26 (by omega) (by omega) (by unfold cmpO; rw [if_neg z1, if_pos z2]; rfl)
    · rw [if_pos z2, k207_202, k207_207, if_neg (by decide), k207_210, m207_213 F', show (61 : Int32) = nI 61 from rfl, mS (c := 61) F' T' K' (by omega)]
      simp only [oM]
      rw [k207_216, bzi]
      by_cases z3 : sg b L s1 61
      · rw [if_neg (fun z => z z3), k207_219]
        exact yes 27 (by omega) (by omega) (by unfold cmpO; rw [if_neg z1, if_neg z2, if_pos z3]; rfl)
      · have e : cmpO b L s1 = none := by unfold cmpO; rw [if_neg z1, if_neg z2, if_neg z3]
        have F1 : MF (badM M' s1) := F'
        rw [if_pos z3, k207_223, m207_224 F', must_n F' K' P'.2.1]
        simp only [oZ]
        show Wp none d 207 227 [(0, .ref 126), (1, .int 1), (2, .int 27), (3, .int x3)] [] (badM M' s1) (WR d 1 Q)
        rw [m207_227 F1, badM_19, k207_231, if_pos (by decide), k207_245]
        exact hN e 1
/-- behind the second sum -/
theorem bs_cmp2 {M0 M' M1 : hp} {b : Nat → Nat} {L s n k c p s1 n1 p1 c1 v : Nat} {o : Bool} {D : Den} (F : MF M0) (T : TR M0 b L) (h : MSet 5 M0 M' M1 b L o s n k c (p + 1) s1 n1 p1 c1 D) (ex : exS b L s1) (hv : hI M0 139 p = nI v) (hv2 : 25 ≤ v ∧ v ≤ 27) (hi : ¬ inF (hI M0 139) p = nI 32) (hQ : WL d 1 Q 2 M') : WL d 1 Q 3 M' := by
  have L4 := T.2.1
  have hin := MSet_in h
  obtain ⟨⟨c', P'⟩, h2, ok, fr, pn, ar, pb⟩ := h
  have F' := MF_pFr F fr
  have T' := TR_pFr T fr
  have hcp := P'.2.2.2.2.2.2.2.2.1
  have hs1 := P'.1.2.2.2.2
  have hi2 : ¬ inF (hI M' 139) p1 = nI 32 := by
    rw [hin.1]
    show ¬ (if 31 ≤ hI M0 139 p then hI M0 139 p else inF (hI M0 139) p) = nI 32
    rw [if_neg (by rw [hv]; show ¬ nI 31 ≤ nI v; rw [n_le (by omega) (by omega)]; omega)]
    exact hi
  refine WL_3 F' P'.2.1 ?_
  rw [bs_test F' T' P' ex hi2]
  obtain ⟨v0, w1, w2, w3⟩ := isCompared_ok F' P'.2.2.2.2.2.1 (by omega)
  have hv0 : v0 = 1 := w2.mpr (by rw [hin.2]; exact cmF_yes hv hv2)
  rw [m207_164 F', w3]
  simp only [oN]
  rw [k207_167, if_neg (by rw [hv0]; decide), k207_170]
  exact hQ
/-- the round bracket's end -/
theorem bt_close {M0 M' M1 : hp} {b : Nat → Nat} {L s n k c p s1 n1 p1 c1 : Nat} {o : Bool} {D : Den} (F : MF M0) (T : TR M0 b L) (h : TSet 1 M0 M' M1 b L o s n (k + 1) c (p + 1) s1 n1 p1 c1 D) (ea : ¬ wrd b L s1 = kwAnd) (eo : ¬ wrd b L s1 = kwOr) (h31 : hI M0 139 p = nI 31) (hN : ¬ sg b L s1 41 → ∀ t, WL d 1 Q t (badM M' s1)) (hY : sg b L s1 41 → ∀ M3, MOk M0 M3 b L o s n (k + 1) c (p + 1) (nx b L s1) n1 c1 D → WL d 1 Q 2 (clsM M3 k p)) : WL d 1 Q 2 M' := by
  have L4 := T.2.1
  obtain ⟨⟨c', P'⟩, h2, ok, fr, pn, hin, hbd⟩ := h
  have hin2 : inF (hI M' 139) p1 = nI 31 := by
    rw [hin]
    show (if 31 ≤ hI M0 139 p then hI M0 139 p else _) = _
    rw [h31, if_pos (by decide)]
  have F' := MF_pFr F fr
  have T' := TR_pFr T fr
  have hcp := P'.2.2.2.2.2.2.2.2.1
  have hs1 := P'.1.2.2.2.2
  refine WL_2 F' P'.2.1 ?_
  rw [bt_head F' P'.1, if_neg ea, if_neg eo, k208_76, m208_77 F', inner_ok F' P'.2.2.2.2.2.1 (by omega), hin2]
  simp only [oN]
  rw [k208_80, k208_81, if_pos (by decide), k208_86, m208_90 F', show (41 : Int32) = nI 41 from rfl, mS F' T' P'.1 (by omega)]
  simp only [oM]
  rw [m208_93 F']
  by_cases z : sg b L s1 41
  · rw [bz_t z]
    refine must_y F' T' P'.1 P'.2.1 (by decide) ?_
    intro M2 t2 K2
    have F2 := MF_agr F' t2.1
    have hnx := nx_gt (b := b) z.1
    simp only [oZ]
    rw [m208_96 F2, t2.2.1 19 (by decide) (by decide) (by decide), P'.2.1, k208_100, if_neg (by decide), k208_103, m208_105 F2, show (1 : Int32) = nI 1 from rfl]
    obtain ⟨M3, t3, te, st⟩ := pn M2 t2
    refine st 1 d _ (by omega) ?_
    have ok3 := MOk_tk ok t3 (NTk_tokE K2 te) (Nat.le_of_lt hnx)
    have F3 := MF_pFr F ok3.1
    have P3 := ok3.2.1
    have tb3 : Tb M3 (p + 1) 1 := Or.inr ⟨31, by omega, by omega, by rw [(ok3.2.2.2.1 (p + 1 - 1) (by omega)).1]; exact h31, by decide⟩
    rw [settle_stop F3 P3.2.2.2.2.2.1 (by have := P3.2.2.2.2.2.2.2.2.1; have := P3.1.2.2.2.2; omega) (by omega) tb3]
    simp only [oZ]
    have F4 : MF (sI M3 126 29 (nI p)) := F3
    rw [m208_108 F3, P3.2.2.2.2.2.1, nI_pred, m208_118 F4, hI_sI_k (by decide), P3.2.2.2.1, nI_pred, k208_128]
    exact hY z M3 ok3
  · have F1 : MF (badM M' s1) := F'
    rw [bz_f z, must_n F' P'.1 P'.2.1]
    simp only [oZ]
    show Wp none d 208 96 [(0, .ref 126), (1, .int 0)] [] (badM M' s1) (WR d 1 Q)
    rw [m208_96 F1, badM_19, k208_100, if_pos (by decide), k208_128]
    exact hN z 2
theorem TSet_cmp {M0 M1 M2 M' M3 : hp} {b : Nat → Nat} {L s n k c p s1 n1 c1 s' s3 n3 p3 c3 v : Nat} {o : Bool} {D D1 : Den} (F : MF M0) (h : MOk M0 M1 b L o s n k c p s1 n1 c1 D) (hs : s1 < s') (hv : 25 ≤ v ∧ v ≤ 27) (t : tkS (mpush M1 p (nI v) (nI 0)) M2) (h2 : MSet 5 M2 M' M3 b L o s' n1 k c1 (p + 1) s3 n3 p3 c3 D1) (hL : L ≤ 400) : TSet 3 M0 M' (popE M3 c3 p v) b L o s n k c p s3 n3 p3 (c3 + 1) (binD (nI (v - 18)) D D1) := by
  have hin := (MSet_in h2).1
  obtain ⟨P', q2, ok3, fr, pn, ar, pb⟩ := h2
  obtain ⟨e1, e2, e3, e4, e5, e6⟩ := MOk_bin h hs (by omega) t ok3 hL
  have fr2 : pFr M0 M2 := pFr_trans h.1 (pFr_trans (mpush_fr _ _ _ _) (tkS_pFr t))
  have F3 : MF M3 := MF_pFr F (pFr_trans fr2 ok3.1)
  have n139 : ([126] : List Nat).contains 139 = false := by decide
  have e0 : hI M2 139 p = nI v := by rw [agr_I t.1 n139, mpush_op, if_pos rfl]
  refine ⟨P', by omega, e6, pFr_trans fr2 fr, Pn_pop (Pn_le pn (by omega)) F3 e1 e4 (by omega) (by omega) e2 ?_ e3 e5, ?_, isBD_cmp ?_⟩
  · have : v = 25 ∨ v = 26 ∨ v = 27 := by omega
    rcases this with rfl | rfl | rfl <;> decide
  · rw [hin]
    show (if 31 ≤ hI M2 139 p then hI M2 139 p else inF (hI M2 139) p) = _
    rw [if_neg (by rw [e0]; show ¬ nI 31 ≤ nI v; rw [n_le (by omega) (by omega)]; omega)]
    exact inF_cong p (fun j hj => by rw [agr_I t.1 n139, mpush_op, if_neg (by omega)]; exact (h.2.2.2.1 j hj).1)
  · have : v = 25 ∨ v = 26 ∨ v = 27 := by omega
    rcases this with rfl | rfl | rfl
    · exact Or.inl rfl
    · exact Or.inr (Or.inl rfl)
    · exact Or.inr (Or.inr rfl)
/-- without "not" -/
theorem coreR {b : Nat → Nat} {L : Nat} {o : Bool} {g k : Nat} (hk : k + g = 8) (ih : ∀ g', g = g' + 1 → TestR 3 4 b L o (k + 1) d Q (fun _ => True) (pPlain b L o g')) {s n c p : Nat} (F : MF M) (T : TR M b L) (W : MWd M) (P : PS M b L o s n k c p) (Tb0 : Tb M p 4) (I0 : ¬ inF (hI M 139) p = nI 32) (hnot : ¬ wrd b L s = kwNot) (H : TK 3 M b L o s n k c p d Q (fun _ => True) (coreP b L o g s n)) : Wp none d 206 0 [(0, .ref 126)] [] M (WR d 1 Q) := by
  have L4 := T.2.1
  have hcp := P.2.2.2.2.2.2.2.2.1
  rw [k206_0, m206_4 F, mIsWord F P.1 (show kwOk kwNot = true by decide) (show (14836 : Int64) = lN (wcode kwNot) by decide)]
  simp only [oN]
  rw [k206_7, bzi, if_pos hnot, k206_23, m206_26 F, show (40 : Int32) = nI 40 from rfl, mS F T P.1 (by omega)]
  simp only [oN]
  rw [k206_29, bzi]
  unfold coreP at H
  by_cases c1 : sg b L s 40
  · rw [if_pos c1] at H
    rw [if_neg (fun z => z c1), k206_32, m206_35 F, show (31 : Int32) = nI 31 from rfl]
    cases g with
    | zero =>
      rw [open_n F P (by omega) (by omega)]
      simp only [oZ]
      rw [k206_38]
      exact H (badM M s) 0 (badM_Bd P L4)
    | succ g' =>
      have hnx := nx_gt (b := b) c1.1
      refine open_y F T P (by omega) (by have := c1.1; omega) ?_
      intro M1 t1 K1
      simp only [oZ]
      rw [k206_38]
      have fr := opnM_fr t1 k p 31
      have F2 := MF_pFr F fr
      have T2 := TR_pFr T fr
      have P2 := PS_open (v := 31) P t1 K1 hnx (by omega)
      have h31 : hI (opnM M1 k p 31) 139 p = nI 31 := by rw [opnM_op, if_pos rfl]
      have S := testR (bothR (ih g' rfl))
      show WL d 1 Q 0 (opnM M1 k p 31)
      refine WL_0 F2 P2.2.1 ?_
      refine S _ (nx b L s) n c (p + 1) F2 T2 (MWd_pFr W fr) P2 (Or.inr ⟨31, by omega, by omega, by rw [Nat.add_sub_cancel]; exact h31, by decide⟩) ?_ ?_
      · show ¬ (if 31 ≤ hI (opnM M1 k p 31) 139 p then hI (opnM M1 k p 31) 139 p else _) = nI 32
        rw [h31, if_pos (by decide)]
        decide
      · have H2 : TK 3 M b L o s n k c p d Q (fun _ => True) (clos b L 41 (chainP b L (orF b L) (chainP b L (andF b L) (pPlain b L o g')) (nx b L s) n)) := H
        cases hp : chainP b L (orF b L) (chainP b L (andF b L) (pPlain b L o g')) (nx b L s) n with
        | inl q =>
          rw [hp] at H2
          intro M4 t bd
          exact H2 M4 t (Bd_pre fr bd)
        | inr x =>
          obtain ⟨s1, n1, D⟩ := x
          rw [hp] at H2
          have H2 : TK 3 M b L o s n k c p d Q (fun _ => True) (if sg b L s1 41 then .inr (nx b L s1, n1, D) else .inl s1) := H2
          intro M' M5 p1 c5 hset ex
          refine bt_close F2 T2 hset ex.1.2 ex.2 h31 ?_ ?_
          · intro z t
            rw [if_neg z] at H2
            obtain ⟨⟨c', P'⟩, _, _, fr', _⟩ := hset
            exact H2 _ t (Bd_pre (pFr_trans fr fr') (badM_Bd P' L4))
          · intro z M3 ok3
            rw [if_pos z] at H2
            have ok4 := MOk_close P t1 hnx ok3
            exact H2 _ _ p c5 ⟨⟨c5, ok4.2.1⟩, Nat.le_refl _, ok4, ok4.1, Pn_refl _ _, inF_cong p (fun j hj => (ok4.2.2.2.1 j hj).1), hset.2.2.2.2.2.2⟩ trivial
  · rw [if_neg c1] at H
    rw [if_pos c1, k206_40, m206_41 F]
    have S := sumR (termR (partR (b := b) (L := L) (o := o) (ts := 1) (d := d) (Q := Q) g k hk))
    have back : ∀ r M', WR d 1 Q r M' → Wp none d 206 44 [(0, .ref 126)] (r.toList ++ []) M' (WR d 1 Q) := by
      intro r M' hr
      have hr2 := hr
      unfold WR at hr2
      split at hr2
      · simp only [oN]
        rw [k206_44]
        exact hr
      · exact absurd hr2 id
    refine Wp.mono ?_ back
    refine S M s n c p F T W P (Tb_le Tb0 (by omega)) ?_
    have H2 : TK 3 M b L o s n k c p d Q (fun _ => True) (match chainP b L (addF b L) (pTerm b L (pPart b L o g)) s n with
      | .inl q => .inl q
      | .inr (s1, n1, D1) => match cmpO b L s1 with
        | none => .inl s1
        | some op => match chainP b L (addF b L) (pTerm b L (pPart b L o g)) (nx b L s1) n1 with
          | .inl q => .inl q
          | .inr (s2, n2, D2) => .inr (s2, n2, binD op D1 D2)) := H
    cases hp : chainP b L (addF b L) (pTerm b L (pPart b L o g)) s n with
    | inl q =>
      rw [hp] at H2
      exact H2
    | inr x =>
      obtain ⟨s1, n1, D1⟩ := x
      rw [hp] at H2
      have H2 : TK 3 M b L o s n k c p d Q (fun _ => True) (match cmpO b L s1 with
        | none => .inl s1
        | some op => match chainP b L (addF b L) (pTerm b L (pPart b L o g)) (nx b L s1) n1 with
          | .inl q => .inl q
          | .inr (s2, n2, D2) => .inr (s2, n2, binD op D1 D2)) := H2
      intro M' M1 p1 c1' hset ex
      refine bs_cmp F T hset ex Tb0 I0 ?_ ?_
      · intro e t
        rw [e] at H2
        obtain ⟨⟨c', P'⟩, _, _, fr', _⟩ := hset
        exact H2 _ t (Bd_pre fr' (badM_Bd P' L4))
      · intro v v1 v2 hc M2 t2 K2
        rw [hc] at H2
        have hsl := (cmp_v hc).2
        have hnx := nx_gt (b := b) hsl
        have ok := hset.2.2.1
        have fr2 : pFr M M2 := pFr_trans ok.1 (pFr_trans (mpush_fr _ _ _ _) (tkS_pFr t2))
        have F2 := MF_pFr F fr2
        have T2 := TR_pFr T fr2
        have P2 := PS_push ok.2.1 (show 20 ≤ v ∧ v ≤ 32 by omega) (show 0 < 400 by omega) t2 K2 hnx
        have e0 : hI M2 139 p = nI v := by rw [agr_I t2.1 (show ([126] : List Nat).contains 139 = false by decide), mpush_op, if_pos rfl]
        refine WL_1 F2 P2.2.1 ?_
        refine S M2 (nx b L s1) n1 c1' (p + 1) F2 T2 (MWd_pFr W fr2) P2 (Tb_push (by omega) t2 (by
          have : v = 25 ∨ v = 26 ∨ v = 27 := by omega
          rcases this with rfl | rfl | rfl <;> decide)) ?_
        have H3 : TK 3 M b L o s n k c p d Q (fun _ => True) (match chainP b L (addF b L) (pTerm b L (pPart b L o g)) (nx b L s1) n1 with
          | .inl q => .inl q
          | .inr (s2, n2, D2) => .inr (s2, n2, binD (nI (v - 18)) D1 D2)) := H2
        cases hp2 : chainP b L (addF b L) (pTerm b L (pPart b L o g)) (nx b L s1) n1 with
        | inl q =>
          rw [hp2] at H3
          intro M4 t bd
          exact H3 M4 t (Bd_pre fr2 bd)
        | inr y =>
          obtain ⟨s2, n2, D2⟩ := y
          rw [hp2] at H3
          intro M4 M5 p4 c4 set4 ex4
          refine bs_cmp2 F2 T2 set4 ex4 e0 ⟨v1, v2⟩ ?_ ?_
          · rw [inF_cong (P' := hI M 139) p (fun j hj => by rw [agr_I t2.1 (show ([126] : List Nat).contains 139 = false by decide), mpush_op, if_neg (by omega)]; exact (ok.2.2.2.1 j hj).1)]
            exact I0
          · exact H3 M4 _ p4 _ (TSet_cmp F ok hnx ⟨v1, v2⟩ t2 set4 L4) trivial
theorem plain_step {b : Nat → Nat} {L : Nat} {o : Bool} {g k : Nat} (hk : k + g = 8) (ih : ∀ g', g = g' + 1 → TestR 3 4 b L o (k + 1) d Q (fun _ => True) (pPlain b L o g')) : TestR 3 4 b L o k d Q (fun _ => True) (pPlain b L o g) := by
  have key : ∀ (f : Nat) (M : hp) (s n c p : Nat), L ≤ s + f → MF M → TR M b L → MWd M → PS M b L o s n k c p → Tb M p 4 → ¬ inF (hI M 139) p = nI 32 → TK 3 M b L o s n k c p d Q (fun _ => True) (turn (nots b L f s false).2 (coreP b L o g (nots b L f s false).1 n)) → Wp none d 206 0 [(0, .ref 126)] [] M (WR d 1 Q) := by
    intro f
    induction f with
    | zero =>
      intro M s n c p hf F T W P Tb0 I0 H
      refine coreR hk ih F T W P Tb0 I0 (fun z => by have := kw_lt (show lett kwNot = true by decide) z; omega) ?_
      have H : TK 3 M b L o s n k c p d Q (fun _ => True) (turn false (coreP b L o g s n)) := H
      cases hc : coreP b L o g s n with
      | inl q => rw [hc] at H; exact H
      | inr x =>
        obtain ⟨s1, n1, D⟩ := x
        rw [hc] at H
        exact H
    | succ f ihf =>
      intro M s n c p hf F T W P Tb0 I0 H
      have L4 := T.2.1
      have hcp := P.2.2.2.2.2.2.2.2.1
      by_cases z : wrd b L s = kwNot
      · have e : nots b L (f + 1) s false = nots b L f (nx b L s) true := by
          show (if wrd b L s = kwNot then _ else _) = _
          rw [if_pos z]
          rfl
        have e2 := nots_flip b L f (nx b L s) false
        rw [e, show (true : Bool) = !false from rfl, e2] at H
        have hsL := kw_lt (show lett kwNot = true by decide) z
        have hnx := nx_gt (b := b) hsL
        rw [k206_0, m206_4 F, mIsWord F P.1 (show kwOk kwNot = true by decide) (show (14836 : Int64) = lN (wcode kwNot) by decide)]
        simp only [oN]
        rw [k206_7, bzi, if_neg (fun w => w z), k206_10, m206_14 F, show (28 : Int32) = nI 28 from rfl, show (0 : Int32) = nI 0 from rfl, mpush_ok F P.2.2.2.2.2.1 (by omega)]
        simp only [oZ]
        have F4 : MF (mpush M p (nI 28) (nI 0)) := F
        have T4 : TR (mpush M p (nI 28) (nI 0)) b L := TR_pFr T (mpush_fr _ _ _ _)
        rw [k206_17, m206_18 F4]
        refine next_ok F4 T4 (by rw [mpush_f (by decide)]; exact P.1.2.1) (tkE_le P.1.2.2.2.2) ?_
        intro M2 t2 K2
        simp only [oZ]
        rw [k206_21]
        have fr2 : pFr M M2 := pFr_trans (mpush_fr _ _ _ _) (tkS_pFr t2)
        have F2 := MF_pFr F fr2
        have P2 := PS_push P (show 20 ≤ 28 ∧ 28 ≤ 32 by omega) (show 0 < 400 by omega) t2 K2 hnx
        have n139 : ([126] : List Nat).contains 139 = false := by decide
        have n140 : ([126] : List Nat).contains 140 = false := by decide
        have n137 : ([126] : List Nat).contains 137 = false := by decide
        have n138 : ([126] : List Nat).contains 138 = false := by decide
        have e0 : hI M2 139 p = nI 28 := by rw [agr_I t2.1 n139, mpush_op, if_pos rfl]
        have eIn : inF (hI M2 139) (p + 1) = inF (hI M 139) p := by
          show (if 31 ≤ hI M2 139 p then hI M2 139 p else inF (hI M2 139) p) = _
          rw [if_neg (by rw [e0]; decide)]
          exact inF_cong p (fun j hj => by rw [agr_I t2.1 n139, mpush_op, if_neg (by omega)])
        show WL d 1 Q 0 M2
        refine WL_0 F2 P2.2.1 ?_
        refine ihf M2 (nx b L s) n c (p + 1) (by omega) F2 (TR_pFr T fr2) (MWd_pFr W fr2) P2 (Tb_push (by omega) t2 (by decide)) (by rw [eIn]; exact I0) ?_
        have hbd := core_BD (b := b) (L := L) (o := o) g (nots b L f (nx b L s) false).1 n
        generalize nots b L f (nx b L s) false = r at *
        obtain ⟨s', t⟩ := r
        have H : TK 3 M b L o s n k c p d Q (fun _ => True) (turn (!t) (coreP b L o g s' n)) := H
        show TK 3 M2 b L o (nx b L s) n k c (p + 1) d Q (fun _ => True) (turn t (coreP b L o g s' n))
        have hbd : ∀ s1 n1 D, coreP b L o g s' n = .inr (s1, n1, D) → isBD D := hbd
        cases hc : coreP b L o g s' n with
        | inl q =>
          rw [hc] at H
          intro M4 t' bd
          exact H M4 t' (Bd_pre fr2 bd)
        | inr x =>
          obtain ⟨s1, n1, D⟩ := x
          rw [hc] at H
          have H : ∀ M' M1 p1 c1, TSet 3 M M' M1 b L o s n k c p s1 n1 p1 c1 (if (!t) = true then notD D else D) → True → WL d 1 Q 2 M' := H
          have hD := hbd s1 n1 D hc
          intro M4 M5 p4 c4 set4 _
          have set4 : TSet 3 M2 M4 M5 b L o (nx b L s) n k c (p + 1) s1 n1 p4 c4 (if t = true then notD D else D) := set4
          have eD : notD (if t = true then notD D else D) = if (!t) = true then notD D else D := by
            cases t
            · rfl
            · exact notD_notD hD
          obtain ⟨P', q2, ok5, fr5, pn, hin, hbd2⟩ := set4
          obtain ⟨b1, b2, b3, b4, b5, b6, b7⟩ := ok5
          have hs3 := b2.1.2.2.2.2
          have hcp3 := b2.2.2.2.2.2.2.2.2.1
          have hc3 := b5.1
          have F5 : MF M5 := MF_pFr F2 b1
          have et : hI M5 139 p = nI 28 := by rw [(b4 p (by omega)).1]; exact e0
          have frp : pFr M5 (popE M5 c4 p 28) := pFr_trans (pFr_f (pFr_refl M5) (by decide)) (memit_fr _ _ _ _)
          have pp := memit_pile (sI M5 126 29 (nI p)) c4 (nI 28) 0
          have ep : ∀ j, j < p → hI (popE M5 c4 p 28) 139 j = hI M 139 j ∧ hI (popE M5 c4 p 28) 140 j = hI M 140 j := fun j hj => by
            have := b4 j (by omega)
            unfold popE
            rw [pp.1, pp.2, hI_sI_a (by decide), hI_sI_a (by decide), this.1, this.2, agr_I t2.1 n139, agr_I t2.1 n140, mpush_op, mpush_at, if_neg (by omega), if_neg (by omega)]
            exact ⟨rfl, rfl⟩
          have eo : ∀ j, ¬ j = c4 → hI (popE M5 c4 p 28) 137 j = hI M5 137 j ∧ hI (popE M5 c4 p 28) 138 j = hI M5 138 j := fun j hj => by
            unfold popE
            rw [memit_op, memit_arg, if_neg hj, if_neg hj, hI_sI_a (by decide), hI_sI_a (by decide)]
            exact ⟨rfl, rfl⟩
          have ef : ∀ j, ¬ j = 23 → ¬ j = 29 → hI (popE M5 c4 p 28) 126 j = hI M5 126 j := fun j h1 h2 => by
            unfold popE
            rw [memit_f h1, hI_sI_k h2]
          obtain ⟨p1, p2, p3, p4', p5, p6, p7, p8, p9, p10⟩ := b2
          have pc := mpush_code M p (nI 28) (nI 0)
          refine H M4 (popE M5 c4 p 28) p4 (c4 + 1) ⟨P', by omega, ⟨pFr_trans fr2 (pFr_trans b1 frp), ⟨NTk_fr p1 (ef _ (by decide) (by decide)) (ef _ (by decide) (by decide)) (ef _ (by decide) (by decide)) rfl, (ef _ (by decide) (by decide)).trans p2, (ef _ (by decide) (by decide)).trans p3, (ef _ (by decide) (by decide)).trans p4', ?_, ?_, (ef _ (by decide) (by decide)).trans p7, p8, by omega, PV_cong P.2.2.2.2.2.2.2.2.2 ep⟩, ?_, ep, ?_, by omega, by omega⟩, pFr_trans fr2 fr5, Pn_pop pn F5 p6 (by omega) (by omega) (by omega) et (by decide) p5 (by omega), hin.trans eIn, by rw [← eD]; exact isBD_not _⟩ trivial
          · unfold popE; exact memit_23 _ _ _ _
          · unfold popE; rw [memit_f (by decide), hI_sI_s]
          · intro j hj
            have := b3 j hj
            rw [(eo j (by omega)).1, (eo j (by omega)).2, this.1, this.2, agr_I t2.1 n137, agr_I t2.1 n138, pc.1, pc.2]
            exact ⟨rfl, rfl⟩
          · rw [← eD]
            refine SegR_not (SegR_cong b5 (fun j q1 q2 => ?_)) hbd2 ?_
            · rw [(eo j (by omega)).1, (eo j (by omega)).2]
              exact ⟨rfl, rfl⟩
            · unfold popE; rw [memit_op, if_pos rfl]; rfl
      · have e : nots b L (f + 1) s false = (s, false) := by
          show (if wrd b L s = kwNot then _ else _) = _
          rw [if_neg z]
        rw [e] at H
        refine coreR hk ih F T W P Tb0 I0 z ?_
        have H : TK 3 M b L o s n k c p d Q (fun _ => True) (turn false (coreP b L o g s n)) := H
        cases hc : coreP b L o g s n with
        | inl q => rw [hc] at H; exact H
        | inr x =>
          obtain ⟨s1, n1, D⟩ := x
          rw [hc] at H
          exact H
  intro M s n c p F T W P Tb0 I0 H
  rw [plain_core] at H
  exact key 400 M s n c p (by have := T.2.1; omega) F T W P Tb0 I0 H
/-- what can be turned, as the reference reads it -/
theorem plainR {b : Nat → Nat} {L : Nat} {o : Bool} : ∀ (g k : Nat), k + g = 8 → TestR 3 4 b L o k d Q (fun _ => True) (pPlain b L o g) := by
  intro g
  induction g with
  | zero =>
    intro k hk
    exact plain_step hk (fun g' e => absurd e (by omega))
  | succ g ih =>
    intro k hk
    exact plain_step hk (fun g' e => by cases e; exact ih (k + 1) (by omega))
