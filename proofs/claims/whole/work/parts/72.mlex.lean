variable {d : Nat} {M : hp} {Q : Option Value → hp → Prop}
/-! the reference's tokens -/
def TR (M : hp) (b : Nat → Nat) (L : Nat) : Prop := hI M 126 13 = nI L ∧ L ≤ 400 ∧ (∀ i, i < L → hI M 135 i = nI (b i)) ∧ ∀ i, b i < 256
theorem TR_of {M M' : hp} {b : Nat → Nat} {L : Nat} (T : TR M b L) (e : hI M' 126 13 = hI M 126 13) (e2 : hI M' 135 = hI M 135) : TR M' b L := by
  unfold TR at *
  rw [e, e2]
  exact T
def srt (b : Nat → Nat) (L s : Nat) : Nat := if L ≤ s then 0 else if isL (b s) = true then 1 else if isD (b s) = true then 2 else 3
def lhF : List Nat → Nat → Int64 → Int64
  | [], _, a => a
  | c :: t, k, a => lhF t (k + 1) (if k < 10 then a * 32 + (nI c).toInt64 - 96 else -1)
def dwF : List Nat → Int64 → Int64
  | [], a => a
  | c :: t, a => dwF t (if 1000000 < a then a else a * 10 + (nI c).toInt64 - 48)
def wv (b : Nat → Nat) (L s : Nat) : Int64 := if L ≤ s then 0 else if isL (b s) = true then lhF (wrd b L s) 0 0 else if isD (b s) = true then dwF (wrd b L s) 0 else (nI (b s)).toInt64
def NTk (M : hp) (b : Nat → Nat) (L s : Nat) : Prop := hI M 126 14 = nI s ∧ hI M 126 15 = nI (tkE b L s) ∧ hI M 126 16 = nI (srt b L s) ∧ hL M 126 17 = wv b L s ∧ s ≤ L
/-- from M on only the token's fields have changed -/
def tkS (M M' : hp) : Prop := agr [126] M M' ∧ (∀ k, ¬ k = 14 → ¬ k = 15 → ¬ k = 16 → hI M' 126 k = hI M 126 k) ∧ ∀ k, ¬ k = 17 → hL M' 126 k = hL M 126 k
theorem tkS_refl (M : hp) : tkS M M := ⟨agr_refl _ _, fun _ _ _ _ => rfl, fun _ _ => rfl⟩
theorem tkS_sI {M M' : hp} (h : tkS M M') {k : Nat} {v : Int32} (hk : k = 14 ∨ k = 15 ∨ k = 16) : tkS M (sI M' 126 k v) := ⟨agr_trans h.1 (agr_sI (by decide)), fun j h1 h2 h3 => by rw [hI_sI_k (by omega)]; exact h.2.1 j h1 h2 h3, fun j hj => h.2.2 j hj⟩
theorem tkS_sL {M M' : hp} (h : tkS M M') {v : Int64} : tkS M (sL M' 126 17 v) := ⟨agr_trans h.1 (agr_sL (by decide)), h.2.1, fun j hj => by rw [hL_sL_k hj]; exact h.2.2 j hj⟩
theorem MF_agr {E : List Nat} {M M' : hp} (F : MF M) (h : agr E M M') : MF M' := MF_of F (agr_K h) (agr_R h)
theorem isSmall_ok {c : Nat} (hc : c < 256) : Wp none d 186 0 [(0, .int (nI c))] [] M Q = Q (some (.int (bz (isL c = true)))) M := by
  have a1 : ((nI c : Int32) < 97) = (c < 97) := n_lt (b := 97) (by omega) (by omega)
  have a2 : ((122 : Int32) < nI c) = (122 < c) := n_lt (a := 122) (by omega) (by omega)
  rw [k186_0, k186_3, k186_6, k186_9, k186_12, k186_16, k186_17 (Or.inl rfl), k186_17 (Or.inr rfl)]
  simp only [a1, a2]
  unfold isL
  by_cases c1 : c < 97
  · rw [if_pos c1, bz_f (by simp; omega)]
  · rw [if_neg c1]
    by_cases c2 : 122 < c
    · rw [if_pos c2, bz_f (by simp; omega)]
    · rw [if_neg c2, bz_t (by simp; omega)]
theorem isDigit_ok {c : Nat} (hc : c < 256) : Wp none d 187 0 [(0, .int (nI c))] [] M Q = Q (some (.int (bz (isD c = true)))) M := by
  have a1 : ((nI c : Int32) < 48) = (c < 48) := n_lt (b := 48) (by omega) (by omega)
  have a2 : ((57 : Int32) < nI c) = (57 < c) := n_lt (a := 57) (by omega) (by omega)
  rw [k187_0, k187_3, k187_6, k187_9, k187_12, k187_16, k187_17 (Or.inl rfl), k187_17 (Or.inr rfl)]
  simp only [a1, a2]
  unfold isD
  by_cases c1 : c < 48
  · rw [if_pos c1, bz_f (by simp; omega)]
  · rw [if_neg c1]
    by_cases c2 : 57 < c
    · rw [if_pos c2, bz_f (by simp; omega)]
    · rw [if_neg c2, bz_t (by simp; omega)]
theorem TR_tk {M M' : hp} {b : Nat → Nat} {L : Nat} (T : TR M b L) (h : tkS M M') : TR M' b L := TR_of T (h.2.1 13 (by decide) (by decide) (by decide)) (agr_I h.1 (by decide))
theorem v400 {p : Nat} (h : p < 400) : vin (nI p) 400 = true := by rw [vin_n (by omega)]; exact decide_eq_true h
theorem next_ok {b : Nat → Nat} {L p : Nat} (F : MF M) (T : TR M b L) (h15 : hI M 126 15 = nI p) (hpL : p ≤ L) (hQ : ∀ M', tkS M M' → NTk M' b L (scn b L isB p) → Q none M') : Wp none d 189 0 [(0, .ref 126)] [] M Q := by
  have L4 := T.2.1
  -- the blanks
  have l1 : ∀ p, p ≤ L → ∀ M1, tkS M M1 → hI M1 126 14 = nI p → (∀ M', tkS M M' → hI M' 126 14 = nI (scn b L isB p) → Wp none d 189 46 [(0, .ref 126)] [] M' Q) → Wp none d 189 8 [(0, .ref 126)] [] M1 Q := by
    refine scn_ind (b := b) (L := L) (f := isB) (fun p => p ≤ L → ∀ M1, tkS M M1 → hI M1 126 14 = nI p → (∀ M', tkS M M' → hI M' 126 14 = nI (scn b L isB p) → Wp none d 189 46 [(0, .ref 126)] [] M' Q) → Wp none d 189 8 [(0, .ref 126)] [] M1 Q) ?_ ?_
    · intro p h h2 ih q M1 t1 e1 k
      have F1 : MF M1 := MF_agr F t1.1
      have T1 := TR_tk T t1
      have e : nI (b p) = 32 := by
        have := of_decide_eq_true h2
        rw [this]; rfl
      rw [scn_y h h2] at k
      rw [m189_8 F1, e1, T1.1, k189_16, lei (by omega) (by omega), if_neg (by omega), m189_19 F1 (by rw [e1]; exact v400 (by omega)), e1, n_cl (by omega), T1.2.2.1 p h, k189_30, if_neg (fun z => z e), m189_33 F1, e1, nI_1]
      exact ih (by omega) _ (tkS_sI t1 (Or.inl rfl)) (hI_sI_s _ _ _ _) k
    · intro p h q M1 t1 e1 k
      have F1 : MF M1 := MF_agr F t1.1
      have T1 := TR_tk T t1
      rw [scn_n h] at k
      rw [m189_8 F1, e1, T1.1, k189_16, lei (by omega) (by omega)]
      by_cases c : L ≤ p
      · rw [if_pos c]
        exact k M1 t1 e1
      · have h3 := h (by omega)
        have hb := T.2.2.2 p
        have e : ¬ nI (b p) = 32 := by
          have := of_decide_eq_false h3
          rw [show (32 : Int32) = nI 32 from rfl, n_eq (by omega) (by omega)]
          exact this
        rw [if_neg c, m189_19 F1 (by rw [e1]; exact v400 (by omega)), e1, n_cl (by omega), T1.2.2.1 p (by omega), k189_30, if_pos e]
        exact k M1 t1 e1
  rw [m189_0 F, h15]
  refine l1 p hpL _ (tkS_sI (tkS_refl M) (Or.inl rfl)) (hI_sI_s _ _ _ _) ?_
  have hs : scn b L isB p ≤ L := scn_le p hpL
  generalize scn b L isB p = s at *
  intro M1 t1 e1
  have F1 : MF M1 := MF_agr F t1.1
  have t3 : tkS M (sL (sI M1 126 15 (nI s)) 126 17 0) := tkS_sL (tkS_sI t1 (Or.inr (Or.inl rfl)))
  have F2 : MF (sI M1 126 15 (nI s)) := F1
  rw [m189_46 F1, e1, m189_54 F2]
  have e14 : hI (sL (sI M1 126 15 (nI s)) 126 17 0) 126 14 = nI s := by rw [hI_sL, hI_sI_k (by decide)]; exact e1
  have e15 : hI (sL (sI M1 126 15 (nI s)) 126 17 0) 126 15 = nI s := by rw [hI_sL, hI_sI_s]
  have e17 : hL (sL (sI M1 126 15 (nI s)) 126 17 0) 126 17 = 0 := hL_sL_s _ _ _ _
  generalize sL (sI M1 126 15 (nI s)) 126 17 0 = M3 at *
  have F3 : MF M3 := MF_agr F t3.1
  have T3 := TR_tk T t3
  -- the sort
  have hsrt : Wp none d 189 59 [(0, .ref 126)] [] M3 Q = Wp none d 189 117 [(0, .ref 126)] [] (sI M3 126 16 (nI (srt b L s))) Q := by
    rw [m189_59 F3, e14, T3.1, k189_68, nej (by omega) (by omega)]
    unfold srt
    by_cases c : s = L
    · rw [if_neg (fun z => z c), if_pos (by omega), k189_71, m189_114 F3]
      rfl
    · have hb := T.2.2.2 s
      rw [if_pos c, if_neg (show ¬ L ≤ s by omega), m189_75 F3 (by rw [e14]; exact v400 (by omega)), e14, n_cl (by omega), T3.2.2.1 s (by omega), k189_84, isSmall_ok hb]
      simp only [oM]
      rw [k189_87, bzi]
      by_cases cL : isL (b s) = true
      · rw [if_neg (fun z => z cL), if_pos cL, k189_90, m189_114 F3]
        rfl
      · rw [if_pos cL, if_neg cL, m189_94 F3 (by rw [e14]; exact v400 (by omega)), e14, n_cl (by omega), T3.2.2.1 s (by omega), k189_103, isDigit_ok hb]
        simp only [oM]
        rw [k189_106, bzi]
        by_cases cD : isD (b s) = true
        · rw [if_neg (fun z => z cD), if_pos cD, k189_109, m189_114 F3]
          rfl
        · rw [if_pos cD, if_neg cD, k189_113, m189_114 F3]
          rfl
  rw [hsrt]
  have t4 : tkS M (sI M3 126 16 (nI (srt b L s))) := tkS_sI t3 (Or.inr (Or.inr rfl))
  have g14 : hI (sI M3 126 16 (nI (srt b L s))) 126 14 = nI s := by rw [hI_sI_k (by decide)]; exact e14
  have g15 : hI (sI M3 126 16 (nI (srt b L s))) 126 15 = nI s := by rw [hI_sI_k (by decide)]; exact e15
  have g16 : hI (sI M3 126 16 (nI (srt b L s))) 126 16 = nI (srt b L s) := hI_sI_s _ _ _ _
  have g17 : hL (sI M3 126 16 (nI (srt b L s))) 126 17 = 0 := e17
  generalize sI M3 126 16 (nI (srt b L s)) = M4 at *
  have F4 : MF M4 := MF_agr F t4.1
  have T4 := TR_tk T t4
  -- the digits
  have l3 : ∀ (k p : Nat) (a : Int64) (M5 : hp), p + k = tkE b L s → s ≤ p → srt b L s = 2 → tkS M M5 → hI M5 126 14 = nI s → hI M5 126 15 = nI p → hI M5 126 16 = nI 2 → hL M5 126 17 = a → (∀ M', tkS M M' → hI M' 126 14 = nI s → hI M' 126 15 = nI (tkE b L s) → hI M' 126 16 = nI 2 → hL M' 126 17 = dwF (ran b p k) a → Q none M') → Wp none d 189 243 [(0, .ref 126)] [] M5 Q := by
    intro k
    induction k with
    | zero =>
      intro p a M5 e hp h2 t5 x1 x2 x3 x4 hk
      have F5 : MF M5 := MF_agr F t5.1
      have T5 := TR_tk T t5
      have hd := scn_end (b := b) (L := L) (f := isD) s
      have c : ¬ (L ≤ s) := fun z => by unfold srt at h2; rw [if_pos z] at h2; omega
      have c2 : isD (b s) = true := by
        unfold srt at h2
        rw [if_neg c] at h2
        split at h2
        · omega
        · split at h2
          · assumption
          · omega
      have et : tkE b L s = scn b L isD s := by unfold tkE; rw [if_neg c, if_neg (fun z => by rw [isL_D z] at c2; exact absurd c2 (by decide)), if_pos c2]
      have hle := tkE_le (b := b) hs
      rw [m189_243 F5, x3, k189_248, if_neg (fun z => z rfl), m189_251 F5, T5.1, x2, k189_259, lei (by omega) (by omega)]
      have done := hk M5 t5 x1 (by rw [x2]; congr 1) x3 x4
      by_cases cp : L ≤ p
      · rw [if_pos cp, k189_335]
        exact done
      · have hb := T.2.2.2 p
        have hpe : p = scn b L isD s := by omega
        have hf := hd (by omega)
        rw [← hpe] at hf
        rw [if_neg cp, m189_262 F5 (by rw [x2]; exact v400 (by omega)), x2, n_cl (by omega), T5.2.2.1 p (by omega), k189_271, isDigit_ok hb]
        simp only [oN]
        rw [k189_274, bzi, if_pos (by rw [hf]; decide), k189_335]
        exact done
    | succ k ih =>
      intro p a M5 e hp h2 t5 x1 x2 x3 x4 hk
      have F5 : MF M5 := MF_agr F t5.1
      have T5 := TR_tk T t5
      have c : ¬ (L ≤ s) := fun z => by unfold srt at h2; rw [if_pos z] at h2; omega
      have c2 : isD (b s) = true := by
        unfold srt at h2
        rw [if_neg c] at h2
        split at h2
        · omega
        · split at h2
          · assumption
          · omega
      have et : tkE b L s = scn b L isD s := by unfold tkE; rw [if_neg c, if_neg (fun z => by rw [isL_D z] at c2; exact absurd c2 (by decide)), if_pos c2]
      have hle := tkE_le (b := b) hs
      have hin := scn_in (b := b) (L := L) (f := isD) s p hp (by omega)
      have hb := T.2.2.2 p
      rw [m189_243 F5, x3, k189_248, if_neg (fun z => z rfl), m189_251 F5, T5.1, x2, k189_259, lei (by omega) (by omega), if_neg (by omega), m189_262 F5 (by rw [x2]; exact v400 (by omega)), x2, n_cl (by omega), T5.2.2.1 p (by omega), k189_271, isDigit_ok hb]
      simp only [oN]
      rw [k189_274, bzi, if_neg (fun z => z hin.1), m189_277 F5, x4, k189_286]
      have fin : ∀ v : Int64, v = (if 1000000 < a then a else a * 10 + (nI (b p)).toInt64 - 48) → Wp none d 189 319 [(0, .ref 126)] [.long v, .ref 126] M5 Q := by
        intro v hv
        rw [m189_319 F5]
        have F6 : MF (sL M5 126 17 v) := F5
        have t6 : tkS M (sL M5 126 17 v) := tkS_sL t5
        rw [m189_322 F6, hI_sL, x2, nI_1]
        refine ih (p + 1) v _ (by omega) (by omega) h2 (tkS_sI t6 (Or.inr (Or.inl rfl))) ?_ (hI_sI_s _ _ _ _) ?_ (hL_sL_s _ _ _ _) ?_
        · rw [hI_sI_k (by decide)]; exact x1
        · rw [hI_sI_k (by decide)]; exact x3
        · rw [hv]
          exact hk
      simp only [lg_cmp_le]
      by_cases cv : a ≤ 1000000
      · rw [if_pos cv, m189_296 F5 (by rw [x2]; exact v400 (by omega)), x4, x2, n_cl (by omega), T5.2.2.1 p (by omega)]
        exact fin _ (by rw [if_neg]; rw [fa_lt64]; rw [fa_le64] at cv; omega)
      · rw [if_neg cv, m189_289 F5, x4]
        exact fin _ (by rw [if_pos]; rw [fa_lt64]; rw [fa_le64] at cv; omega)
  -- the letters
  have l2 : ∀ (k p : Nat) (a : Int64) (M5 : hp), p + k = tkE b L s → s ≤ p → srt b L s = 1 → tkS M M5 → hI M5 126 14 = nI s → hI M5 126 15 = nI p → hI M5 126 16 = nI 1 → hL M5 126 17 = a → (∀ M', tkS M M' → hI M' 126 14 = nI s → hI M' 126 15 = nI (tkE b L s) → hI M' 126 16 = nI 1 → hL M' 126 17 = lhF (ran b p k) (p - s) a → Q none M') → Wp none d 189 149 [(0, .ref 126)] [] M5 Q := by
    intro k
    induction k with
    | zero =>
      intro p a M5 e hp h2 t5 x1 x2 x3 x4 hk
      have F5 : MF M5 := MF_agr F t5.1
      have T5 := TR_tk T t5
      have hd := scn_end (b := b) (L := L) (f := isL) s
      have c : ¬ (L ≤ s) := fun z => by unfold srt at h2; rw [if_pos z] at h2; omega
      have c2 : isL (b s) = true := by
        unfold srt at h2
        rw [if_neg c] at h2
        split at h2
        · assumption
        · split at h2
          · omega
          · omega
      have et : tkE b L s = scn b L isL s := by unfold tkE; rw [if_neg c, if_pos c2]
      have hle := tkE_le (b := b) hs
      have done : Wp none d 189 243 [(0, .ref 126)] [] M5 Q := by
        rw [m189_243 F5, x3, k189_248, if_pos (show ¬ nI 1 = 2 by decide), k189_335]
        exact hk M5 t5 x1 (by rw [x2]; congr 1) x3 x4
      rw [m189_149 F5, x3, k189_154, if_neg (fun z => z rfl), m189_157 F5, T5.1, x2, k189_165, lei (by omega) (by omega)]
      by_cases cp : L ≤ p
      · rw [if_pos cp]
        exact done
      · have hb := T.2.2.2 p
        have hpe : p = scn b L isL s := by omega
        have hf := hd (by omega)
        rw [← hpe] at hf
        rw [if_neg cp, m189_168 F5 (by rw [x2]; exact v400 (by omega)), x2, n_cl (by omega), T5.2.2.1 p (by omega), k189_177, isSmall_ok hb]
        simp only [oN]
        rw [k189_180, bzi, if_pos (by rw [hf]; decide)]
        exact done
    | succ k ih =>
      intro p a M5 e hp h2 t5 x1 x2 x3 x4 hk
      have F5 : MF M5 := MF_agr F t5.1
      have T5 := TR_tk T t5
      have c : ¬ (L ≤ s) := fun z => by unfold srt at h2; rw [if_pos z] at h2; omega
      have c2 : isL (b s) = true := by
        unfold srt at h2
        rw [if_neg c] at h2
        split at h2
        · assumption
        · split at h2
          · omega
          · omega
      have et : tkE b L s = scn b L isL s := by unfold tkE; rw [if_neg c, if_pos c2]
      have hle := tkE_le (b := b) hs
      have hin := scn_in (b := b) (L := L) (f := isL) s p hp (by omega)
      have hb := T.2.2.2 p
      rw [m189_149 F5, x3, k189_154, if_neg (fun z => z rfl), m189_157 F5, T5.1, x2, k189_165, lei (by omega) (by omega), if_neg (by omega), m189_168 F5 (by rw [x2]; exact v400 (by omega)), x2, n_cl (by omega), T5.2.2.1 p (by omega), k189_177, isSmall_ok hb]
      simp only [oN]
      rw [k189_180, bzi, if_neg (fun z => z hin.1), m189_183 F5, x2, x1, n_sub hp, k189_195, show (10 : Int32) = nI 10 from rfl, lei (by omega) (by omega)]
      have fin : ∀ v : Int64, v = (if p - s < 10 then a * 32 + (nI (b p)).toInt64 - 96 else -1) → Wp none d 189 227 [(0, .ref 126)] [.long v, .ref 126] M5 Q := by
        intro v hv
        rw [m189_227 F5]
        have F6 : MF (sL M5 126 17 v) := F5
        have t6 : tkS M (sL M5 126 17 v) := tkS_sL t5
        rw [m189_230 F6, hI_sL, x2, nI_1]
        refine ih (p + 1) v _ (by omega) (by omega) h2 (tkS_sI t6 (Or.inr (Or.inl rfl))) ?_ (hI_sI_s _ _ _ _) ?_ (hL_sL_s _ _ _ _) ?_
        · rw [hI_sI_k (by decide)]; exact x1
        · rw [hI_sI_k (by decide)]; exact x3
        · rw [hv, show p + 1 - s = (p - s) + 1 by omega]
          exact hk
      by_cases cv : 10 ≤ p - s
      · rw [if_pos cv, k189_224]
        exact fin _ (by rw [if_neg (by omega)])
      · rw [if_neg cv, m189_198 F5 (by rw [x2]; exact v400 (by omega)), x4, x2, n_cl (by omega), T5.2.2.1 p (by omega)]
        exact fin _ (by rw [if_pos (by omega)])
  have hge := tkE_ge b L s
  rw [m189_117 F4, g16, k189_122]
  have e3 : (3 : Int32) = nI 3 := rfl
  by_cases c0 : L ≤ s
  · have h0 : srt b L s = 0 := by unfold srt; rw [if_pos c0]
    rw [h0] at g16
    rw [h0, if_pos (show ¬ nI 0 = 3 by decide), m189_149 F4, g16, k189_154, if_pos (show ¬ nI 0 = 1 by decide), m189_243 F4, g16, k189_248, if_pos (show ¬ nI 0 = 2 by decide), k189_335]
    refine hQ M4 t4 ⟨g14, ?_, ?_, ?_, hs⟩
    · rw [tkE_L c0]; exact g15
    · rw [h0]; exact g16
    · unfold wv; rw [if_pos c0]; exact g17
  · by_cases cL : isL (b s) = true
    · have h0 : srt b L s = 1 := by unfold srt; rw [if_neg c0, if_pos cL]
      have g16' := g16
      rw [h0] at g16'
      rw [h0, if_pos (show ¬ nI 1 = 3 by decide)]
      refine l2 (tkE b L s - s) s 0 M4 (by omega) (Nat.le_refl _) h0 t4 g14 g15 g16' g17 ?_
      intro M' y1 y2 y3 y4 y5
      refine hQ M' y1 ⟨y2, y3, by rw [h0]; exact y4, ?_, hs⟩
      rw [y5, Nat.sub_self]
      unfold wv
      rw [if_neg c0, if_pos cL]
      rfl
    · by_cases cD : isD (b s) = true
      · have h0 : srt b L s = 2 := by unfold srt; rw [if_neg c0, if_neg cL, if_pos cD]
        have g16' := g16
        rw [h0] at g16'
        rw [h0, if_pos (show ¬ nI 2 = 3 by decide), m189_149 F4, g16', k189_154, if_pos (show ¬ nI 2 = 1 by decide)]
        refine l3 (tkE b L s - s) s 0 M4 (by omega) (Nat.le_refl _) h0 t4 g14 g15 g16' g17 ?_
        intro M' y1 y2 y3 y4 y5
        refine hQ M' y1 ⟨y2, y3, by rw [h0]; exact y4, ?_, hs⟩
        rw [y5]
        unfold wv
        rw [if_neg c0, if_neg cL, if_pos cD]
        rfl
      · have h0 : srt b L s = 3 := by unfold srt; rw [if_neg c0, if_neg cL, if_neg cD]
        have g16' := g16
        rw [h0] at g16'
        rw [h0, if_neg (fun z => z rfl), m189_125 F4 (by rw [g14]; exact v400 (by omega)), g14, n_cl (by omega), T4.2.2.1 s (by omega)]
        have F5 : MF (sL M4 126 17 (nI (b s)).toInt64) := F4
        rw [m189_139 F5, hI_sL, g15, nI_1]
        have F6 : MF (sI (sL M4 126 17 (nI (b s)).toInt64) 126 15 (nI (s + 1))) := F4
        have g16b : hI (sI (sL M4 126 17 (nI (b s)).toInt64) 126 15 (nI (s + 1))) 126 16 = nI 3 := by rw [hI_sI_k (by decide), hI_sL]; exact g16'
        rw [m189_149 F6, g16b, k189_154, if_pos (show ¬ nI 3 = 1 by decide), m189_243 F6, g16b, k189_248, if_pos (show ¬ nI 3 = 2 by decide), k189_335]
        refine hQ _ (tkS_sI (tkS_sL t4) (Or.inr (Or.inl rfl))) ⟨?_, ?_, ?_, ?_, hs⟩
        · rw [hI_sI_k (by decide), hI_sL]; exact g14
        · rw [hI_sI_s]
          unfold tkE
          rw [if_neg c0, if_neg cL, if_neg cD]
        · rw [h0]; exact g16b
        · unfold wv
          rw [if_neg c0, if_neg cL, if_neg cD]
          exact hL_sL_s _ _ _ _
