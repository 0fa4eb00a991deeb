variable {d : Nat} {M : hp} {Q : Option Value → hp → Prop}
/-- the reader at 109, its tape at 107, its text at 110 -/
def RXF (M : hp) : Prop := (hK M 109).1 = 5 ∧ hR M 109 0 = 107 ∧ hR M 109 1 = 110 ∧ (hK M 107).1 = 6 ∧ hR M 107 0 = 108 ∧ hK M 108 = (20, 400) ∧ (hK M 110).1 = 7 ∧ hR M 110 0 = 111 ∧ hR M 110 1 = 112 ∧ hK M 111 = (20, 400) ∧ hK M 112 = (20, 96)
theorem RXF_of {M M' : hp} (F : RXF M) (e : hK M' = hK M) (e2 : hR M' = hR M) : RXF M' := by
  unfold RXF at *
  rw [e, e2]
  exact F
/-- the bytes on the tape -/
def TB (M : hp) (b : Nat → Nat) (L : Nat) : Prop := hI M 107 1 = nI L ∧ L ≤ 400 ∧ (∀ i, i < L → hI M 108 i = nI (b i)) ∧ ∀ i, b i < 256
theorem TB_of {M M' : hp} {b : Nat → Nat} {L : Nat} (T : TB M b L) (e : hI M' 107 = hI M 107) (e2 : hI M' 108 = hI M 108) : TB M' b L := by
  unfold TB at *
  rw [e, e2]
  exact T
theorem at_tape {b : Nat → Nat} {L p : Nat} (F : RXF M) (T : TB M b L) (hp : p < L) : Wp none d 145 0 [(0, .ref 108), (1, .int (nI p))] [] M Q = Q (some (.int (nI (b p)))) M := by
  rw [T_at F.2.2.2.2.2.1 (by omega) (by omega), gI_n (by have := T.2.1; omega) (by omega), T.2.2.1 p hp]
def kd (c : Nat) : Nat := if isL c = true then 0 else if isD c = true then 1 else 2
theorem kindOf_ok {c : Nat} (hc : c < 256) : Wp none d 60 0 [(0, .int (nI c))] [] M Q = Q (some (.int (nI (kd c)))) M := by
  have a1 : ((nI c : Int32) < 97) = (c < 97) := n_lt (b := 97) (by omega) (by omega)
  have a2 : ((122 : Int32) < nI c) = (122 < c) := n_lt (a := 122) (by omega) (by omega)
  have a3 : ((nI c : Int32) < 48) = (c < 48) := n_lt (b := 48) (by omega) (by omega)
  have a4 : ((57 : Int32) < nI c) = (57 < c) := n_lt (a := 57) (by omega) (by omega)
  rw [k60_0, k60_3, k60_6, k60_9, k60_12, k60_14, k60_17, k60_20, k60_23, k60_26, k60_30, k60_31, k60_31]
  simp only [a1, a2, a3, a4]
  unfold kd isL isD
  simp only [decide_eq_true_eq]
  by_cases c1 : c < 97
  · rw [if_pos c1, if_neg (show ¬ (97 ≤ c ∧ c ≤ 122) by omega)]
    by_cases c3 : c < 48
    · rw [if_pos c3, if_neg (show ¬ (48 ≤ c ∧ c ≤ 57) by omega)]; rfl
    · rw [if_neg c3]
      by_cases c4 : 57 < c
      · rw [if_pos c4, if_neg (show ¬ (48 ≤ c ∧ c ≤ 57) by omega)]; rfl
      · rw [if_neg c4, if_pos (show 48 ≤ c ∧ c ≤ 57 by omega)]; rfl
  · rw [if_neg c1]
    by_cases c2 : 122 < c
    · rw [if_pos c2, if_neg (show ¬ (97 ≤ c ∧ c ≤ 122) by omega), if_neg (show ¬ c < 48 by omega), if_pos (show 57 < c by omega), if_neg (show ¬ (48 ≤ c ∧ c ≤ 57) by omega)]; rfl
    · rw [if_neg c2, if_pos (show 97 ≤ c ∧ c ≤ 122 by omega)]; rfl
theorem kd_lt (c : Nat) : kd c < 3 := by
  unfold kd
  split
  · omega
  · split <;> omega
/-- the token from s to its end -/
def aSt (M : hp) (s e : Nat) : hp := sI (sI M 109 6 (nI s)) 109 7 (nI e)
theorem advance_ok {b : Nat → Nat} {L p : Nat} (F : RXF M) (T : TB M b L) (hp : hI M 109 7 = nI p) (hL : p ≤ L) : Wp none d 59 0 [(0, .ref 109)] [] M Q = Q none (aSt M (scn b L isB p) (tkE b L (scn b L isB p))) := by
  have L4 := T.2.1
  have F1 : ∀ (v : Int32), RXF (sI M 109 6 v) := fun v => RXF_of F rfl rfl
  have T1 : ∀ (v : Int32), TB (sI M 109 6 v) b L := fun v => TB_of T rfl rfl
  -- the blanks
  have l1 : ∀ p, p ≤ L → Wp none d 59 8 [(0, .ref 109)] [] (sI M 109 6 (nI p)) Q = Wp none d 59 54 [(0, .ref 109)] [] (sI M 109 6 (nI (scn b L isB p))) Q := by
    refine scn_ind (b := b) (L := L) (f := isB) (fun p => p ≤ L → Wp none d 59 8 [(0, .ref 109)] [] (sI M 109 6 (nI p)) Q = Wp none d 59 54 [(0, .ref 109)] [] (sI M 109 6 (nI (scn b L isB p))) Q) ?_ ?_
    · intro p h h2 ih q
      have e : nI (b p) = 32 := by
        have := of_decide_eq_true h2
        rw [this]; rfl
      rw [scn_y h h2, ← ih (by omega)]
      rw [k59_8 (M := sI M 109 6 (nI p)) F.1 (by rw [hR_sI, F.2.1]; omega) (by rw [hR_sI, F.2.1]; exact F.2.2.2.1), hR_sI, F.2.1, hI_sI_s, show hI (sI M 109 6 (nI p)) 107 1 = nI L from T.1, k59_19, if_neg (by rw [n_le (by omega) (by omega)]; omega)]
      rw [k59_22 (M := sI M 109 6 (nI p)) F.1 (by rw [hR_sI, F.2.1]; omega) (by rw [hR_sI, F.2.1]; exact F.2.2.2.1) (by rw [hR_sI, F.2.1, F.2.2.2.2.1]; omega), hR_sI, F.2.1, F.2.2.2.2.1, hI_sI_s, k59_33, at_tape (M := sI M 109 6 (nI p)) (F1 _) (T1 _) h]
      simp only [oN]
      rw [k59_36, k59_38, if_neg (fun z => z e), k59_41 (M := sI M 109 6 (nI p)) F.1, hI_sI_s, nI_1, sI_sI]
    · intro p h q
      rw [scn_n h]
      rw [k59_8 (M := sI M 109 6 (nI p)) F.1 (by rw [hR_sI, F.2.1]; omega) (by rw [hR_sI, F.2.1]; exact F.2.2.2.1), hR_sI, F.2.1, hI_sI_s, show hI (sI M 109 6 (nI p)) 107 1 = nI L from T.1, k59_19]
      by_cases c : L ≤ p
      · rw [if_pos (by rw [n_le (by omega) (by omega)]; exact c)]
      · rw [if_neg (by rw [n_le (by omega) (by omega)]; exact c)]
        have h3 := h (by omega)
        have hb := T.2.2.2 p
        have e : ¬ nI (b p) = 32 := by
          have := of_decide_eq_false h3
          rw [show (32 : Int32) = nI 32 from rfl, n_eq (by omega) (by omega)]
          exact this
        rw [k59_22 (M := sI M 109 6 (nI p)) F.1 (by rw [hR_sI, F.2.1]; omega) (by rw [hR_sI, F.2.1]; exact F.2.2.2.1) (by rw [hR_sI, F.2.1, F.2.2.2.2.1]; omega), hR_sI, F.2.1, F.2.2.2.2.1, hI_sI_s, k59_33, at_tape (M := sI M 109 6 (nI p)) (F1 _) (T1 _) (by omega)]
        simp only [oN]
        rw [k59_36, k59_38, if_pos e]
  rw [k59_0 F.1, hp, l1 p hL]
  have hs : scn b L isB p ≤ L := scn_le p hL
  generalize scn b L isB p = s at *
  have F2 : ∀ (v : Int32), RXF (sI (sI M 109 6 (nI s)) 109 7 v) := fun v => RXF_of F rfl rfl
  have T2 : ∀ (v : Int32), TB (sI (sI M 109 6 (nI s)) 109 7 v) b L := fun v => TB_of T rfl rfl
  have r6 : ∀ v, hI (sI (sI M 109 6 (nI s)) 109 7 v) 109 6 = nI s := fun v => by rw [hI_sI_k (by decide), hI_sI_s]
  rw [k59_54 (M := sI M 109 6 (nI s)) F.1, hI_sI_s]
  unfold aSt
  rw [k59_62 (M := sI (sI M 109 6 (nI s)) 109 7 (nI s)) F.1 (by rw [hR_sI, hR_sI, F.2.1]; omega) (by rw [hR_sI, hR_sI, F.2.1]; exact F.2.2.2.1), hR_sI, hR_sI, F.2.1, r6, show hI (sI (sI M 109 6 (nI s)) 109 7 (nI s)) 107 1 = nI L from T.1, k59_73]
  by_cases c : s < L
  · have hb := T.2.2.2 s
    rw [if_pos (by rw [n_lt (by omega) (by omega)]; exact c), k59_77 (M := sI (sI M 109 6 (nI s)) 109 7 (nI s)) F.1 (by rw [hR_sI, hR_sI, F.2.1]; omega) (by rw [hR_sI, hR_sI, F.2.1]; exact F.2.2.2.1) (by rw [hR_sI, hR_sI, F.2.1, F.2.2.2.2.1]; omega), hR_sI, hR_sI, F.2.1, F.2.2.2.2.1, r6, k59_88, at_tape (M := sI (sI M 109 6 (nI s)) 109 7 (nI s)) (F2 _) (T2 _) c]
    simp only [oN]
    rw [k59_91, kindOf_ok hb]
    simp only [oN]
    rw [k59_94 (M := sI (sI M 109 6 (nI s)) 109 7 (nI s)) F.1, hI_sI_s, nI_1, sI_sI]
    -- the others of its kind
    have l2 : ∀ (f : Nat → Bool) (kk : Nat), kk < 2 → (∀ c, (f c = true) = (kd c = kk)) → ∀ p, p ≤ L → Wp none d 59 105 [(0, .ref 109), (1, .int (nI kk))] [] (sI (sI M 109 6 (nI s)) 109 7 (nI p)) Q = Q none (sI (sI M 109 6 (nI s)) 109 7 (nI (scn b L f p))) := by
      intro f kk hk hf
      have step : ∀ p, p ≤ L → Wp none d 59 105 [(0, .ref 109), (1, .int (nI kk))] [] (sI (sI M 109 6 (nI s)) 109 7 (nI p)) Q = if p < L ∧ f (b p) = true then Wp none d 59 105 [(0, .ref 109), (1, .int (nI kk))] [] (sI (sI M 109 6 (nI s)) 109 7 (nI (p + 1))) Q else Q none (sI (sI M 109 6 (nI s)) 109 7 (nI p)) := by
        intro p q
        rw [k59_105, k59_107, if_neg (by rw [show (2 : Int32) = nI 2 from rfl, n_eq (by omega) (by omega)]; omega), k59_110 (M := sI (sI M 109 6 (nI s)) 109 7 (nI p)) F.1 (by rw [hR_sI, hR_sI, F.2.1]; omega) (by rw [hR_sI, hR_sI, F.2.1]; exact F.2.2.2.1), hR_sI, hR_sI, F.2.1, hI_sI_s, show hI (sI (sI M 109 6 (nI s)) 109 7 (nI p)) 107 1 = nI L from T.1, k59_121]
        by_cases c1 : L ≤ p
        · rw [if_pos (by rw [n_le (by omega) (by omega)]; exact c1), k59_158, if_neg (by omega)]
        · have hb2 := T.2.2.2 p
          have k3 := kd_lt (b p)
          rw [if_neg (by rw [n_le (by omega) (by omega)]; exact c1), k59_124 (M := sI (sI M 109 6 (nI s)) 109 7 (nI p)) F.1 (by rw [hR_sI, hR_sI, F.2.1]; omega) (by rw [hR_sI, hR_sI, F.2.1]; exact F.2.2.2.1) (by rw [hR_sI, hR_sI, F.2.1, F.2.2.2.2.1]; omega), hR_sI, hR_sI, F.2.1, F.2.2.2.2.1, hI_sI_s, k59_135, at_tape (M := sI (sI M 109 6 (nI s)) 109 7 (nI p)) (F2 _) (T2 _) (by omega)]
          simp only [oN]
          rw [k59_138, kindOf_ok hb2]
          simp only [oN]
          rw [k59_141, k59_142, nej (by omega) (by omega)]
          by_cases c2 : kd (b p) = kk
          · rw [if_neg (fun z => z c2), if_pos ⟨by omega, by rw [hf]; exact c2⟩, k59_145 (M := sI (sI M 109 6 (nI s)) 109 7 (nI p)) F.1, hI_sI_s, nI_1, sI_sI]
          · rw [if_pos c2, k59_158, if_neg (fun z => by rw [hf] at z; exact c2 z.2)]
      refine scn_ind (b := b) (L := L) (f := f) (fun p => p ≤ L → Wp none d 59 105 [(0, .ref 109), (1, .int (nI kk))] [] (sI (sI M 109 6 (nI s)) 109 7 (nI p)) Q = Q none (sI (sI M 109 6 (nI s)) 109 7 (nI (scn b L f p)))) ?_ ?_
      · intro p h h2 ih q
        rw [scn_y h h2, step p q, if_pos ⟨h, h2⟩]
        exact ih (by omega)
      · intro p h q
        rw [scn_n h, step p q, if_neg (fun z => by rw [h z.1] at z; exact absurd z.2 (by decide))]
    unfold tkE
    rw [if_neg (by omega)]
    by_cases cL : isL (b s) = true
    · rw [if_pos cL, show kd (b s) = 0 by unfold kd; rw [if_pos cL], l2 isL 0 (by omega) (fun c => by
        unfold kd
        apply propext
        by_cases z : isL c = true
        · simp [z]
        · by_cases z2 : isD c = true
          · simp [z, z2]
          · simp [z, z2]) (s + 1) (by omega), scn_y c cL]
    · rw [if_neg cL]
      by_cases cD : isD (b s) = true
      · rw [if_pos cD, show kd (b s) = 1 by unfold kd; rw [if_neg cL, if_pos cD], l2 isD 1 (by omega) (fun c => by
          unfold kd
          apply propext
          by_cases z : isL c = true
          · simp [z, isL_D z]
          · by_cases z2 : isD c = true
            · simp [z, z2]
            · simp [z, z2]) (s + 1) (by omega), scn_y c cD]
      · rw [if_neg cD, show kd (b s) = 2 by unfold kd; rw [if_neg cL, if_neg cD], k59_105, k59_107, if_pos (by decide), k59_158]
  · rw [if_neg (by rw [n_lt (by omega) (by omega)]; exact c), k59_76]
    unfold tkE
    rw [if_pos (by omega)]
/-- the reader's place -/
def RTk (M : hp) (b : Nat → Nat) (L s : Nat) : Prop := hI M 109 6 = nI s ∧ hI M 109 7 = nI (tkE b L s) ∧ s ≤ L
theorem RTk_next {b : Nat → Nat} {L s : Nat} (F : RXF M) (T : TB M b L) (K : RTk M b L s) : Wp none d 59 0 [(0, .ref 109)] [] M Q = Q none (aSt M (nx b L s) (tkE b L (nx b L s))) := advance_ok F T K.2.1 (tkE_le K.2.2)
theorem aSt_tk {b : Nat → Nat} {L s : Nat} (h : s ≤ L) : RTk (aSt M s (tkE b L s)) b L s := ⟨by unfold aSt; rw [hI_sI_k (by decide), hI_sI_s], by unfold aSt; rw [hI_sI_s], h⟩
/-- a sign that is neither a letter nor a digit -/
theorem isSign_ok {b : Nat → Nat} {L s c : Nat} (F : RXF M) (T : TB M b L) (K : RTk M b L s) (hc : c < 256) (hL : isL c = false) (hD : isD c = false) : Wp none d 61 0 [(0, .ref 109), (1, .int (nI c))] [] M Q = Q (some (.int (bz (sg b L s c)))) M := by
  have L4 := T.2.1
  have e1 := tkE_ge b L s
  have e2 := tkE_le (b := b) K.2.2
  have hs := K.2.2
  rw [k61_0 F.1, K.1, K.2.1, n_sub e1, k61_10, show (1 : Int32) = nI 1 from rfl, nej (by omega) (by omega)]
  by_cases c1 : s < L
  · have hb := T.2.2.2 s
    by_cases c2 : tkE b L s - s = 1
    · rw [if_neg (fun z => z c2), k61_13 F.1 (by rw [F.2.1]; omega) (by rw [F.2.1]; exact F.2.2.2.1) (by rw [F.2.1, F.2.2.2.2.1]; omega), F.2.1, F.2.2.2.2.1, K.1, k61_24, at_tape F T c1]
      simp only [oN]
      rw [k61_27, k61_28, nej (by omega) (by omega), k61_31, k61_35, k61_36 (Or.inr rfl), k61_36 (Or.inl rfl)]
      by_cases c3 : b s = c
      · rw [if_neg (fun z => z c3), bz_t ⟨c1, c3⟩]
      · rw [if_pos c3, bz_f (fun z => c3 z.2)]
    · have c3 : ¬ b s = c := by
        intro z
        apply c2
        unfold tkE
        rw [if_neg (by omega), z, if_neg (by rw [hL]; decide), if_neg (by rw [hD]; decide)]
        omega
      rw [if_pos c2, k61_35, k61_36 (Or.inl rfl), bz_f (fun z => c3 z.2)]
  · rw [if_pos (by rw [tkE_L (by omega)]; omega), k61_35, k61_36 (Or.inl rfl), bz_f (fun z => c1 z.1)]
/-! words -/
theorem list_eq_get {x y : List Nat} : (x = y) ↔ x.length = y.length ∧ ∀ i, i < x.length → x.getD i 0 = y.getD i 0 := by
  constructor
  · intro h; subst h; exact ⟨rfl, fun _ _ => rfl⟩
  · intro h
    apply List.ext_getElem h.1
    intro i h1 h2
    have := h.2 i h1
    rw [List.getD_eq_getElem?_getD, List.getD_eq_getElem?_getD, List.getElem?_eq_getElem h1, List.getElem?_eq_getElem h2] at this
    exact this
def cut (x : List Nat) (f t : Nat) : List Nat := (x.drop f).take (t - f)
theorem cut_get {x : List Nat} {f t i : Nat} (h : i < t - f) : (cut x f t).getD i 0 = x.getD (f + i) 0 := by
  unfold cut
  rw [List.getD_eq_getElem?_getD, List.getElem?_take, if_pos h, List.getElem?_drop, List.getD_eq_getElem?_getD]
theorem isWord_ok {b : Nat → Nat} {L s q f t : Nat} (F : RXF M) (T : TB M b L) (K : RTk M b L s) (hq : 2 ≤ q) (hq2 : q < 13) (hft : f ≤ t) (ht : t ≤ (kSs.getD q []).length) (h400 : (kSs.getD q []).length ≤ 400) (h256 : ∀ i, (kSs.getD q []).getD i 0 < 256) : Wp none d 63 0 [(0, .ref 109), (1, .ref q), (2, .int (nI f)), (3, .int (nI t))] [] M Q = Q (some (.int (bz (wrd b L s = cut (kSs.getD q []) f t)))) M := by
  have L4 := T.2.1
  have e1 := tkE_ge b L s
  have e2 := tkE_le (b := b) K.2.2
  have hs := K.2.2
  have hlen : (wrd b L s).length = tkE b L s - s := ran_len _ _ _
  have hlen2 : (cut (kSs.getD q []) f t).length = t - f := by
    unfold cut
    rw [List.length_take, List.length_drop]
    omega
  rw [k63_0 F.1, K.1, K.2.1, n_sub e1, n_sub hft, k63_12, nei (by omega) (by omega), k63_15]
  by_cases c1 : tkE b L s - s = t - f
  · rw [if_pos c1, k63_17, if_neg (nI_pos (show f < 2 ^ 31 by omega))]
    have key : ∀ k i, i + k = t - f → (∀ j, j < i → b (s + j) = (kSs.getD q []).getD (f + j) 0) → Wp none d 63 24 [(0, .ref 109), (1, .ref q), (2, .int (nI f)), (3, .int (nI t)), (4, .int (nI (f + i)))] [] M Q = Q (some (.int (bz (∀ j, j < t - f → b (s + j) = (kSs.getD q []).getD (f + j) 0)))) M := by
      intro k
      induction k with
      | zero =>
        intro i e hi
        rw [k63_24, k63_27, if_pos (by rw [n_le (by omega) (by omega)]; omega), k63_95, bz_t]
        intro j hj
        exact hi j (by omega)
      | succ k ih =>
        intro i e hi
        have v1 : vin (nI (s + i)) 400 = true := by rw [vin_n (by omega)]; exact decide_eq_true (by omega)
        have v2 : vin (nI (f + i)) (kSs.getD q []).length = true := by rw [vin_n (by omega)]; exact decide_eq_true (by omega)
        have hb := T.2.2.2 (s + i)
        have hw := h256 (f + i)
        rw [k63_24, k63_27, if_neg (by rw [n_le (by omega) (by omega)]; omega), k63_30 hq hq2, k63_36, nI_def, if_neg (by rw [n_le (by omega) (by omega)]; omega), k63_39 F.1, K.1, nI_add, n_sub (by omega), show s + (f + i) - f = s + i by omega, k63_52, if_neg (nI_pos (show s + i < 2 ^ 31 by omega))]
        rw [k63_55 F.1 (by rw [F.2.1]; omega) (by rw [F.2.1]; exact F.2.2.2.1) (by rw [F.2.1, F.2.2.2.2.1]; omega) (by rw [F.2.1, F.2.2.2.2.1]; omega) (by rw [F.2.1, F.2.2.2.2.1, F.2.2.2.2.2.1]; omega), k63_65, F.2.1, F.2.2.2.2.1, F.2.2.2.2.2.1, nI_def, if_neg (by
          show ¬ nI 400 ≤ nI (s + i)
          rw [n_le (by omega) (by omega)]; omega)]
        rw [k63_68 F.1 (by rw [F.2.1]; omega) (by rw [F.2.1]; exact F.2.2.2.1) (by rw [F.2.1, F.2.2.2.2.1]; omega) (by rw [F.2.1, F.2.2.2.2.1]; omega) (by rw [F.2.1, F.2.2.2.2.1, F.2.2.2.2.2.1]) (by rw [F.2.1, F.2.2.2.2.1, F.2.2.2.2.2.1]; exact v1) hq hq2 v2, F.2.1, F.2.2.2.2.1, n_cl (by omega), n_cl (by omega), T.2.2.1 (s + i) (by omega), k63_84, nI_def, nei (by omega) (by omega)]
        by_cases c2 : b (s + i) = (kSs.getD q []).getD (f + i) 0
        · rw [if_pos c2, k63_89, nI_1, show f + i + 1 = f + (i + 1) by omega]
          refine ih (i + 1) (by omega) ?_
          intro j hj
          by_cases z : j = i
          · subst z; exact c2
          · exact hi j (by omega)
        · rw [if_neg c2, k63_87, bz_f (fun z => c2 (z i (by omega)))]
    have := key (t - f) 0 (by omega) (fun j hj => absurd hj (by omega))
    rw [Nat.add_zero] at this
    rw [this]
    congr 3
    unfold bz
    congr 1
    apply propext
    rw [list_eq_get, hlen, hlen2]
    constructor
    · intro h
      refine ⟨c1, fun i hi => ?_⟩
      rw [cut_get (by omega), ← h i (by omega)]
      unfold wrd
      rw [ran_get b _ _ i hi]
    · intro h j hj
      have w := h.2 j (by omega)
      rw [cut_get hj] at w
      unfold wrd at w
      rw [ran_get b _ _ j (by omega)] at w
      exact w
  · rw [if_neg c1, bz_f]
    intro z
    apply c1
    rw [← hlen, ← hlen2, z]
/-- the search of a word among some with blanks between -/
def wsF (x t : List Nat) : Nat → Nat → Nat → Nat → Int32
  | 0, i, f, idx => if t = cut x f i then nI idx else -1
  | k + 1, i, f, idx => if x.getD i 0 = 32 then (if t = cut x f i then nI idx else wsF x t k (i + 1) (i + 1) (idx + 1)) else wsF x t k (i + 1) f idx
theorem wordIn_ok {b : Nat → Nat} {L s q : Nat} (F : RXF M) (T : TB M b L) (K : RTk M b L s) (hq : 2 ≤ q) (hq2 : q < 13) (h400 : (kSs.getD q []).length ≤ 400) (h256 : ∀ i, (kSs.getD q []).getD i 0 < 256) : Wp none d 62 0 [(0, .ref 109), (1, .ref q)] [] M Q = Q (some (.int (wsF (kSs.getD q []) (wrd b L s) (kSs.getD q []).length 0 0 0))) M := by
  have key : ∀ k i f idx, i + k = (kSs.getD q []).length → f ≤ i → idx ≤ i → Wp none d 62 7 [(0, .ref 109), (1, .ref q), (2, .int (nI idx)), (3, .int (nI f)), (4, .int (nI i))] [] M Q = Q (some (.int (wsF (kSs.getD q []) (wrd b L s) k i f idx))) M := by
    intro k
    induction k with
    | zero =>
      intro i f idx e hf hx
      rw [k62_7 hq hq2, k62_13, nI_def, if_neg (by rw [n_lt (by omega) (by omega)]; omega), k62_16 hq hq2, k62_22, nI_def, if_pos (by rw [n_eq (by omega) (by omega)]; omega), k62_36, k62_41 F.1, isWord_ok F T K hq hq2 hf (by omega) h400 h256]
      simp only [oN]
      rw [k62_44, bzi]
      show _ = Q (some (.int (if _ then _ else _))) M
      by_cases c : wrd b L s = cut (kSs.getD q []) f i
      · rw [if_neg (fun z => z c), if_pos c, k62_47]
      · rw [if_pos c, if_neg c, k62_49, k62_57, nI_1, nI_1, k62_7 hq hq2, k62_13, nI_def, if_pos (by rw [n_lt (by omega) (by omega)]; omega), k62_63]
    | succ k ih =>
      intro i f idx e hf hx
      have v2 : vin (nI i) (kSs.getD q []).length = true := by rw [vin_n (by omega)]; exact decide_eq_true (by omega)
      have hw := h256 i
      rw [k62_7 hq hq2, k62_13, nI_def, if_neg (by rw [n_lt (by omega) (by omega)]; omega), k62_16 hq hq2, k62_22, nI_def, if_neg (by rw [n_eq (by omega) (by omega)]; omega), k62_25 hq hq2 v2, k62_33, n_cl (by omega), nI_def, show (32 : Int32) = nI 32 from rfl, nej (by omega) (by omega)]
      show _ = Q (some (.int (if _ then (if _ then _ else _) else _))) M
      by_cases c0 : (kSs.getD q []).getD i 0 = 32
      · rw [if_neg (fun z => z c0), if_pos c0, k62_36, k62_41 F.1, isWord_ok F T K hq hq2 hf (by omega) h400 h256]
        simp only [oN]
        rw [k62_44, bzi]
        by_cases c : wrd b L s = cut (kSs.getD q []) f i
        · rw [if_neg (fun z => z c), if_pos c, k62_47]
        · rw [if_pos c, if_neg c, k62_49, k62_57, nI_1, nI_1]
          exact ih (i + 1) (i + 1) (idx + 1) (by omega) (by omega) (by omega)
      · rw [if_pos c0, if_neg c0, k62_57, nI_1]
        exact ih (i + 1) f idx (by omega) (by omega) (by omega)
  rw [k62_0]
  exact key (kSs.getD q []).length 0 0 0 (by omega) (by omega) (by omega)
/-- an index as an answer -/
def ixI (o : Option Nat) : Int32 := match o with
  | none => -1
  | some j => nI j
def wixI : List (List Nat) → List Nat → Nat → Int32
  | [], _, _ => -1
  | w :: r, t, i => if t = w then nI i else wixI r t (i + 1)
theorem wixI_ix : ∀ (l : List (List Nat)) (t : List Nat) (i : Nat), wixI l t i = ixI ((wix l t).map (fun j => j + i))
  | [], _, _ => rfl
  | w :: r, t, i => by
    unfold wixI wix
    by_cases c : t = w
    · rw [if_pos c, if_pos c]
      show nI i = nI (0 + i)
      rw [Nat.zero_add]
    · rw [if_neg c, if_neg c, wixI_ix r t (i + 1)]
      cases wix r t with
      | none => rfl
      | some j =>
        show nI (j + (i + 1)) = nI (j + 1 + i)
        congr 1
        omega
theorem wixI_0 (l : List (List Nat)) (t : List Nat) : wixI l t 0 = ixI (wix l t) := by
  rw [wixI_ix]
  cases wix l t <;> rfl
theorem ws_2 (t : List Nat) : wsF (kSs.getD 2 []) t (kSs.getD 2 []).length 0 0 0 = ixI (wix kwO t) := by rw [← wixI_0]; rfl
theorem ws_3 (t : List Nat) : wsF (kSs.getD 3 []) t (kSs.getD 3 []).length 0 0 0 = ixI (wix kwOW t) := by rw [← wixI_0]; rfl
theorem ws_4 (t : List Nat) : wsF (kSs.getD 4 []) t (kSs.getD 4 []).length 0 0 0 = ixI (wix kwLW t) := by rw [← wixI_0]; rfl
theorem ws_8 (t : List Nat) : wsF (kSs.getD 8 []) t (kSs.getD 8 []).length 0 0 0 = ixI (wix kwL t) := by rw [← wixI_0]; rfl
theorem ws_5 (t : List Nat) : wsF (kSs.getD 5 []) t (kSs.getD 5 []).length 0 0 0 = if t = kwOn then 0 else -1 := rfl
theorem ws_6 (t : List Nat) : wsF (kSs.getD 6 []) t (kSs.getD 6 []).length 0 0 0 = if t = kwIn then 0 else -1 := rfl
theorem ws_7 (t : List Nat) : wsF (kSs.getD 7 []) t (kSs.getD 7 []).length 0 0 0 = if t = kwTimes then 0 else -1 := rfl
theorem ws_9 (t : List Nat) : wsF (kSs.getD 9 []) t (kSs.getD 9 []).length 0 0 0 = if t = kwIf then 0 else -1 := rfl
theorem ws_10 (t : List Nat) : wsF (kSs.getD 10 []) t (kSs.getD 10 []).length 0 0 0 = if t = kwNot then 0 else -1 := rfl
theorem ws_11 (t : List Nat) : wsF (kSs.getD 11 []) t (kSs.getD 11 []).length 0 0 0 = if t = kwAnd then 0 else -1 := rfl
theorem ws_12 (t : List Nat) : wsF (kSs.getD 12 []) t (kSs.getD 12 []).length 0 0 0 = if t = kwOr then 0 else -1 := rfl
theorem ss_ok : ∀ q, q < 13 → (kSs.getD q []).length ≤ 400 ∧ ∀ i, (kSs.getD q []).getD i 0 < 256 := by
  intro q hq
  have h1 : ∀ q, q < 13 → (kSs.getD q []).length ≤ 400 ∧ (kSs.getD q []).all (fun c => decide (c < 256)) = true := by decide +kernel
  refine ⟨(h1 q hq).1, fun i => ?_⟩
  by_cases c : i < (kSs.getD q []).length
  · have := List.all_eq_true.mp (h1 q hq).2 _ (List.getElem_mem c)
    rw [List.getD_eq_getElem?_getD, List.getElem?_eq_getElem c]
    exact of_decide_eq_true this
  · rw [List.getD_eq_getElem?_getD, List.getElem?_eq_none (by omega)]
    show (0 : Nat) < 256
    omega
/-! numbers -/
theorem numberIn_ok {b : Nat → Nat} {L s lo hi : Nat} (F : RXF M) (T : TB M b L) (K : RTk M b L s) (h1 : lo ≤ hi) (h2 : hi ≤ 1000) : Wp none d 64 0 [(0, .ref 109), (1, .int (nI lo)), (2, .int (nI hi))] [] M Q = Q (some (.int (ixI (nmI b L s lo hi)))) M := by
  have L4 := T.2.1
  have e1 := tkE_ge b L s
  have e2 := tkE_le (b := b) K.2.2
  have hs := K.2.2
  rw [k64_0 F.1, K.1]
  by_cases c1 : s < L
  · have gt := tkE_gt (b := b) c1
    by_cases c2 : isD (b s) = true
    · -- a number
      have hin : ∀ p, s ≤ p → p < tkE b L s → isD (b p) = true := by
        intro p q1 q2
        unfold tkE at q2
        rw [if_neg (by omega), if_neg (fun z => by rw [isL_D z] at c2; exact absurd c2 (by decide)), if_pos c2] at q2
        exact (scn_in s p q1 q2).1
      have key : ∀ k p a, p + k = tkE b L s → s ≤ p → a ≤ 1001 → Wp none d 64 8 [(0, .ref 109), (1, .int (nI lo)), (2, .int (nI hi)), (3, .int (nI a)), (4, .int (nI p))] [] M Q = Wp none d 64 65 [(0, .ref 109), (1, .int (nI lo)), (2, .int (nI hi)), (3, .int (nI (nvF (ran b p k) a))), (4, .int (nI (tkE b L s)))] [] M Q := by
        intro k
        induction k with
        | zero =>
          intro p a e hp ha
          have : p = tkE b L s := by omega
          rw [k64_8 F.1, K.2.1, k64_14, if_pos (by rw [n_le (by omega) (by omega)]; omega), this]
          rfl
        | succ k ih =>
          intro p a e hp ha
          have hb := T.2.2.2 p
          have hd := hin p hp (by omega)
          have hd2 := of_decide_eq_true hd
          have kk : kd (b p) = 1 := by
            unfold kd
            rw [if_neg (fun z => by rw [isL_D z] at hd; exact absurd hd (by decide)), if_pos hd]
          rw [k64_8 F.1, K.2.1, k64_14, if_neg (by rw [n_le (by omega) (by omega)]; omega), k64_17 F.1 (by rw [F.2.1]; omega) (by rw [F.2.1]; exact F.2.2.2.1) (by rw [F.2.1, F.2.2.2.2.1]; omega), F.2.1, F.2.2.2.2.1, k64_26, at_tape F T (by omega)]
          simp only [oN]
          rw [k64_29, k64_33, kindOf_ok hb, kk]
          simp only [oN]
          rw [k64_36, k64_37, if_pos (show nI 1 = 1 from rfl), k64_42, show (10 : Int32) = nI 10 from rfl, show (48 : Int32) = nI 48 from rfl, n_mul, nI_add, n_sub (by omega), nI_1]
          have e3 : (if (1001 : Int32) < nI (a * 10 + b p - 48) then 1001 else nI (a * 10 + b p - 48)) = nI (min (a * 10 + b p - 48) 1001) := by
            by_cases z : 1001 < a * 10 + b p - 48
            · rw [if_pos (by show nI 1001 < _; rw [n_lt (by omega) (by omega)]; exact z), Nat.min_eq_right (by omega)]; rfl
            · rw [if_neg (by show ¬ nI 1001 < _; rw [n_lt (by omega) (by omega)]; exact z), Nat.min_eq_left (by omega)]
          rw [e3]
          exact ih (p + 1) _ (by omega) (by omega) (by omega)
      have nv1 : ∀ (l : List Nat) (a : Nat), a ≤ 1001 → nvF l a ≤ 1001 := by
        intro l
        induction l with
        | nil => intro a h; exact h
        | cons c r ih => intro a h; exact ih _ (by omega)
      rw [show (0 : Int32) = nI 0 from rfl, key (tkE b L s - s) s 0 (by omega) (Nat.le_refl s) (by omega)]
      have h1001 := nv1 (ran b s (tkE b L s - s)) 0 (by omega)
      rw [show nvF (ran b s (tkE b L s - s)) 0 = nv b L s from rfl] at *
      unfold nmI
      rw [k64_65 F.1, K.1, K.2.1, k64_73, if_neg (by rw [n_le (by omega) (by omega)]; omega), k64_76, k64_78, lti (by omega) (by omega), k64_81, k64_83, lti (by omega) (by omega), k64_86, k64_90, k64_91, k64_91]
      by_cases c3 : nv b L s < lo
      · rw [if_pos c3, if_neg (by omega)]; rfl
      · rw [if_neg c3]
        by_cases c4 : hi < nv b L s
        · rw [if_pos c4, if_neg (by omega)]; rfl
        · rw [if_neg c4, if_pos ⟨c1, c2, by omega, by omega⟩]; rfl
    · have hb := T.2.2.2 s
      have k3 := kd_lt (b s)
      have kk : ¬ kd (b s) = 1 := by
        unfold kd
        split
        · omega
        · omega
      rw [show nmI b L s lo hi = none by unfold nmI; rw [if_neg (fun z => c2 z.2.1)]]
      rw [k64_8 F.1, K.2.1, k64_14, if_neg (by rw [n_le (by omega) (by omega)]; omega), k64_17 F.1 (by rw [F.2.1]; omega) (by rw [F.2.1]; exact F.2.2.2.1) (by rw [F.2.1, F.2.2.2.2.1]; omega), F.2.1, F.2.2.2.2.1, k64_26, at_tape F T c1]
      simp only [oN]
      rw [k64_29, k64_33, kindOf_ok hb]
      simp only [oN]
      rw [k64_36, k64_37, if_neg (by rw [show (1 : Int32) = nI 1 from rfl, n_eq (by omega) (by omega)]; exact kk), k64_40]
      rfl
  · rw [show nmI b L s lo hi = none by unfold nmI; rw [if_neg (fun z => c1 z.1)]]
    rw [k64_8 F.1, K.2.1, k64_14, tkE_L (by omega), if_pos (by rw [n_le (by omega) (by omega)]; omega), k64_65 F.1, K.1, K.2.1, k64_73, tkE_L (by omega), if_pos (by rw [n_le (by omega) (by omega)]; omega), k64_90, k64_91]
    rfl
