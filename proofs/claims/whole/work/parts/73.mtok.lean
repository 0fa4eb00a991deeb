variable {d : Nat} {M : hp} {Q : Option Value → hp → Prop}
/-! words by their numbers -/
theorem lN_ti62 {n : Nat} (h : n < 2 ^ 63) : (lN n).toInt = (n : Int) := Int64.toInt_ofNat_of_lt h
theorem lN_inj62 {a b : Nat} (ha : a < 2 ^ 63) (hb : b < 2 ^ 63) : (lN a = lN b) = (a = b) := by
  apply propext
  constructor
  · intro h
    have := congrArg Int64.toInt h
    rw [lN_ti62 ha, lN_ti62 hb] at this
    omega
  · intro h; rw [h]
theorem lN_m1 {n : Nat} (h : n < 2 ^ 63) : ¬ (-1 : Int64) = lN n := by
  intro q
  have := congrArg Int64.toInt q
  rw [lN_ti62 h] at this
  have e : (-1 : Int64).toInt = -1 := rfl
  omega
def hshR : List Nat → Nat
  | [] => 0
  | c :: t => hshR t * 32 + (c - 96)
theorem hshR_inj : ∀ (l x : List Nat), l.all isL = true → x.all isL = true → hshR l = hshR x → l = x
  | [], [], _, _, _ => rfl
  | [], c :: t, _, h2, e => by
    simp only [List.all_cons, Bool.and_eq_true] at h2
    have := of_decide_eq_true h2.1
    unfold hshR at e
    omega
  | c :: t, [], h1, _, e => by
    simp only [List.all_cons, Bool.and_eq_true] at h1
    have := of_decide_eq_true h1.1
    unfold hshR at e
    omega
  | c :: t, c' :: t', h1, h2, e => by
    simp only [List.all_cons, Bool.and_eq_true] at h1 h2
    have a1 := of_decide_eq_true h1.1
    have a2 := of_decide_eq_true h2.1
    unfold hshR at e
    have e1 : c = c' := by omega
    have e2 : hshR t = hshR t' := by omega
    rw [e1, hshR_inj t t' h1.2 h2.2 e2]
theorem hshR_lt : ∀ (l : List Nat), l.all isL = true → hshR l < 32 ^ l.length
  | [], _ => by decide
  | c :: t, h => by
    simp only [List.all_cons, Bool.and_eq_true] at h
    have a := of_decide_eq_true h.1
    have ih := hshR_lt t h.2
    unfold hshR
    rw [List.length_cons, Nat.pow_succ]
    omega
theorem pow32 {k : Nat} (h : k ≤ 10) : 32 ^ k ≤ 2 ^ 50 := by
  have : 32 ^ k ≤ 32 ^ 10 := Nat.pow_le_pow_right (by decide) h
  exact Nat.le_trans this (by decide)
theorem lhF_big : ∀ (l : List Nat) (k : Nat) (a : Int64), 10 ≤ k → l ≠ [] → lhF l k a = -1
  | [], _, _, _, h => absurd rfl h
  | [c], k, a, h, _ => by
    show (if k < 10 then _ else (-1 : Int64)) = -1
    rw [if_neg (by omega)]
  | c :: c' :: t, k, a, h, _ => by
    show lhF (c' :: t) (k + 1) _ = -1
    exact lhF_big (c' :: t) (k + 1) _ (by omega) (by simp)
theorem lhF_h : ∀ (l r : List Nat), l.all isL = true → r.all isL = true → r.length ≤ 10 → lhF l r.length (lN (hshR r)) = if r.length + l.length ≤ 10 then lN (hshR (l.reverseAux r)) else if l = [] then lN (hshR r) else -1
  | [], r, _, _, h => by
    show lN (hshR r) = _
    rw [if_pos (by simpa using h)]
    rfl
  | c :: t, r, h1, h2, h => by
    have hh := h1
    simp only [List.all_cons, Bool.and_eq_true] at h1
    have a1 := of_decide_eq_true h1.1
    show lhF t (r.length + 1) (if r.length < 10 then lN (hshR r) * 32 + (nI c).toInt64 - 96 else -1) = _
    by_cases c1 : r.length < 10
    · have e : lN (hshR r) * 32 + (nI c).toInt64 - 96 = lN (hshR (c :: r)) := by
        rw [nI_l (by omega), show (32 : Int64) = lN 32 from rfl, show (96 : Int64) = lN 96 from rfl, lN_mul, lN_add, lN_sub (by omega), Nat.add_sub_assoc (show 96 ≤ c by omega)]
        rfl
      rw [if_pos c1, e]
      have ih := lhF_h t (c :: r) h1.2 (by simp only [List.all_cons, Bool.and_eq_true]; exact ⟨h1.1, h2⟩) (by simp; omega)
      rw [List.length_cons] at ih
      rw [ih, List.length_cons]
      by_cases c2 : r.length + (t.length + 1) ≤ 10
      · rw [if_pos (by omega), if_pos c2]
        rfl
      · have c3 : ¬ t = [] := by
          intro z
          subst z
          exact c2 (by simp; omega)
        rw [if_neg (by omega), if_neg c2, if_neg c3, if_neg (List.cons_ne_nil c t)]
    · rw [if_neg c1, if_neg (by simp; omega), if_neg (List.cons_ne_nil c t)]
      by_cases c3 : t = []
      · subst c3
        rfl
      · exact lhF_big t _ _ (by omega) c3
def wcode (x : List Nat) : Nat := hshR x.reverse
theorem all_rev (x : List Nat) (h : x.all isL = true) : x.reverse.all isL = true := by
  rw [List.all_eq_true] at *
  intro c hc
  exact h c (List.mem_reverse.mp hc)
theorem wrd_all {b : Nat → Nat} {L s : Nat} (h : srt b L s = 1) : (wrd b L s).all isL = true := by
  rw [List.all_eq_true]
  intro c hc
  obtain ⟨i, h1, h2⟩ := ran_mem b _ _ _ hc
  have c0 : ¬ (L ≤ s) := fun z => by unfold srt at h; rw [if_pos z] at h; omega
  have c2 : isL (b s) = true := by
    unfold srt at h
    rw [if_neg c0] at h
    split at h
    · assumption
    · split at h
      · omega
      · omega
  have et : tkE b L s = scn b L isL s := by unfold tkE; rw [if_neg c0, if_pos c2]
  rw [h2]
  exact (scn_in (b := b) (L := L) (f := isL) s (s + i) (by omega) (by omega)).1
/-- a word of letters, ten at most -/
def kwOk (x : List Nat) : Bool := x.all isL && lett x && decide (x.length ≤ 10)
theorem word_iff {b : Nat → Nat} {L s : Nat} {x : List Nat} (hx : kwOk x = true) : (srt b L s = 1 ∧ wv b L s = lN (wcode x)) ↔ wrd b L s = x := by
  unfold kwOk at hx
  simp only [Bool.and_eq_true] at hx
  obtain ⟨⟨h1, h2⟩, h3⟩ := hx
  have h3 := of_decide_eq_true h3
  have hb : wcode x < 2 ^ 63 := by
    have := hshR_lt _ (all_rev x h1)
    rw [List.length_reverse] at this
    have p := pow32 h3
    unfold wcode
    omega
  constructor
  · intro ⟨q1, q2⟩
    have ha := wrd_all q1
    have c0 : ¬ (L ≤ s) := fun z => by unfold srt at q1; rw [if_pos z] at q1; omega
    have c2 : isL (b s) = true := by
      unfold srt at q1
      rw [if_neg c0] at q1
      split at q1
      · assumption
      · split at q1
        · omega
        · omega
    unfold wv at q2
    rw [if_neg c0, if_pos c2] at q2
    have e := lhF_h (wrd b L s) [] ha rfl (by simp)
    have e0 : lhF (wrd b L s) 0 0 = lhF (wrd b L s) ([] : List Nat).length (lN (hshR [])) := rfl
    rw [e0, e] at q2
    by_cases c3 : ([] : List Nat).length + (wrd b L s).length ≤ 10
    · rw [if_pos c3] at q2
      have c4 : (wrd b L s).length ≤ 10 := by simpa using c3
      have q3 : lN (hshR (wrd b L s).reverse) = lN (wcode x) := q2
      have hl := hshR_lt _ (all_rev _ ha)
      rw [List.length_reverse] at hl
      have p := pow32 c4
      rw [lN_inj62 (by omega) hb] at q3
      have := hshR_inj _ _ (all_rev _ ha) (all_rev _ h1) q3
      exact List.reverse_inj.mp this
    · rw [if_neg c3] at q2
      have c5 : ¬ wrd b L s = [] := by
        intro z
        rw [z] at c3
        exact c3 (by decide)
      rw [if_neg c5] at q2
      exact absurd q2 (lN_m1 hb)
  · intro q
    have hs := kw_lt h2 q
    obtain ⟨r, hr⟩ := wrd_hd (b := b) hs
    have c2 : isL (b s) = true := by
      rw [q] at hr
      rw [hr] at h2
      exact h2
    have q1 : srt b L s = 1 := by unfold srt; rw [if_neg (by omega), if_pos c2]
    refine ⟨q1, ?_⟩
    unfold wv
    rw [if_neg (by omega), if_pos c2]
    have e := lhF_h (wrd b L s) [] (wrd_all q1) rfl (by simp)
    have e0 : lhF (wrd b L s) 0 0 = lhF (wrd b L s) ([] : List Nat).length (lN (hshR [])) := rfl
    rw [e0, e, if_pos (by rw [q]; simpa using h3), q]
    rfl
theorem mIsWord {b : Nat → Nat} {L s : Nat} {x : List Nat} {w : Int64} (F : MF M) (K : NTk M b L s) (hx : kwOk x = true) (hw : w = lN (wcode x)) : Wp none d 190 0 [(0, .ref 126), (1, .long w)] [] M Q = Q (some (.int (bz (wrd b L s = x)))) M := by
  have hi := word_iff (b := b) (L := L) (s := s) hx
  have h4 : srt b L s < 4 := by
    unfold srt
    split
    · omega
    · split
      · omega
      · split <;> omega
  rw [m190_0 F, K.2.2.1, k190_5, show (1 : Int32) = nI 1 from rfl, nej (by omega) (by omega)]
  by_cases c1 : srt b L s = 1
  · rw [if_neg (fun z => z c1), m190_8 F, K.2.2.2.1, k190_14]
    simp only [lg_cmp_eq]
    by_cases c2 : wv b L s = w
    · rw [if_neg (fun z => z c2), k190_17, k190_22 (Or.inr rfl), bz_t (hi.mp ⟨c1, by rw [c2, hw]⟩)]
    · rw [if_pos c2, k190_21, k190_22 (Or.inl rfl), bz_f (fun z => c2 (by rw [hw]; exact (hi.mpr z).2))]
  · rw [if_pos c1, k190_21, k190_22 (Or.inl rfl), bz_f (fun z => c1 (hi.mpr z).1)]
theorem mIsSign {b : Nat → Nat} {L s c : Nat} (F : MF M) (T : TR M b L) (K : NTk M b L s) (hc : c < 256) (hL : isL c = false) (hD : isD c = false) : Wp none d 191 0 [(0, .ref 126), (1, .int (nI c))] [] M Q = Q (some (.int (bz (sg b L s c)))) M := by
  have h4 : srt b L s < 4 := by
    unfold srt
    split
    · omega
    · split
      · omega
      · split <;> omega
  have hb := T.2.2.2 s
  rw [m191_0 F, K.2.2.1, k191_5, show (3 : Int32) = nI 3 from rfl, nej (by omega) (by omega)]
  by_cases c1 : srt b L s = 3
  · have c0 : s < L ∧ isL (b s) = false ∧ isD (b s) = false := by
      unfold srt at c1
      split at c1
      · omega
      · rename_i z0
        split at c1
        · omega
        · rename_i z1
          split at c1
          · omega
          · rename_i z2
            exact ⟨by omega, by simpa using z1, by simpa using z2⟩
    have e : wv b L s = (nI (b s)).toInt64 := by
      unfold wv
      rw [if_neg (by omega), if_neg (by rw [c0.2.1]; decide), if_neg (by rw [c0.2.2]; decide)]
    rw [if_neg (fun z => z c1), m191_8 F, K.2.2.2.1, k191_15, e]
    simp only [lg_cmp_eq, fa_wide_eq]
    rw [nej (by omega) (by omega)]
    by_cases c2 : b s = c
    · rw [if_neg (fun z => z c2), k191_18, k191_23 (Or.inr rfl), bz_t ⟨c0.1, c2⟩]
    · rw [if_pos c2, k191_22, k191_23 (Or.inl rfl), bz_f (fun z => c2 z.2)]
  · rw [if_pos c1, k191_22, k191_23 (Or.inl rfl), bz_f]
    intro z
    apply c1
    unfold srt
    rw [if_neg (by omega), z.2, hL, hD]
    rfl
theorem mIn {a x y : Int64} : Wp none d 152 0 [(0, .long a), (2, .long x), (4, .long y)] [] M Q = Q (some (.int (bz (x ≤ a ∧ a ≤ y)))) M := by
  rw [k152_0, k152_3, k152_6, k152_10, k152_13, k152_17, k152_18 (Or.inl rfl), k152_18 (Or.inr rfl)]
  simp only [lg_cmp_lt, lg_cmp_gt]
  by_cases c1 : a < x
  · rw [if_pos c1, bz_f]
    intro z
    rw [fa_lt64] at c1
    have := z.1
    rw [fa_le64] at this
    omega
  · rw [if_neg c1]
    by_cases c2 : y < a
    · rw [if_pos c2, bz_f]
      intro z
      rw [fa_lt64] at c2
      have := z.2
      rw [fa_le64] at this
      omega
    · rw [if_neg c2, bz_t]
      rw [fa_lt64] at c1 c2
      rw [fa_le64, fa_le64]
      omega
/-- a token that must be so -/
theorem must_bad {x : Int32} (F : MF M) (hb : hI M 126 19 = 1) : Wp none d 192 0 [(0, .ref 126), (1, .int x)] [] M Q = Q none M := by
  rw [m192_0 F, hb, k192_4, if_pos (by decide), m192_24 F, hb, k192_28, if_pos (by decide), k192_35]
theorem must_y {b : Nat → Nat} {L s : Nat} {x : Int32} (F : MF M) (T : TR M b L) (K : NTk M b L s) (hb : hI M 126 19 = 0) (hx : ¬ x = 0) (hQ : ∀ M', tkS M M' → NTk M' b L (nx b L s) → Q none M') : Wp none d 192 0 [(0, .ref 126), (1, .int x)] [] M Q := by
  rw [m192_0 F, hb, k192_4, if_neg (by decide), k192_7, k192_8, if_pos hx, m192_24 F, hb, k192_28, if_neg (by decide), k192_31, m192_32 F]
  refine next_ok F T K.2.1 (tkE_le K.2.2.2.2) ?_
  intro M' a1 a2
  simp only [oZ]
  rw [k192_35]
  exact hQ M' a1 a2
theorem must_n {b : Nat → Nat} {L s : Nat} (F : MF M) (K : NTk M b L s) (hb : hI M 126 19 = 0) : Wp none d 192 0 [(0, .ref 126), (1, .int 0)] [] M Q = Q none (sI (sI M 126 19 1) 126 18 (nI s)) := by
  have F1 : MF (sI M 126 19 1) := F
  have F2 : MF (sI (sI M 126 19 1) 126 18 (nI s)) := F
  rw [m192_0 F, hb, k192_4, if_neg (by decide), k192_7, k192_8, if_neg (by decide), m192_11 F, m192_16 F1, hI_sI_k (by decide), K.1, m192_24 F2, hI_sI_k (by decide), hI_sI_s, k192_28, if_pos (by decide), k192_35]
/-- numbers -/
theorem dw_nv : ∀ (l : List Nat) (a : Nat), (∀ c, c ∈ l → 48 ≤ c ∧ c ≤ 57) → a ≤ 10000009 → ∃ w, dwF l (lN a) = lN w ∧ w ≤ 10000009 ∧ min w 1001 = nvF l (min a 1001)
  | [], a, _, h => ⟨a, rfl, h, rfl⟩
  | c :: t, a, hc, h => by
    have hc1 := hc c List.mem_cons_self
    have key : ∀ v, v ≤ 10000009 → (if (1000000 : Int64) < lN a then lN a else lN a * 10 + (nI c).toInt64 - 48) = lN v → min v 1001 = min (min a 1001 * 10 + c - 48) 1001 → ∃ w, dwF (c :: t) (lN a) = lN w ∧ w ≤ 10000009 ∧ min w 1001 = nvF (c :: t) (min a 1001) := by
      intro v hv e1 e2
      obtain ⟨w, w1, w2, w3⟩ := dw_nv t v (fun x hx => hc x (List.mem_cons_of_mem _ hx)) hv
      refine ⟨w, ?_, w2, ?_⟩
      · show dwF t _ = _
        rw [e1, w1]
      · rw [w3, e2]
        rfl
    by_cases c1 : 1000000 < a
    · exact key a h (by rw [if_pos (by rw [show (1000000 : Int64) = lN 1000000 from rfl]; exact (lN_lt (by omega) (by omega)).mpr c1)]) (by omega)
    · refine key (a * 10 + c - 48) (by omega) ?_ (by omega)
      rw [if_neg (by rw [show (1000000 : Int64) = lN 1000000 from rfl, lN_lt (by omega) (by omega)]; exact c1), nI_l (by omega), show (10 : Int64) = lN 10 from rfl, show (48 : Int64) = lN 48 from rfl, lN_mul, lN_add, lN_sub (by omega)]
theorem dig_all {b : Nat → Nat} {L s : Nat} (h : srt b L s = 2) : s < L ∧ isD (b s) = true ∧ ∀ c, c ∈ wrd b L s → 48 ≤ c ∧ c ≤ 57 := by
  have c0 : ¬ (L ≤ s) := fun z => by unfold srt at h; rw [if_pos z] at h; omega
  have c1 : ¬ isL (b s) = true ∧ isD (b s) = true := by
    unfold srt at h
    rw [if_neg c0] at h
    split at h
    · omega
    · rename_i z
      split at h
      · rename_i z2; exact ⟨z, z2⟩
      · omega
  have et : tkE b L s = scn b L isD s := by unfold tkE; rw [if_neg c0, if_neg c1.1, if_pos c1.2]
  refine ⟨by omega, c1.2, fun c hc => ?_⟩
  obtain ⟨i, h1, h2⟩ := ran_mem b _ _ _ hc
  rw [h2]
  exact of_decide_eq_true (scn_in (b := b) (L := L) (f := isD) s (s + i) (by omega) (by omega)).1
theorem srt_2 {b : Nat → Nat} {L s : Nat} (h1 : s < L) (h2 : isD (b s) = true) : srt b L s = 2 := by
  unfold srt
  rw [if_neg (by omega), if_neg (fun z => by rw [isL_D z] at h2; exact absurd h2 (by decide)), if_pos h2]
theorem dig_w {b : Nat → Nat} {L s : Nat} (h : srt b L s = 2) : ∃ w, wv b L s = lN w ∧ w ≤ 10000009 ∧ min w 1001 = nv b L s := by
  obtain ⟨h1, h2, h3⟩ := dig_all h
  obtain ⟨w, w1, w2, w3⟩ := dw_nv (wrd b L s) 0 h3 (by omega)
  refine ⟨w, ?_, w2, ?_⟩
  · unfold wv
    rw [if_neg (by omega), if_neg (fun z => by rw [isL_D z] at h2; exact absurd h2 (by decide)), if_pos h2]
    exact w1
  · rw [w3]
    rfl
theorem nmI_dig {b : Nat → Nat} {L s lo hi w : Nat} (h : srt b L s = 2) (hw : min w 1001 = nv b L s) (hhi : hi ≤ 1000) : nmI b L s lo hi = if lo ≤ w ∧ w ≤ hi then some w else none := by
  obtain ⟨h1, h2, _⟩ := dig_all h
  unfold nmI
  by_cases c : lo ≤ w ∧ w ≤ hi
  · rw [if_pos c, if_pos ⟨h1, h2, by omega, by omega⟩, ← hw, Nat.min_eq_left (by omega)]
  · rw [if_neg c, if_neg (fun z => c ⟨by omega, by omega⟩)]
theorem nmI_nodig {b : Nat → Nat} {L s lo hi : Nat} (h : ¬ srt b L s = 2) : nmI b L s lo hi = none := by
  unfold nmI
  rw [if_neg (fun z => h (srt_2 z.1 z.2.1))]
theorem srt_lt (b : Nat → Nat) (L s : Nat) : srt b L s < 4 := by
  unfold srt
  split
  · omega
  · split
    · omega
    · split <;> omega
theorem number_ok {b : Nat → Nat} {L s lo hi : Nat} (F : MF M) (T : TR M b L) (K : NTk M b L s) (hb : hI M 126 19 = 0) (h2 : hi ≤ 1000) (hlh : lo ≤ hi) (hQ : match nmI b L s lo hi with
    | none => ∀ v : Int32, Q (some (.int v)) (sI (sI M 126 19 1) 126 18 (nI s))
    | some v => ∀ M', tkS M M' → NTk M' b L (nx b L s) → Q (some (.int (nI v))) M') : Wp none d 193 0 [(0, .ref 126), (1, .long (lN lo)), (3, .long (lN hi))] [] M Q := by
  have h4 := srt_lt b L s
  rw [m193_0 F, K.2.2.1, K.2.2.2.1, k193_13, show (2 : Int32) = nI 2 from rfl, nej (by omega) (by omega)]
  have bad : nmI b L s lo hi = none → ∀ v : Int32, Wp none d 193 32 [(0, .ref 126), (1, .long (lN lo)), (3, .long (lN hi)), (5, .int v)] [.ref 126] M Q := by
    intro e v
    rw [e] at hQ
    rw [k193_32, m193_33 F, must_n F K hb]
    simp only [oZ]
    rw [k193_36]
    exact hQ v
  by_cases c1 : srt b L s = 2
  · obtain ⟨w, w1, w2, w3⟩ := dig_w c1
    have e := nmI_dig (lo := lo) (hi := hi) c1 w3 h2
    rw [if_neg (fun z => z c1), m193_16 F, K.2.2.2.1, k193_22, mIn]
    simp only [oM]
    rw [k193_25, bzi, w1]
    simp only [lN_le (show lo < 2 ^ 31 by omega) (show w < 2 ^ 31 by omega), lN_le (show w < 2 ^ 31 by omega) (show hi < 2 ^ 31 by omega)]
    by_cases c2 : lo ≤ w ∧ w ≤ hi
    · rw [if_neg (fun z => z c2), k193_28, m193_33 F]
      rw [e, if_pos c2] at hQ
      refine must_y F T K hb (by decide) ?_
      intro M' a1 a2
      simp only [oZ]
      rw [k193_36, lN_i]
      exact hQ M' a1 a2
    · rw [if_pos c2]
      exact bad (by rw [e, if_neg c2]) _
  · rw [if_pos c1]
    exact bad (nmI_nodig c1) _
