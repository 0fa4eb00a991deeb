variable {d : Nat} {M : hp} {Q : Option Value → hp → Prop}
theorem sI_sI (M : hp) (a k : Nat) (v w : Int32) : sI (sI M a k v) a k w = sI M a k w := by
  simp only [sI_w, wI_wI, hI_wI]
  apply wI_ext
  intro a' k'
  split <;> rfl
theorem bz_t {p : Prop} [Decidable p] (h : p) : bz p = 1 := by unfold bz; rw [if_pos h]
theorem bz_f {p : Prop} [Decidable p] (h : ¬ p) : bz p = 0 := by unfold bz; rw [if_neg h]
/-- an operation on two numbers -/
def joinV (op : Int32) (a b : Int64) : Int64 := if op = 7 then (if a < b then 1 else 0) else if op = 8 then (if b < a then 1 else 0) else if op = 9 then (if a = b then 1 else 0) else if op = 2 then a + b else if op = 3 then a - b else if op = 4 then a * b else if b = 0 then 0 else if op = 5 then a / b else a - a / b * b
abbrev joinC (op : Int32) : Prop := op = 7 ∨ op = 8 ∨ op = 9
def joinB (op : Int32) (a b : Int64) : Bool := decide (¬ joinC op ∧ ((¬ (op = 2 ∨ op = 3 ∨ op = 4) ∧ b = 0) ∨ 1000000000 < joinV op a b ∨ joinV op a b < -1000000000))
theorem sI_m0 {m : Nat} (h0 : hI M m 2 = 0) : sI M m 2 0 = M := by
  have := sI_id M m 2
  rw [h0] at this
  exact this
theorem join_end {m : Nat} {op : Int32} {a b w : Int64} (hm : (hK M m).1 = 1) (h0 : hI M m 2 = 0) : Wp none d 33 141 [(0, .ref m), (1, .int op), (2, .long a), (4, .long b), (6, .long w)] [] M Q = Q (some (.long w)) (sI M m 2 (bz (1000000000 < w ∨ w < -1000000000))) := by
  simp only [k33_141 hm, h0, k33_146, k33_149, k33_155, k33_158, k33_164, k33_167, k33_171, lg_cmp_gt, lg_cmp_ge, not_true_eq_false, if_false]
  by_cases c1 : 1000000000 < w
  · rw [if_pos c1, k33_172 hm (Or.inr rfl), k33_175, bz_t (Or.inl c1)]
  · rw [if_neg c1]
    by_cases c2 : -1000000000 ≤ w
    · rw [if_pos c2, k33_172 hm (Or.inl rfl), k33_175, bz_f (by
        intro q
        rcases q with q | q
        · exact c1 q
        · rw [fa_lt64] at q
          rw [fa_le64] at c2
          omega)]
    · rw [if_neg c2, k33_172 hm (Or.inr rfl), k33_175, bz_t (Or.inr (by
        rw [fa_le64] at c2
        rw [fa_lt64]
        omega))]
theorem join_end1 {m : Nat} {op : Int32} {a b w : Int64} (hm : (hK M m).1 = 1) (h0 : hI M m 2 = 1) : Wp none d 33 141 [(0, .ref m), (1, .int op), (2, .long a), (4, .long b), (6, .long w)] [] M Q = Q (some (.long w)) M := by
  have e : sI M m 2 1 = M := by
    have := sI_id M m 2
    rw [h0] at this
    exact this
  simp only [k33_141 hm, h0, k33_146, show ¬ (1 : Int32) = 0 by decide, not_false_eq_true, if_true, k33_167, k33_172 hm (Or.inr rfl), e, k33_175]
theorem Machine_join {m : Nat} {op : Int32} {a b : Int64} (hm : (hK M m).1 = 1) (h0 : hI M m 2 = 0) : Wp none d 33 0 [(0, .ref m), (1, .int op), (2, .long a), (4, .long b)] [] M Q = Q (some (.long (joinV op a b))) (sI M m 2 (if joinB op a b = true then 1 else 0)) := by
  by_cases c7 : op = 7
  · have eB : joinB op a b = false := by unfold joinB joinC; simp [c7]
    have eV : joinV op a b = if a < b then 1 else 0 := by unfold joinV; simp [c7]
    rw [eB, eV]
    simp only [reduceCtorEq, if_false, sI_m0 h0]
    simp only [k33_0, k33_3, c7, if_true, k33_18, k33_21, k33_24, k33_28, lg_cmp_ge, k33_31, k33_57, k33_61, k33_62, not_true_eq_false, if_false]
    by_cases c : a < b
    · rw [if_pos c, if_neg (by rw [fa_le64]; rw [fa_lt64] at c; omega)]
    · rw [if_neg c, if_pos (by rw [fa_le64]; rw [fa_lt64] at c; omega)]
  · by_cases c8 : op = 8
    · have eB : joinB op a b = false := by unfold joinB joinC; simp [c8]
      have eV : joinV op a b = if b < a then 1 else 0 := by unfold joinV; simp [c8]
      rw [eB, eV]
      simp only [reduceCtorEq, if_false, sI_m0 h0]
      simp only [k33_0, k33_3, c8, show ¬ (8 : Int32) = 7 by decide, if_true, k33_6, k33_9, k33_18, k33_21, not_false_eq_true, k33_34, k33_37, k33_40, k33_44, lg_cmp_le, k33_47, k33_57, k33_61, k33_62, not_true_eq_false, if_false]
      by_cases c : b < a
      · rw [if_pos c, if_neg (by rw [fa_le64]; rw [fa_lt64] at c; omega)]
      · rw [if_neg c, if_pos (by rw [fa_le64]; rw [fa_lt64] at c; omega)]
    · by_cases c9 : op = 9
      · have eB : joinB op a b = false := by unfold joinB joinC; simp [c9]
        have eV : joinV op a b = if a = b then 1 else 0 := by unfold joinV; simp [c9]
        rw [eB, eV]
        simp only [reduceCtorEq, if_false, sI_m0 h0]
        simp only [k33_0, k33_3, c9, show ¬ (9 : Int32) = 7 by decide, show ¬ (9 : Int32) = 8 by decide, if_true, k33_6, k33_9, k33_12, k33_15, k33_18, k33_21, not_false_eq_true, k33_34, k33_37, k33_50, k33_54, lg_cmp_eq, k33_57, k33_61, k33_62, not_true_eq_false, if_false]
        by_cases c : a = b
        · rw [if_pos c, if_neg (fun q => q c)]
        · rw [if_neg c, if_pos c]
      · have eC : joinC op = False := by
          unfold joinC
          simp [c7, c8, c9]
        simp only [k33_0, k33_3, c7, c8, c9, if_false, k33_6, k33_9, k33_12, k33_15, not_false_eq_true, if_true, k33_63, k33_68]
        have fin : ∀ w, (¬ (op = 2 ∨ op = 3 ∨ op = 4) ∧ b = 0) = False → joinV op a b = w → Wp none d 33 141 [(0, .ref m), (1, .int op), (2, .long a), (4, .long b), (6, .long w)] [] M Q = Q (some (.long (joinV op a b))) (sI M m 2 (if joinB op a b = true then 1 else 0)) := by
          intro w z e
          rw [join_end hm h0, e]
          unfold joinB bz
          simp only [eC, z, e, not_false_eq_true, true_and, false_or, decide_eq_true_eq]
        by_cases c2 : op = 2
        · simp only [c2, not_true_eq_false, if_false, k33_71]
          rw [c2] at fin
          exact fin _ (by simp) (by unfold joinV; simp)
        · by_cases c3 : op = 3
          · simp only [c2, c3, not_true_eq_false, not_false_eq_true, if_false, if_true, show ¬ (3 : Int32) = 2 by decide, k33_80, k33_82, k33_85]
            rw [c3] at fin
            exact fin _ (by simp) (by unfold joinV; simp)
          · by_cases c4 : op = 4
            · simp only [c2, c3, c4, not_true_eq_false, not_false_eq_true, if_false, if_true, show ¬ (4 : Int32) = 2 by decide, show ¬ (4 : Int32) = 3 by decide, k33_80, k33_82, k33_94, k33_96, k33_99]
              rw [c4] at fin
              exact fin _ (by simp) (by unfold joinV; simp)
            · simp only [c2, c3, c4, not_false_eq_true, if_true, k33_80, k33_82, k33_94, k33_96, k33_108, k33_112, lg_cmp_eq]
              by_cases cb : b = 0
              · have eV : joinV op a b = 0 := by unfold joinV; simp [c2, c3, c4, c7, c8, c9, cb]
                have eB : joinB op a b = true := by unfold joinB; simp [joinC, c2, c3, c4, c7, c8, c9, cb]
                rw [if_neg (fun q => q cb), k33_115 hm, join_end1 (M := sI M m 2 1) hm (hI_sI_s _ _ _ _), eV, eB]
                rfl
              · rw [if_pos cb, k33_123, k33_125]
                by_cases c5 : op = 5
                · rw [if_neg (fun q => q c5), k33_128 cb, k33_139]
                  exact fin _ (by simp [cb]) (by unfold joinV; simp [c2, c3, c4, c7, c8, c9, cb, c5])
                · rw [if_pos c5, k33_135 cb, k33_139]
                  exact fin _ (by simp [cb]) (by unfold joinV; simp [c2, c3, c4, c7, c8, c9, cb, c5])
/-! the machine: m the object, mk its stack, mw its words -/
def MachS (M : hp) (m : Nat) : Prop := 64 ≤ m ∧ (hK M m).1 = 1 ∧ hR M m 0 = m + 1 ∧ hR M m 1 = m + 2 ∧ hK M (m + 1) = (21, 51) ∧ hK M (m + 2) = (20, 18)
/-- a text: t the object, c its code, r its rows -/
def TextS (M : hp) (t c r lc lr : Nat) : Prop := (hK M t).1 = 7 ∧ hR M t 0 = c ∧ hR M t 1 = r ∧ hK M c = (20, lc) ∧ hK M r = (20, lr) ∧ 64 ≤ c ∧ 64 ≤ r ∧ lc ≤ 400 ∧ lr ≤ 96
/-- what the loop over the code comes to -/
def upd64 (s : Nat → Int64) (k : Nat) (v : Int64) : Nat → Int64 := fun j => if j = k then v else s j
def crun (C : Nat → Int32) (E : Int32 → Int32) : Nat → Nat → Int32 → Nat → Int64 → (Nat → Int64) → Option Int64
  | 0, _, _, _, v, _ => some v
  | k + 1, i, go, top, v, s =>
    if nI i < go then crun C E k (i + 1) go top v s
    else if C i &&& 15 = 0 then crun C E k (i + 1) go (min (top + 1) 50) (C i >>> (4 &&& 31)).toInt64 (upd64 s top v)
    else if C i &&& 15 = 1 then crun C E k (i + 1) go (min (top + 1) 50) (E (C i >>> (4 &&& 31))).toInt64 (upd64 s top v)
    else if C i &&& 15 = 10 then crun C E k (i + 1) go top (if v = 0 then 1 else 0) s
    else if C i &&& 15 = 11 then (if v = 0 then crun C E k (i + 1) (C i >>> (4 &&& 31)) top v s else crun C E k (i + 1) go (top - 1) (s (top - 1)) s)
    else if C i &&& 15 = 12 then (if v = 0 then crun C E k (i + 1) go (top - 1) (s (top - 1)) s else crun C E k (i + 1) (C i >>> (4 &&& 31)) top v s)
    else if joinB (C i &&& 15) (s (top - 1)) v = true then none
    else crun C E k (i + 1) go (top - 1) (joinV (C i &&& 15) (s (top - 1)) v) s
theorem run_end {m : Nat} {t2 : Nat} {a b to top go i : Int32} {v : Int64} (hm : (hK M m).1 = 1) : Wp none d 31 282 [(0, .ref m), (1, .ref t2), (2, .int a), (3, .int b), (4, .int to), (5, .int top), (6, .long v), (8, .int go), (9, .int i)] [] M Q = Q (some (.long (if hI M m 2 = 0 then v else 0))) M := by
  simp only [k31_282 hm, k31_286, k31_289, k31_293, k31_295]
  split <;> rfl
theorem top_put {t : Nat} (ht : t ≤ 50) : (if (50 : Int32) < nI t + 1 then 50 else nI t + 1) = nI (min (t + 1) 50) := by
  rw [nI_1]
  by_cases c : t = 50
  · subst c; decide
  · rw [if_neg (show ¬ (50 : Int32) < nI (t + 1) by
      show ¬ nI 50 < nI (t + 1)
      rw [n_lt (by omega) (by omega)]
      omega), Nat.min_eq_left (by omega)]
theorem top_pop {t : Nat} (ht : t ≤ 50) : (if nI t - 1 < 0 then 0 else nI t - 1) = nI (t - 1) := by
  cases t with
  | zero => decide
  | succ t =>
    rw [nI_pred, if_neg (nI_pos (by omega))]
    rfl
theorem sL_stk {M : hp} {a k : Nat} {v : Int64} {s : Nat → Int64} (h : ∀ j, hL M a j = s j) : ∀ j, hL (sL M a k v) a j = upd64 s k v j := by
  intro j
  unfold upd64
  rw [hL_sL]
  by_cases c : j = k
  · rw [if_pos ⟨rfl, c⟩, if_pos c]
  · rw [if_neg (fun q => c q.2), if_neg c, h j]
theorem run_loop {m t2 tc tr lc lr t : Nat} {a b : Int32} {C : Nat → Int32} {E : Int32 → Int32} {r : Option Int64} {M0 : hp} (HM : MachS M0 m) (HT : TextS M0 t2 tc tr lc lr) (hC : ∀ i, gI M0 tc lc (nI i) = C i) (hE : ∀ x, gI M0 (m + 2) 18 x = E x) (d1 : ¬ tc = m) (d2 : ¬ tc = m + 1) (ht : t ≤ 400)
    (hQ : ∀ M', agr [m, m + 1] M0 M' → hI M' m 3 = hI M0 m 3 → hI M' m 4 = hI M0 m 4 → (hI M' m 2 = if r = none then 1 else 0) → Q (some (.long (r.getD 0))) M') :
    ∀ (k i : Nat) (go : Int32) (top : Nat) (v : Int64) (s : Nat → Int64) (M : hp), i + k = t → top ≤ 50 → agr [m, m + 1] M0 M → hI M m 3 = hI M0 m 3 → hI M m 4 = hI M0 m 4 → hI M m 2 = 0 → (∀ j, hL M (m + 1) j = s j) → crun C E k i go top v s = r → Wp none d 31 44 [(0, .ref m), (1, .ref t2), (2, .int a), (3, .int b), (4, .int (nI t)), (5, .int (nI top)), (6, .long v), (8, .int go), (9, .int (nI i))] [] M Q := by
  intro k
  have h64 := HM.1
  have m1 : ¬ m + 2 = m := by omega
  have m2 : ¬ m + 2 = m + 1 := by omega
  have aux : ∀ x y, ([x, y] : List Nat).contains y = true := by intro x y; simp
  have aux0 : ∀ x y, ([x, y] : List Nat).contains x = true := by intro x y; simp
  induction k with
  | zero =>
    intro i go top v s M e htop hag h3 h4 h2 hs hr
    have hi : i = t := by omega
    subst hi
    have hm : (hK M m).1 = 1 := by rw [hag.2.2.1]; exact HM.2.1
    have c : nI i ≤ nI i := by rw [n_le (by omega) (by omega)]; exact Nat.le_refl i
    rw [k31_44, k31_48, if_pos c, run_end hm, h2, if_pos rfl]
    have hr2 : some v = r := hr
    rw [← hr2] at hQ
    exact hQ M hag h3 h4 (by rw [h2]; rfl)
  | succ k ih =>
    intro i go top v s M e htop hag h3 h4 h2 hs hr
    have hm : (hK M m).1 = 1 := by rw [hag.2.2.1]; exact HM.2.1
    have hR0 : hR M m 0 = m + 1 := by rw [hag.2.2.2.1]; exact HM.2.2.1
    have hR1 : hR M m 1 = m + 2 := by rw [hag.2.2.2.1]; exact HM.2.2.2.1
    have hk1 : hK M (m + 1) = (21, 51) := by rw [hag.2.2.1]; exact HM.2.2.2.2.1
    have hk2 : hK M (m + 2) = (20, 18) := by rw [hag.2.2.1]; exact HM.2.2.2.2.2
    have ht7 : (hK M t2).1 = 7 := by rw [hag.2.2.1]; exact HT.1
    have hT0 : hR M t2 0 = tc := by rw [hag.2.2.2.1]; exact HT.2.1
    have hkc : hK M tc = (20, lc) := by rw [hag.2.2.1]; exact HT.2.2.2.1
    have hlc : lc ≤ 400 := HT.2.2.2.2.2.2.2.1
    have h64c : 64 ≤ tc := HT.2.2.2.2.2.1
    have eC : gI M tc lc (nI i) = C i := by
      rw [← hC i]
      unfold gI
      rw [(hag.2.2.2.2 tc (by simp [d1, d2])).1]
    have eE : ∀ x, gI M (m + 2) 18 x = E x := by
      intro x
      rw [← hE x]
      unfold gI
      rw [(hag.2.2.2.2 (m + 2) (by simp)).1]
    have c0 : ¬ nI t ≤ nI i := by rw [n_le (by omega) (by omega)]; omega
    have nxt : ∀ (go : Int32) (top : Nat) (v : Int64) (s : Nat → Int64) (M : hp), top ≤ 50 → agr [m, m + 1] M0 M → hI M m 3 = hI M0 m 3 → hI M m 4 = hI M0 m 4 → hI M m 2 = 0 → (∀ j, hL M (m + 1) j = s j) → crun C E k (i + 1) go top v s = r → Wp none d 31 276 [(0, .ref m), (1, .ref t2), (2, .int a), (3, .int b), (4, .int (nI t)), (5, .int (nI top)), (6, .long v), (8, .int go), (9, .int (nI i))] [] M Q := by
      intro go top v s M q1 q2 q3 q4 q5 q6 q7
      rw [k31_276, nI_1]
      exact ih (i + 1) go top v s M (by omega) q1 q2 q3 q4 q5 q6 q7
    rw [k31_44, k31_48, if_neg c0, k31_51 hm, k31_55, h2, if_neg (by decide), k31_58, k31_62]
    unfold crun at hr
    by_cases cg : nI i < go
    · rw [if_pos cg] at hr
      rw [if_neg (by rw [fa_le]; rw [fa_lt] at cg; omega), k31_65]
      exact nxt _ _ _ _ _ htop hag h3 h4 h2 hs hr
    · rw [if_neg cg] at hr
      rw [if_pos (by rw [fa_le]; rw [fa_lt] at cg; omega), k31_68 ht7 (by rw [hT0]; omega), hT0, k31_74, T_at hkc (by omega) (by omega), eC]
      simp only [oN, k31_77, k31_94]
      generalize hop : C i &&& 15 = op at *
      generalize hnum : C i >>> (4 &&& 31) = num at *
      have psh : ∀ w, crun C E k (i + 1) go (min (top + 1) 50) w (upd64 s top v) = r → Wp none d 31 276 [(0, .ref m), (1, .ref t2), (2, .int a), (3, .int b), (4, .int (nI t)), (5, .int (nI (min (top + 1) 50))), (6, .long w), (8, .int go), (9, .int (nI i))] [] (sL M (m + 1) top v) Q := by
        intro w hw
        exact nxt _ _ _ _ _ (Nat.min_le_right _ _) (agr_trans hag (agr_sL (aux m (m + 1)))) h3 h4 h2 (sL_stk hs) hw
      by_cases c1 : op = 0
      · rw [if_pos c1] at hr
        rw [if_pos c1, k31_103 hm (by rw [hR0]; omega), hR0, k31_111, T_putL hk1 (by omega) (by omega), pL_n (by omega) (by omega)]
        simp only [oZ]
        rw [k31_114, top_put htop, k31_127, if_neg (fun q => q c1), k31_130, k31_146]
        exact psh _ hr
      · rw [if_neg c1] at hr
        rw [if_neg c1, k31_97, k31_100]
        by_cases c2 : op = 1
        · rw [if_pos c2] at hr
          rw [if_neg (fun q => q c2), k31_103 hm (by rw [hR0]; omega), hR0, k31_111, T_putL hk1 (by omega) (by omega), pL_n (by omega) (by omega)]
          simp only [oZ]
          rw [k31_114, top_put htop, k31_127, if_pos c1, k31_136 (M := sL M (m + 1) top v) hm (show ¬ hR M m 1 = 0 by rw [hR1]; omega), k31_142, hR_sL, hR1, T_at (M := sL M (m + 1) top v) hk2 (by omega) (by omega), show gI (sL M (m + 1) top v) (m + 2) 18 num = E num from eE num]
          simp only [oN]
          rw [k31_145, k31_146]
          exact psh _ hr
        · rw [if_neg c2] at hr
          rw [if_pos c2, k31_151, k31_155]
          by_cases c3 : op = 10
          · rw [if_pos c3] at hr
            rw [if_neg (fun q => q c3), k31_158, k31_162]
            simp only [lg_cmp_eq]
            by_cases cv : v = 0
            · rw [if_pos cv] at hr
              rw [if_neg (fun q => q cv), k31_165, k31_170]
              exact nxt _ _ _ _ _ htop hag h3 h4 h2 hs hr
            · rw [if_neg cv] at hr
              rw [if_pos cv, k31_169, k31_170]
              exact nxt _ _ _ _ _ htop hag h3 h4 h2 hs hr
          · rw [if_neg c3] at hr
            rw [if_pos c3, k31_175, k31_179]
            have pop : ∀ (g : Int32), Wp none d 31 223 [(0, .ref m), (1, .ref t2), (2, .int a), (3, .int b), (4, .int (nI t)), (5, .int (nI top)), (6, .long v), (8, .int g), (9, .int (nI i)), (10, .int (C i)), (11, .int op), (12, .int num)] [] M Q = Wp none d 31 276 [(0, .ref m), (1, .ref t2), (2, .int a), (3, .int b), (4, .int (nI t)), (5, .int (nI (top - 1))), (6, .long (s (top - 1))), (8, .int g), (9, .int (nI i))] [] M Q := by
              intro g
              rw [k31_223 hm (by rw [hR0]; omega), top_pop htop, hR0, k31_239, T_atL hk1 (by omega) (by omega), gL_n (by omega) (by omega), hs]
              simp only [oN]
              rw [k31_242]
            by_cases c4 : op = 11
            · rw [if_pos c4] at hr
              rw [if_pos c4, k31_189, k31_193]
              simp only [lg_cmp_eq]
              by_cases cv : v = 0
              · rw [if_pos cv] at hr
                rw [if_pos cv, k31_200, k31_201, k31_205, if_pos (by rw [c4]; decide), k31_212, k31_213, if_neg (by decide), k31_216]
                exact nxt _ _ _ _ _ htop hag h3 h4 h2 hs hr
              · rw [if_neg cv] at hr
                rw [if_neg cv, k31_196, k31_201, k31_205, if_pos (by rw [c4]; decide), k31_212, k31_213, if_pos (by decide), pop]
                exact nxt _ _ _ _ _ (by omega) hag h3 h4 h2 hs hr
            · rw [if_neg c4] at hr
              rw [if_neg c4, k31_182, k31_186]
              by_cases c5 : op = 12
              · rw [if_pos c5] at hr
                rw [if_neg (fun q => q c5), k31_189, k31_193]
                simp only [lg_cmp_eq]
                by_cases cv : v = 0
                · rw [if_pos cv] at hr
                  rw [if_pos cv, k31_200, k31_201, k31_205, if_neg (by rw [c5]; decide), k31_208, k31_213, if_pos (by decide), pop]
                  exact nxt _ _ _ _ _ (by omega) hag h3 h4 h2 hs hr
                · rw [if_neg cv] at hr
                  rw [if_neg cv, k31_196, k31_201, k31_205, if_neg (by rw [c5]; decide), k31_208, k31_213, if_neg (by decide), k31_216]
                  exact nxt _ _ _ _ _ htop hag h3 h4 h2 hs hr
              · rw [if_neg c5] at hr
                rw [if_pos c5, k31_247 hm (by rw [hR0]; omega), top_pop htop, hR0, k31_266, T_atL hk1 (by omega) (by omega), gL_n (by omega) (by omega), hs]
                simp only [oM]
                rw [k31_269, k31_271 hm, Machine_join hm h2]
                simp only [oN]
                rw [k31_274]
                by_cases cb : joinB op (s (top - 1)) v = true
                · rw [if_pos cb] at hr
                  rw [if_pos cb, k31_276, k31_44, k31_48]
                  have hb2 : hI (sI M m 2 1) m 2 = 1 := hI_sI_s _ _ _ _
                  have fin : Wp none d 31 282 [(0, .ref m), (1, .ref t2), (2, .int a), (3, .int b), (4, .int (nI t)), (5, .int (nI (top - 1))), (6, .long (joinV op (s (top - 1)) v)), (8, .int go), (9, .int (nI i + 1))] [] (sI M m 2 1) Q := by
                    rw [run_end (M := sI M m 2 1) hm, hb2, if_neg (by decide)]
                    rw [← hr] at hQ
                    exact hQ _ (agr_trans hag (agr_sI (aux0 m (m + 1)))) ((hI_sI_k (by decide)).trans h3) ((hI_sI_k (by decide)).trans h4) hb2
                  split
                  · exact fin
                  · rw [k31_51 (M := sI M m 2 1) hm, k31_55, hb2, if_pos (by decide)]
                    exact fin
                · rw [if_neg cb] at hr
                  rw [if_neg cb, sI_m0 h2]
                  exact nxt _ _ _ _ _ (by omega) hag h3 h4 h2 hs hr
