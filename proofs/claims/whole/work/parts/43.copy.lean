variable {d : Nat} {M : hp} {Q : Option Value → hp → Prop}
/-- all but the numbers of E and the references of B is as it was -/
def agq (E B : List Nat) (M M' : hp) : Prop := hN M' = hN M ∧ hS M' = hS M ∧ hK M' = hK M ∧ (∀ a, B.contains a = false → hR M' a = hR M a) ∧ ∀ a, E.contains a = false → hI M' a = hI M a ∧ hL M' a = hL M a
theorem agq_of {E B : List Nat} {M M' : hp} (h : agr E M M') : agq E B M M' := ⟨h.1, h.2.1, h.2.2.1, fun a _ => by rw [h.2.2.2.1], h.2.2.2.2⟩
theorem agq_trans {E B : List Nat} {M M' M2 : hp} (h : agq E B M M') (h2 : agq E B M' M2) : agq E B M M2 := ⟨h2.1.trans h.1, h2.2.1.trans h.2.1, h2.2.2.1.trans h.2.2.1, fun a q => (h2.2.2.2.1 a q).trans (h.2.2.2.1 a q), fun a q => ⟨(h2.2.2.2.2 a q).1.trans (h.2.2.2.2 a q).1, (h2.2.2.2.2 a q).2.trans (h.2.2.2.2 a q).2⟩⟩
theorem contains_mono {E E' : List Nat} (hs : ∀ a, E.contains a = true → E'.contains a = true) {a : Nat} (q : E'.contains a = false) : E.contains a = false := by
  cases e : E.contains a with
  | false => rfl
  | true => rw [hs a e] at q; cases q
theorem agq_mono {E B E' B' : List Nat} {M M' : hp} (h : agq E B M M') (hs : ∀ a, E.contains a = true → E'.contains a = true) (hb : ∀ a, B.contains a = true → B'.contains a = true) : agq E' B' M M' := ⟨h.1, h.2.1, h.2.2.1, fun a q => h.2.2.2.1 a (contains_mono hb q), fun a q => h.2.2.2.2 a (contains_mono hs q)⟩
/-- the rows of a hall hold nothing behind their ends -/
def HallZ (M : hp) (h : Nat) : Prop := ∀ r, 1 ≤ r → r ≤ 4 → ∀ k, 7 ≤ k → hI M (h + r) k = 0
def HallL (M : hp) (h : Nat) : Prop := ∀ i, i < 6 → hR M (h + 5) i = 0 ∨ (hK M (hR M (h + 5) i)).1 = 7
/-- a hall of n hats, L in force -/
def HallO (M : hp) (h n : Nat) (L : Law) : Prop := HallS M h ∧ HallN M h n ∧ PegS (hI M (h + 3)) n ∧ KnoS (hI M (h + 4)) n ∧ LawIn M h L ∧ HallZ M h ∧ HallL M h ∧ h + 5 < kB
theorem TextD_agq {E B : List Nat} {M M' : hp} (h : agq E B M M') {t tc tr lc lr len n : Nat} {cf : Nat → Cls} (h1 : E.contains t = false) (h2 : E.contains tc = false) (h3 : E.contains tr = false) (h4 : B.contains t = false) (HT : TextD M t tc tr lc lr len n cf) : TextD M' t tc tr lc lr len n cf := by
  unfold TextD TextS SegD gI at *
  rw [h.2.2.1, h.2.2.2.1 t h4, (h.2.2.2.2 t h1).1, (h.2.2.2.2 tc h2).1, (h.2.2.2.2 tr h3).1]
  exact HT
theorem LawV_agq {E B : List Nat} {M M' : hp} (h : agq E B M M') (hl : low E) (hb : low B) {v : Value} {L : Law} (H : LawV M v L) : LawV M' v L := by
  cases L with
  | none => exact H
  | some x =>
    obtain ⟨n, cf⟩ := x
    obtain ⟨t, tc, tr, lc, lr, len, e, h1, h2, h3, HT⟩ := H
    exact ⟨t, tc, tr, lc, lr, len, e, h1, h2, h3, TextD_agq h (low_not hl h1) (low_not hl h2) (low_not hl h3) (low_not hb h1) HT⟩
/-- a hall that stays as it is -/
theorem HallO_agq {E B : List Nat} {M M' : hp} (h : agq E B M M') (hl : low E) (hb : low B) {p n : Nat} {L : Law} (e0 : E.contains p = false) (e3 : E.contains (p + 3) = false) (e1 : E.contains (p + 1) = false) (e2 : E.contains (p + 2) = false) (e4 : E.contains (p + 4) = false) (b0 : B.contains p = false) (b5 : B.contains (p + 5) = false) (H : HallO M p n L) : HallO M' p n L := by
  obtain ⟨H1, H2, H3, H4, H5, H6, H7, H8⟩ := H
  refine ⟨?_, ?_, ?_, ?_, ?_, ?_, ?_, H8⟩
  · unfold HallS at *
    rw [h.2.2.1, h.2.2.2.1 p b0]
    exact H1
  · unfold HallN at *
    rw [(h.2.2.2.2 p e0).1]
    exact H2
  · rw [(h.2.2.2.2 (p + 3) e3).1]
    exact H3
  · rw [(h.2.2.2.2 (p + 4) e4).1]
    exact H4
  · unfold LawIn at *
    rw [h.2.2.2.1 (p + 5) b5, (h.2.2.2.2 p e0).1]
    rcases H5 with y | ⟨i, q1, q2, q3, q4, q5⟩
    · exact Or.inl y
    · exact Or.inr ⟨i, q1, q2, q3, LawV_agq h hl hb q4, q5⟩
  · intro r r1 r4 k hk
    have : r = 1 ∨ r = 2 ∨ r = 3 ∨ r = 4 := by omega
    rcases this with e | e | e | e
    · subst e; rw [(h.2.2.2.2 (p + 1) e1).1]; exact H6 1 r1 r4 k hk
    · subst e; rw [(h.2.2.2.2 (p + 2) e2).1]; exact H6 2 r1 r4 k hk
    · subst e; rw [(h.2.2.2.2 (p + 3) e3).1]; exact H6 3 r1 r4 k hk
    · subst e; rw [(h.2.2.2.2 (p + 4) e4).1]; exact H6 4 r1 r4 k hk
  · unfold HallL at *
    rw [h.2.2.2.1 (p + 5) b5, h.2.2.1]
    exact H7
/-- t is as f is -/
def like (M' : hp) (t : Nat) (M : hp) (f : Nat) : Prop := (∀ r, 1 ≤ r → r ≤ 4 → hI M' (t + r) = hI M (f + r)) ∧ (∀ k, 5 ≤ k → k ≤ 13 → hI M' t k = hI M f k) ∧ ∀ i, i < 6 → hR M' (t + 5) i = hR M (f + 5) i
def cE (t : Nat) : List Nat := [t, t + 1, t + 2, t + 3, t + 4]
theorem cE_not {t a : Nat} (h : a < t ∨ t + 5 ≤ a) : (cE t).contains a = false := by
  unfold cE
  simp
  omega
theorem hI_cpMv_P (M : hp) (f t k : Nat) : hI (cpMv M f t) (t + 3) k = if k < 7 then hI M (f + 3) k else hI M (t + 3) k := by
  unfold cpMv
  rw [hI_sI_a (by omega), hI_sIs_a (by omega), hI_sIs]
  by_cases c : k < 7
  · rw [if_pos ⟨rfl, by omega, by omega⟩, if_pos c]; rfl
  · rw [if_neg (by omega), if_neg c]
theorem hI_cpMv_W (M : hp) (f t k : Nat) : hI (cpMv M f t) (t + 4) k = if k < 7 then hI M (f + 4) k else hI M (t + 4) k := by
  unfold cpMv
  rw [hI_sI_a (by omega), hI_sIs]
  by_cases c : k < 7
  · rw [if_pos ⟨rfl, by omega, by omega⟩, if_pos c]; rfl
  · rw [if_neg (by omega), if_neg c, hI_sIs_a (by omega)]
theorem hI_cpMv_0 (M : hp) (f t k : Nat) : hI (cpMv M f t) t k = if k = 5 then hI M f 5 else hI M t k := by
  unfold cpMv
  rw [hI_sI, hI_sIs_a (by omega), hI_sIs_a (by omega)]
  by_cases c : k = 5
  · rw [if_pos ⟨rfl, c⟩, if_pos c]
  · rw [if_neg (fun q => c q.2), if_neg c]
theorem hI_cpMv_o {M : hp} {f t a : Nat} (h1 : ¬ a = t) (h2 : ¬ a = t + 3) (h3 : ¬ a = t + 4) : hI (cpMv M f t) a = hI M a := by
  funext k
  unfold cpMv
  rw [hI_sI_a h1, hI_sIs_a h3, hI_sIs_a h2]
theorem hL_cpMv (M : hp) (f t : Nat) : hL (cpMv M f t) = hL M := rfl
theorem hI_cpF_0 {M : hp} {f t k : Nat} (h : ¬ f = t) : hI (cpF M f t) t k = if 6 ≤ k ∧ k ≤ 13 then hI M f k else hI M t k := by
  unfold cpF
  simp only [hI_sI, true_and]
  by_cases c : 6 ≤ k ∧ k ≤ 13
  · rw [if_pos c]
    have : k = 6 ∨ k = 7 ∨ k = 8 ∨ k = 9 ∨ k = 10 ∨ k = 11 ∨ k = 12 ∨ k = 13 := by omega
    rcases this with e | e | e | e | e | e | e | e <;> subst e <;> simp
  · rw [if_neg c]
    simp only [show ¬ k = 13 by omega, show ¬ k = 12 by omega, show ¬ k = 11 by omega, show ¬ k = 10 by omega, show ¬ k = 9 by omega, show ¬ k = 8 by omega, show ¬ k = 7 by omega, show ¬ k = 6 by omega, if_false]
theorem hI_cpF_o {M : hp} {f t a : Nat} (h : ¬ a = t) : hI (cpF M f t) a = hI M a := by
  funext k
  unfold cpF
  simp only [hI_sI, h, false_and, if_false]
theorem hI_cpH (M : hp) (f t : Nat) : hI (cpH M f t) = hI (cpI M f t) := rfl
theorem hN_cpF (M : hp) (f t : Nat) : hN (cpF M f t) = hN M := by unfold cpF; simp only [hN_sI]
theorem hS_cpF (M : hp) (f t : Nat) : hS (cpF M f t) = hS M := by unfold cpF; simp only [hS_sI]
theorem hL_cpF (M : hp) (f t : Nat) : hL (cpF M f t) = hL M := by unfold cpF; simp only [hL_sI]
theorem hN_sIs (M : hp) (a m n : Nat) (g : Nat → Int32) : hN (sIs M a m n g) = hN M := rfl
theorem hS_sIs (M : hp) (a m n : Nat) (g : Nat → Int32) : hS (sIs M a m n g) = hS M := rfl
theorem hN_cpI (M : hp) (f t : Nat) : hN (cpI M f t) = hN M := by simp only [cpI, cpMv, hN_cpF, hN_sI, hN_sIs]
theorem hS_cpI (M : hp) (f t : Nat) : hS (cpI M f t) = hS M := by simp only [cpI, cpMv, hS_cpF, hS_sI, hS_sIs]
theorem hK_cpI (M : hp) (f t : Nat) : hK (cpI M f t) = hK M := by simp only [cpI, cpMv, hK_cpF, hK_sI, hK_sIs]
theorem hR_cpI (M : hp) (f t : Nat) : hR (cpI M f t) = hR M := by simp only [cpI, cpMv, hR_cpF, hR_sI, hR_sIs]
theorem hL_cpI (M : hp) (f t : Nat) : hL (cpI M f t) = hL M := by simp only [cpI, cpMv, hL_cpF, hL_sI, hL_sIs]
theorem cpH_agq (M : hp) (f t : Nat) : agq (cE t) [t + 5] M (cpH M f t) := by
  refine ⟨hN_cpI M f t, hS_cpI M f t, hK_cpI M f t, ?_, ?_⟩
  · intro a ha
    have : ¬ a = t + 5 := by simpa using ha
    funext k
    unfold cpH
    rw [hR_sRs_a this, hR_cpI]
  · intro a ha
    unfold cE at ha
    simp at ha
    constructor
    · rw [hI_cpH]
      unfold cpI
      rw [hI_cpF_o (by omega), hI_cpMv_o (by omega) (by omega) (by omega)]
      funext k
      rw [hI_sIs_a (by omega), hI_sIs_a (by omega)]
    · have e : hL (cpH M f t) = hL (cpI M f t) := rfl
      rw [e, hL_cpI]
theorem cpH_like {M : hp} {f t : Nat} (ha : apart f t) (Z : HallZ M f) (Z2 : HallZ M t) : like (cpH M f t) t M f := by
  unfold apart at ha
  refine ⟨?_, ?_, ?_⟩
  · intro r r1 r4
    funext k
    have big : ∀ r, 1 ≤ r → r ≤ 4 → ¬ k < 7 → hI M (t + r) k = hI M (f + r) k := fun r a b c => by rw [Z r a b k (by omega), Z2 r a b k (by omega)]
    rw [hI_cpH]
    unfold cpI
    have hr : r = 1 ∨ r = 2 ∨ r = 3 ∨ r = 4 := by omega
    rcases hr with e | e | e | e
    · subst e
      rw [hI_cpF_o (by omega), hI_cpMv_o (by omega) (by omega) (by omega), hI_sIs_a (by omega), hI_sIs]
      by_cases c : k < 7
      · rw [if_pos ⟨rfl, by omega, by omega⟩]; rfl
      · rw [if_neg (by omega), big 1 r1 r4 c]
    · subst e
      rw [hI_cpF_o (by omega), hI_cpMv_o (by omega) (by omega) (by omega), hI_sIs]
      by_cases c : k < 7
      · rw [if_pos ⟨rfl, by omega, by omega⟩]; rfl
      · rw [if_neg (by omega), hI_sIs_a (by omega), big 2 r1 r4 c]
    · subst e
      rw [hI_cpF_o (by omega), hI_cpMv_P, hI_sIs_a (by omega), hI_sIs_a (by omega), hI_sIs_a (by omega), hI_sIs_a (by omega)]
      by_cases c : k < 7
      · rw [if_pos c]
      · rw [if_neg c, big 3 r1 r4 c]
    · subst e
      rw [hI_cpF_o (by omega), hI_cpMv_W, hI_sIs_a (by omega), hI_sIs_a (by omega), hI_sIs_a (by omega), hI_sIs_a (by omega)]
      by_cases c : k < 7
      · rw [if_pos c]
      · rw [if_neg c, big 4 r1 r4 c]
  · intro k k5 k13
    rw [hI_cpH]
    unfold cpI
    rw [hI_cpF_0 (by omega)]
    have ef : hI (cpMv (sIs (sIs M (t + 1) 0 7 (hI M (f + 1))) (t + 2) 0 7 (hI M (f + 2))) f t) f = hI M f := by
      rw [hI_cpMv_o (by omega) (by omega) (by omega)]
      funext k
      rw [hI_sIs_a (by omega), hI_sIs_a (by omega)]
    by_cases c : k = 5
    · subst c
      rw [if_neg (by omega), hI_cpMv_0, if_pos rfl, hI_sIs_a (by omega), hI_sIs_a (by omega)]
    · rw [if_pos (by omega), ef]
  · intro i hi
    unfold cpH
    rw [hR_sRs, if_pos ⟨rfl, by omega, by omega⟩, Nat.sub_zero]
theorem HallO_like {M M' : hp} {f t n : Nat} {L : Law} (hl : like M' t M f) (hk : hK M' = hK M) (H : HallO M f n L) (HS : HallS M' t) (hv : ∀ v, LawV M v L → LawV M' v L) (ht : t + 5 < kB) : HallO M' t n L := by
  obtain ⟨H1, H2, H3, H4, H5, H6, H7, H8⟩ := H
  refine ⟨HS, ?_, ?_, ?_, ?_, ?_, ?_, ht⟩
  · unfold HallN at *
    rw [hl.2.1 8 (by omega) (by omega)]
    exact H2
  · rw [hl.1 3 (by omega) (by omega)]; exact H3
  · rw [hl.1 4 (by omega) (by omega)]; exact H4
  · unfold LawIn at *
    rw [hl.2.1 10 (by omega) (by omega)]
    rcases H5 with y | ⟨i, q1, q2, q3, q4, q5⟩
    · exact Or.inl y
    · refine Or.inr ⟨i, q1, q2, ?_, ?_, q5⟩
      · rw [hl.2.2 i q1]; exact q3
      · rw [hl.2.2 i q1]; exact hv _ q4
  · intro r r1 r4 k hk
    rw [hl.1 r r1 r4]
    exact H6 r r1 r4 k hk
  · intro i hi
    rw [hl.2.2 i hi, hk]
    exact H7 i hi
theorem copy_ok {f t n : Nat} {L : Law} (H : HallO M f n L) (HS : HallS M t) (HZ : HallZ M t) (ha : apart f t) (ht : t + 5 < kB) (hQ : ∀ M', agq (cE t) [t + 5] M M' → like M' t M f → HallO M' t n L → Q none M') : Wp none d 1 0 [(0, .ref t), (1, .ref f)] [] M Q := by
  rw [Hall_copy HS H.1 ha H.2.2.2.2.2.2.1]
  have a1 := cpH_agq M f t
  have l1 := cpH_like ha H.2.2.2.2.2.1 HZ
  have low1 : low (cE t) := by
    intro a q
    unfold cE at q
    simp at q
    omega
  have low2 : low [t + 5] := by
    intro a q
    simp at q
    omega
  refine hQ _ a1 l1 (HallO_like l1 a1.2.2.1 H ?_ (fun v q => LawV_agq a1 low1 low2 q) ht)
  unfold HallS at *
  rw [a1.2.2.1, a1.2.2.2.1 t (by simp)]
  exact HS
