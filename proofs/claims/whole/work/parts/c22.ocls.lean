variable {d : Nat} {M : hp} {Q : Option Value → hp → Prop}
/-! orders of the class: a clause, once -/
abbrev OSt : Type := ASt × Int32 × Int32
def oEnv (n : Nat) (s : OSt) : Nat → Int32 := oenF n s.1.1 s.1.2.1 s.1.2.2.1 s.2.1 s.2.2
def oHat (k : Nat) (v1 v2 : Int64) : Int32 := if k = 2 then v2.toInt32 else v1.toInt32
def oNum (k : Nat) (v1 v2 : Int64) : Int32 := if k = 2 then v1.toInt32 else v2.toInt32
def ordA (n : Nat) (D T : Nat → Int32) (rn : Int32) (L : Law) (k : Nat) (hat num : Int32) (s : OSt) : Option OSt :=
  if whyA n (nI k) hat num s.1 = 0 then some ((doA n D T rn L (nI k) hat num s.1).2, s.2.1 + 1, if k = 3 then (doA n D T rn L (nI k) hat num s.1).1 else s.2.2) else none
def ord1 (n : Nat) (D T : Nat → Int32) (rn : Int32) (L : Law) (c : Ocl) (s : OSt) : Option OSt :=
  if (c.2.2.2.2 (oEnv n s)).getD 0 = 0 then some s else
  match c.2.2.1 (oEnv n s), c.2.2.2.1 (oEnv n s) with
  | some v1, some v2 => ordA n D T rn L c.1 (oHat c.1 v1 v2) (oNum c.1 v1 v2) s
  | _, _ => none
def ordT (n : Nat) (D T : Nat → Int32) (rn : Int32) (L : Law) (c : Ocl) : Nat → OSt → Sum OSt OSt
  | 0, s => .inr s
  | k + 1, s => match ord1 n D T rn L c s with
    | none => .inl s
    | some s' => ordT n D T rn L c k s'
def ordC (n : Nat) (D T : Nat → Int32) (rn : Int32) (L : Law) (cf : Nat → Ocl) : Nat → Nat → OSt → Sum (Nat × OSt) OSt
  | 0, _, s => .inr s
  | m + 1, i, s => match ordT n D T rn L (cf i) (cf i).2.1 s with
    | .inl s' => .inl (i, s')
    | .inr s' => ordC n D T rn L cf m (i + 1) s'
def OE : List Nat := [113, 114, 115] ++ AE
theorem OE_low : low OE := by
  intro x q
  have kb : kB = 154 := rfl
  simp [OE, AE, nF] at q
  omega
def ClO (M0 M : hp) (s : ASt) : Prop := agr OE M0 M ∧ hI M 68 = s.1 ∧ hI M 69 = s.2.1 ∧ (∀ k, hI M 65 k = if k = 5 then s.2.2.1 else hI M0 65 k) ∧ ClU M s.2.2.2
def OrdK (M0 : hp) (n : Nat) (L : Law) (len nc : Nat) (cf : Nat → Ocl) : Prop := HallO M0 65 n L ∧ TextS M0 110 111 112 400 96 ∧ hI M0 110 2 = nI len ∧ len ≤ 400 ∧ hI M0 110 3 = nI nc ∧ nc ≤ 12 ∧ (∀ j, j < nc → OrdR M0 len j (cf j)) ∧ ∀ j, j < nc → (cf j).1 < 4 ∧ (cf j).2.1 ≤ 20
theorem ClO_O {M0 : hp} {n : Nat} {L : Law} {s : ASt} (O : HallO M0 65 n L) (C : ClO M0 M s) (W : WFa n s) : HallO M 65 n L := by
  obtain ⟨a, e3, e4, e0, _⟩ := C
  obtain ⟨w1, w2, w3, w4, _⟩ := W
  refine HallO_mid O a OE_low (by decide) (by decide) (fun k q => by rw [e0, if_neg q]) ?_ ?_ ?_ ?_
  · rw [show hI M (65 + 3) = s.1 from e3]; exact w1
  · rw [show hI M (65 + 4) = s.2.1 from e4]; exact w2
  · intro k q; rw [show hI M (65 + 3) = s.1 from e3]; exact (w4 k q).1
  · intro k q; rw [show hI M (65 + 4) = s.2.1 from e4]; exact (w4 k q).2
theorem ClU_fr2 {M' : hp} {u : USt} (U : ClU M u) (e1 : hI M' 103 = hI M 103) (e2 : hI M' 104 = hI M 104) : ClU M' u := by
  unfold ClU EntC at *
  rw [e1, e2]
  exact U
theorem ClO_m {M0 M' : hp} {s : ASt} {E : List Nat} (C : ClO M0 M s) (a : agr E M M') (hs : ∀ x, E.contains x = true → OE.contains x = true) (h : nin E [65, 68, 69, 103, 104] = true) : ClO M0 M' s := by
  obtain ⟨a0, e3, e4, e0, U⟩ := C
  exact ⟨agr_trans a0 (agr_mono a hs), by rw [agr_I a (nin_at h (by decide))]; exact e3, by rw [agr_I a (nin_at h (by decide))]; exact e4, fun k => by rw [agr_I a (a := 65) (nin_at h (by decide))]; exact e0 k, ClU_fr2 U (agr_I a (nin_at h (by decide))) (agr_I a (nin_at h (by decide)))⟩
theorem oHat_2 (v1 v2 : Int64) : oHat 2 v1 v2 = v2.toInt32 ∧ oNum 2 v1 v2 = v1.toInt32 := ⟨rfl, rfl⟩
theorem T_ordA {M0 : hp} {n i k : Nat} {L : Law} {hat num x6 t : Int32} {s : OSt} (O : HallO M0 65 n L) (hk : k < 4) (X : XS M) (C : ClO M0 M s.1) (W : WFa n s.1) (H1 : ∀ s', ordA n (hI M0 66) (hI M0 67) (hI M0 65 7) L k hat num s = some s' → WFa n s'.1 → ∀ M', XS M' → ClO M0 M' s'.1 → Wp none d 139 185 [(0, .ref 64), (1, .ref 110), (2, .int s'.2.1), (3, .int s'.2.2), (4, .int (nI i)), (5, .int (nI k)), (6, .int x6), (7, .int t)] [] M' Q) (H0 : ordA n (hI M0 66) (hI M0 67) (hI M0 65 7) L k hat num s = none → ∀ M', XS M' → ClO M0 M' s.1 → Q (some (.int s.2.1)) (sI M' 64 18 (nI i))) : Wp none d 139 151 [(0, .ref 64), (1, .ref 110), (2, .int s.2.1), (3, .int s.2.2), (4, .int (nI i)), (5, .int (nI k)), (6, .int x6), (7, .int t), (8, .int (-3)), (9, .int hat), (10, .int num)] [.int num, .int hat, .int (nI k), .ref 64] M Q := by
  have OM := ClO_O O C W
  have n7 := OM.2.1.2
  have C0 := C
  obtain ⟨a, e3, e4, e0, U⟩ := C
  have CA : ClA M M s.1 := ⟨agr_refl _ _, e3, e4, fun k => by
    by_cases q : k = 5
    · rw [if_pos q, q, e0, if_pos rfl]
    · rw [if_neg q], U⟩
  have eD : hI M 66 = hI M0 66 := agr_I a (by decide)
  have eT : hI M 67 = hI M0 67 := agr_I a (by decide)
  have er : hI M 65 7 = hI M0 65 7 := by rw [e0, if_neg (by decide)]
  rw [x139_151 X]
  refine act_ok X OM CA W hk (fun c => ?_) (fun c M' X' C' => ?_)
  · simp only [oN]
    obtain ⟨v, v1, v2⟩ := why_neg c
    rw [k139_154, k139_156, k139_158, v2, if_neg (neg_n v1), x139_161 X, k139_167]
    refine H0 ?_ M X C0
    unfold ordA
    rw [if_neg c]
  · simp only [oN]
    rw [eD, eT, er] at C' ⊢
    rw [k139_154, k139_156, k139_158, if_pos (do_nn n7 hk W c), k139_169, k139_175]
    have Wd := doA_WF (D := hI M0 66) (T := hI M0 67) (rn := hI M0 65 7) (L := L) n7 hk W c
    have CO : ClO M0 M' (doA n (hI M0 66) (hI M0 67) (hI M0 65 7) L (nI k) hat num s.1).2 := by
      obtain ⟨b, f3, f4, f0, V⟩ := C'
      refine ⟨agr_trans a (agr_mono b (by intro x q; simp [OE]; exact Or.inr (Or.inr (Or.inr (by simpa using q))))), f3, f4, fun k => ?_, V⟩
      rw [f0]
      by_cases q : k = 5
      · rw [if_pos q, if_pos q]
      · rw [if_neg q, if_neg q, e0, if_neg q]
    have e := H1 ((doA n (hI M0 66) (hI M0 67) (hI M0 65 7) L (nI k) hat num s.1).2, s.2.1 + 1, if k = 3 then (doA n (hI M0 66) (hI M0 67) (hI M0 65 7) L (nI k) hat num s.1).1 else s.2.2) (by unfold ordA; rw [if_pos c]) Wd M' X' CO
    by_cases c3 : k = 3
    · rw [if_neg (fun z => z (by rw [c3]; rfl)), k139_178, k139_184]
      rw [if_pos c3] at e
      exact e
    · rw [if_pos (by rw [show (3 : Int32) = nI 3 from rfl, n_eq (by omega) (by omega)]; exact c3), k139_183, k139_184]
      rw [if_neg c3] at e
      exact e
theorem T_ord1 {M0 : hp} {n len nc i : Nat} {L : Law} {cf : Nat → Ocl} {x6 t : Int32} {s : OSt} (K : OrdK M0 n L len nc cf) (hi : i < nc) (X : XS M) (C : ClO M0 M s.1) (W : WFa n s.1) (H1 : ∀ s', ord1 n (hI M0 66) (hI M0 67) (hI M0 65 7) L (cf i) s = some s' → WFa n s'.1 → ∀ M', XS M' → ClO M0 M' s'.1 → Wp none d 139 185 [(0, .ref 64), (1, .ref 110), (2, .int s'.2.1), (3, .int s'.2.2), (4, .int (nI i)), (5, .int (nI (cf i).1)), (6, .int x6), (7, .int t)] [] M' Q) (H0 : ord1 n (hI M0 66) (hI M0 67) (hI M0 65 7) L (cf i) s = none → ∀ M', XS M' → ClO M0 M' s.1 → Q (some (.int s.2.1)) (sI M' 64 18 (nI i))) : Wp none d 139 44 [(0, .ref 64), (1, .ref 110), (2, .int s.2.1), (3, .int s.2.2), (4, .int (nI i)), (5, .int (nI (cf i).1)), (6, .int x6), (7, .int t)] [] M Q := by
  obtain ⟨O, TS, t2, tl, t3, tn, tr, tk⟩ := K
  have hk := (tk i hi).1
  obtain ⟨_, _, g1, g2, g3⟩ := tr i hi
  have OM := ClO_O O C W
  have kx := X.2.2.2.2.2.2.2.2.2.2.2.1
  rw [x139_44 X, x139_54 X (x_K113 X)]
  refine setOrderWords_ok kx X.2.1 OM.2.1 OM.2.2.2.1 (Or.inr (by omega)) (fun M1 a1 w1 => ?_)
  have X1 : XS M1 := XS_same (sameS_agq (agq_of (B := []) a1) (by intro x q; simp at q)) X
  have C1 := ClO_m C a1 (by intro x q; simp [OE] at q ⊢; omega) (by decide)
  have env : msk 18 (gI M1 115 18) = oEnv n s := by
    funext k
    unfold msk oEnv oenF
    by_cases c : k < 18
    · rw [if_pos c, if_pos c]
      unfold gI
      rw [if_neg (by show ¬ nI k < nI 0; rw [n_lt (by omega) (by omega)]; omega), if_neg (by rw [n_le (by omega) (by omega)]; omega), n_cl (by omega), show hI M1 115 k = _ from w1 k c, show hI M (65 + 3) = s.1.1 from C.2.1, show hI M (65 + 4) = s.1.2.1 from C.2.2.1, C.2.2.2.1 5, if_pos rfl]
    · rw [if_neg c, if_neg c]
  have TSM : ∀ {M' : hp}, XS M' → TextS M' 110 111 112 400 96 := fun X' => X'.2.2.2.2.2.2.2.2.2.2.1.2.2.2
  have fr0 : ∀ {M' : hp} {s' : ASt}, ClO M0 M' s' → hI M' 110 = hI M0 110 ∧ (∀ {k : Nat} {D : Den}, Sg M0 18 k len D → Sg M' 18 k len D) := fun C' => ⟨agr_I C'.1 (by decide), fun h => Sg_agr h C'.1 (by decide) (by decide)⟩
  simp only [oZ]
  rw [x139_57 X1, x139_66 X1 (x_K113 X1), show (6 : Int32) = nI 6 from rfl]
  refine run_D X1.2.2.2.2.2.2.2.2.2.2.2.1 (TSM X1) (by rw [(fr0 C1).1]; exact t2) tl (by omega) ((fr0 C1).2 g3) (fun M2 a2 _ _ _ => ?_)
  rw [env]
  have X2 : XS M2 := XS_same (sameS_agq (agq_of (B := []) a2) (by intro x q; simp at q)) X1
  have C2 := ClO_m C1 a2 (by intro x q; simp [OE] at q ⊢; omega) (by decide)
  have e115 : gI M2 115 18 = gI M1 115 18 := by
    funext x
    unfold gI
    rw [agr_I a2 (a := 115) (by decide)]
  simp only [oN]
  rw [k139_69, k139_71]
  simp only [lg_cmp_eq]
  unfold ord1 at H1 H0
  by_cases c0 : ((cf i).2.2.2.2 (oEnv n s)).getD 0 = 0
  · rw [if_neg (fun z => z c0), k139_74]
    rw [if_pos c0] at H1
    exact H1 s rfl W M2 X2 C2
  rw [if_neg c0] at H1 H0
  rw [if_pos c0, x139_77 X2, x139_88 X2 (x_K113 X2)]
  refine runSums_ok (i := i) X2.2.2.2.2.2.2.2.2.2.2.2.1 (TSM X2) (by rw [(fr0 C2).1]; exact t2) tl (by omega) ((fr0 C2).2 g1) ((fr0 C2).2 g2) (fun M3 a3 v1 v2 => ?_)
  rw [e115, env] at v1 v2 ⊢
  have X3 : XS M3 := XS_same (sameS_agq (agq_of (B := []) a3) (by intro x q; simp at q)) X2
  have C3 := ClO_m C2 a3 (by intro x q; simp [OE] at q ⊢; omega) (by decide)
  simp only [oN]
  rw [k139_91]
  have bad : (match (cf i).2.2.1 (oEnv n s), (cf i).2.2.2.1 (oEnv n s) with
      | some v1, some v2 => ordA n (hI M0 66) (hI M0 67) (hI M0 65 7) L (cf i).1 (oHat (cf i).1 v1 v2) (oNum (cf i).1 v1 v2) s
      | _, _ => none : Option OSt) = none → Wp none d 139 156 [(0, .ref 64), (1, .ref 110), (2, .int s.2.1), (3, .int s.2.2), (4, .int (nI i)), (5, .int (nI (cf i).1)), (6, .int x6), (7, .int t), (8, .int (-3))] [] M3 Q := by
    intro e
    rw [k139_156, k139_158, if_neg (by decide), x139_161 X3, k139_167]
    exact H0 e M3 X3 C3
  cases d1 : (cf i).2.2.1 (oEnv n s) with
  | none =>
    rw [if_pos (bz_f (fun z => z.1 rfl))]
    exact bad (by rw [d1])
  | some y1 =>
    cases d2 : (cf i).2.2.2.1 (oEnv n s) with
    | none =>
      rw [if_pos (bz_f (fun z => z.2 rfl))]
      exact bad (by rw [d1, d2])
    | some y2 =>
      rw [d1, d2] at H1 H0
      simp only at H1 H0
      have q1 := v1 y1 d1
      have q2 := v2 y2 d2
      rw [if_neg (by rw [bz_t (show ¬ (some y1 : Option Int64) = none ∧ ¬ (some y2 : Option Int64) = none from ⟨fun z => (by cases z), fun z => (by cases z)⟩)]; decide), k139_94, k139_97]
      by_cases c2 : (cf i).1 = 2
      · have ek : nI (cf i).1 = 2 := by rw [c2]; rfl
        have o1 : oHat (cf i).1 y1 y2 = y2.toInt32 := by unfold oHat; rw [if_pos c2]
        have o2 : oNum (cf i).1 y1 y2 = y1.toInt32 := by unfold oNum; rw [if_pos c2]
        rw [if_neg (fun z => z ek), x139_100 X3, q2, k139_117, k139_122, if_neg (fun z => z ek), x139_125 X3, q1, k139_142]
        rw [o1, o2] at H1 H0
        exact T_ordA O hk X3 C3 W H1 H0
      · have ek : ¬ nI (cf i).1 = 2 := by rw [show (2 : Int32) = nI 2 from rfl, n_eq (by omega) (by omega)]; exact c2
        have o1 : oHat (cf i).1 y1 y2 = y1.toInt32 := by unfold oHat; rw [if_neg c2]
        have o2 : oNum (cf i).1 y1 y2 = y2.toInt32 := by unfold oNum; rw [if_neg c2]
        rw [if_pos ek, x139_110 X3, q1, k139_117, k139_122, if_pos ek, x139_135 X3, q2, k139_142]
        rw [o1, o2] at H1 H0
        exact T_ordA O hk X3 C3 W H1 H0
theorem T_ordL {M0 : hp} {n len nc i : Nat} {L : Law} {cf : Nat → Ocl} {r : Sum OSt OSt} (K : OrdK M0 n L len nc cf) (hi : i < nc) (H : match r with
    | .inr s' => WFa n s'.1 → ∀ M' x7, XS M' → ClO M0 M' s'.1 → Wp none d 139 191 [(0, .ref 64), (1, .ref 110), (2, .int s'.2.1), (3, .int s'.2.2), (4, .int (nI i)), (5, .int (nI (cf i).1)), (6, .int (nI (cf i).2.1)), (7, .int x7)] [] M' Q
    | .inl s' => WFa n s'.1 → ∀ M', XS M' → ClO M0 M' s'.1 → Q (some (.int s'.2.1)) (sI M' 64 18 (nI i))) : ∀ (k t : Nat) (s : OSt) (M : hp), t + k = (cf i).2.1 → XS M → ClO M0 M s.1 → WFa n s.1 → ordT n (hI M0 66) (hI M0 67) (hI M0 65 7) L (cf i) k s = r → Wp none d 139 37 [(0, .ref 64), (1, .ref 110), (2, .int s.2.1), (3, .int s.2.2), (4, .int (nI i)), (5, .int (nI (cf i).1)), (6, .int (nI (cf i).2.1)), (7, .int (nI t))] [] M Q := by
  have tk := K.2.2.2.2.2.2.2 i hi
  intro k
  induction k with
  | zero =>
    intro t s M e X C W hr
    unfold ordT at hr
    subst hr
    rw [k139_37, k139_41, if_pos (by rw [n_le (by omega) (by omega)]; omega)]
    exact H W M _ X C
  | succ k ih =>
    intro t s M e X C W hr
    unfold ordT at hr
    rw [k139_37, k139_41, if_neg (by rw [n_le (by omega) (by omega)]; omega)]
    refine T_ord1 K hi X C W (fun s' es W' M' X' C' => ?_) (fun es M' X' C' => ?_)
    · rw [es] at hr
      rw [k139_185, nI_1]
      exact ih (t + 1) s' M' (by omega) X' C' W' hr
    · rw [es] at hr
      have hr : (.inl s : Sum OSt OSt) = r := hr
      subst hr
      exact H W M' X' C'
theorem T_ordC {M0 : hp} {n len nc : Nat} {L : Law} {cf : Nat → Ocl} {r : Sum (Nat × OSt) OSt} (K : OrdK M0 n L len nc cf) (H : match r with
    | .inr s' => WFa n s'.1 → ∀ M', XS M' → ClO M0 M' s'.1 → Q (some (.int s'.2.1)) M'
    | .inl (i, s') => i < nc → WFa n s'.1 → ∀ M', XS M' → ClO M0 M' s'.1 → Q (some (.int s'.2.1)) (sI M' 64 18 (nI i))) : ∀ (m i : Nat) (s : OSt) (M : hp), i + m = nc → XS M → ClO M0 M s.1 → WFa n s.1 → ordC n (hI M0 66) (hI M0 67) (hI M0 65 7) L cf m i s = r → Wp none d 139 7 [(0, .ref 64), (1, .ref 110), (2, .int s.2.1), (3, .int s.2.2), (4, .int (nI i))] [] M Q := by
  have K0 := K
  obtain ⟨O, TS, t2, tl, t3, tn, tr, tk⟩ := K0
  intro m
  induction m with
  | zero =>
    intro i s M e X C W hr
    unfold ordC at hr
    subst hr
    rw [x139_7 X (x_K110 X), agr_I C.1 (a := 110) (by decide), t3, k139_13, if_pos (by rw [n_le (by omega) (by omega)]; omega), k139_197]
    exact H W M X C
  | succ m ih =>
    intro i s M e X C W hr
    have hi : i < nc := by omega
    obtain ⟨r1, r2, _⟩ := tr i hi
    have e112 : hI M 112 = hI M0 112 := agr_I C.1 (by decide)
    have TSM : TextS M 110 111 112 400 96 := X.2.2.2.2.2.2.2.2.2.2.1.2.2.2
    rw [x139_7 X (x_K110 X), agr_I C.1 (a := 110) (by decide), t3, k139_13, if_neg (by rw [n_le (by omega) (by omega)]; omega), k139_16, x139_20 X (x_K110 X), show (0 : Int32) = nI 0 from rfl, Text_cell TSM (show 8 * i + 0 < 96 by omega), Nat.add_zero, e112, r1]
    simp only [oN]
    rw [k139_23, x139_29 X (x_K110 X), show (1 : Int32) = nI 1 from rfl, Text_cell TSM (show 8 * i + 1 < 96 by omega), e112, r2]
    simp only [oN]
    rw [k139_32, show (0 : Int32) = nI 0 from rfl]
    unfold ordC at hr
    refine T_ordL (r := ordT n (hI M0 66) (hI M0 67) (hI M0 65 7) L (cf i) (cf i).2.1 s) K hi ?_ (cf i).2.1 0 s M (by omega) X C W rfl
    cases hT : ordT n (hI M0 66) (hI M0 67) (hI M0 65 7) L (cf i) (cf i).2.1 s with
    | inr s' =>
      rw [hT] at hr
      intro W' M' x7 X' C'
      rw [k139_191, nI_1]
      exact ih (i + 1) s' M' (by omega) X' C' W' hr
    | inl s' =>
      rw [hT] at hr
      have hr : (.inl (i, s') : Sum (Nat × OSt) OSt) = r := hr
      subst hr
      intro W' M' X' C'
      exact H hi W' M' X' C'
