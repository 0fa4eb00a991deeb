variable {d : Nat} {M : hp} {Q : Option Value → hp → Prop}
/-- the first place behind the cells that are made once -/
def kB : Nat := 154
def low (E : List Nat) : Prop := ∀ a, E.contains a = true → a < kB
abbrev Law : Type := Option (Nat × (Nat → Cls))
/-- a law as a value -/
def LawV (M : hp) (v : Value) (L : Law) : Prop := match L with
  | none => v = .null
  | some (n, cf) => ∃ t tc tr lc lr len, v = .ref t ∧ kB ≤ t ∧ kB ≤ tc ∧ kB ≤ tr ∧ TextD M t tc tr lc lr len n cf
/-- the law in force in a hall -/
def LawIn (M : hp) (h : Nat) (L : Law) : Prop := (hI M h 10 = -1 ∧ L = none) ∨ ∃ i, i < 6 ∧ hI M h 10 = nI i ∧ ¬ hR M (h + 5) i = 0 ∧ LawV M (.ref (hR M (h + 5) i)) L ∧ ¬ L = none
theorem agr_I {E : List Nat} {M M' : hp} (h : agr E M M') {a : Nat} (ha : E.contains a = false) : hI M' a = hI M a := (h.2.2.2.2 a ha).1
theorem agr_L {E : List Nat} {M M' : hp} (h : agr E M M') {a : Nat} (ha : E.contains a = false) : hL M' a = hL M a := (h.2.2.2.2 a ha).2
theorem agr_K {E : List Nat} {M M' : hp} (h : agr E M M') : hK M' = hK M := h.2.2.1
theorem agr_R {E : List Nat} {M M' : hp} (h : agr E M M') : hR M' = hR M := h.2.2.2.1
theorem low_not {E : List Nat} (h : low E) {a : Nat} (ha : kB ≤ a) : E.contains a = false := by
  cases e : E.contains a with
  | false => rfl
  | true => have := h a e; omega
theorem TextD_agr {E : List Nat} {M M' : hp} (h : agr E M M') {t tc tr lc lr len n : Nat} {cf : Nat → Cls} (h1 : E.contains t = false) (h2 : E.contains tc = false) (h3 : E.contains tr = false) (HT : TextD M t tc tr lc lr len n cf) : TextD M' t tc tr lc lr len n cf := by
  unfold TextD TextS SegD gI at *
  rw [agr_K h, agr_R h, agr_I h h1, agr_I h h2, agr_I h h3]
  exact HT
theorem LawV_agr {E : List Nat} {M M' : hp} (h : agr E M M') (hl : low E) {v : Value} {L : Law} (H : LawV M v L) : LawV M' v L := by
  cases L with
  | none => exact H
  | some x =>
    obtain ⟨n, cf⟩ := x
    obtain ⟨t, tc, tr, lc, lr, len, e, h1, h2, h3, HT⟩ := H
    exact ⟨t, tc, tr, lc, lr, len, e, h1, h2, h3, TextD_agr h (low_not hl h1) (low_not hl h2) (low_not hl h3) HT⟩
theorem LawIn_agr {E : List Nat} {M M' : hp} (h : agr E M M') (hl : low E) {p : Nat} (hp : E.contains p = false) {L : Law} (H : LawIn M p L) : LawIn M' p L := by
  unfold LawIn at *
  rw [agr_R h, agr_I h hp]
  rcases H with H | ⟨i, h1, h2, h3, h4, h5⟩
  · exact Or.inl H
  · exact Or.inr ⟨i, h1, h2, h3, LawV_agr h hl h4, h5⟩
theorem HallS_agr {E : List Nat} {M M' : hp} (h : agr E M M') {p : Nat} (H : HallS M p) : HallS M' p := HallS_of H (agr_K h) (agr_R h)
theorem NightS_agr {E : List Nat} {M M' : hp} (h : agr E M M') {p : Nat} (H : NightS M p) : NightS M' p := by
  unfold NightS MachS at *
  rw [agr_K h, agr_R h]
  exact H
/-- the answer of a law, or of none -/
def ansF (L : Law) (kind : Int32) (e : Nat → Int32) : Int32 := match L with
  | none => ansV kind none
  | some (n, cf) => ansV kind (ansI cf kind e n)
def envF (M : hp) (h j : Nat) (oth ko th : Int32) : Nat → Int32 := lwF j (hI M (h + 1)) (hI M (h + 2)) (hI M (h + 4)) oth ko th (hI M h 5) (hI M h 7)
/-- the cells that the night writes while it asks -/
def nE (p : Nat) : List Nat := [p + 1, p + 2, p + 3]
theorem nE_not {p a : Nat} (h : a ≤ p ∨ p + 4 ≤ a) : (nE p).contains a = false := by
  unfold nE
  simp
  omega
theorem nE_low {p : Nat} (h : p + 3 < kB) : low (nE p) := by
  intro a q
  unfold nE at q
  simp at q
  omega
theorem answerL {p h j : Nat} {v : Value} {L : Law} {kind oth ko th : Int32} (HN : NightS M p) (H : HallS M h) (HL : LawV M v L) (hj : j < 7) (hs : sm (hI M (h + 4) j)) (ho : (oth = -1 ∧ ko = -1) ∨ ∃ o, o < 7 ∧ oth = nI o ∧ ko = hI M (h + 1) o) (ha : p + 5 < h ∨ h + 5 < p) (hB : p + 5 < kB)
    (hQ : ∀ M', agr (nE p) M M' → Q (some (.int (ansF L kind (envF M h j oth ko th)))) M') : Wp none d 35 0 [(0, .ref p), (1, .ref h), (2, v), (3, .int kind), (4, .int (nI j)), (5, .int oth), (6, .int th)] [] M Q := by
  cases L with
  | none =>
    have e : v = .null := HL
    subst e
    rw [answer_n]
    exact hQ M (agr_refl _ _)
  | some x =>
    obtain ⟨n, cf⟩ := x
    obtain ⟨t, tc, tr, lc, lr, len, e, h1, h2, h3, HT⟩ := HL
    subst e
    exact answer_ok HN H HT hj hs ho ha (by omega) (by omega) (by omega) hQ
theorem lawIn_ok {h : Nat} {L : Law} (H : HallS M h) (HL : LawIn M h L) : ∃ v, LawV M v L ∧ isRv v ∧ ∀ (d : Nat) (Q : Option Value → hp → Prop), Wp none d 11 0 [(0, .ref h)] [] M Q = Q (some v) M := by
  rcases HL with ⟨h1, h2⟩ | ⟨i, h1, h2, h3, h4, h5⟩
  · subst h2
    exact ⟨.null, rfl, isRv_null, fun d Q => Hall_lawInForce_n H h1⟩
  · exact ⟨.ref (hR M (h + 5) i), h4, isRv_ref _, fun d Q => Hall_lawInForce H h2 h1 rfl h3⟩
theorem LawV_cases {v : Value} {L : Law} (H : LawV M v L) : (v = .null) ∨ ∃ t, v = .ref t := by
  cases L with
  | none => exact Or.inl H
  | some x =>
    obtain ⟨n, cf⟩ := x
    obtain ⟨t, tc, tr, lc, lr, len, e, _⟩ := H
    exact Or.inr ⟨t, e⟩
/-- which thoughts are told: opn may be, as many as left -/
def tldF (opn : Int32) (bar : Nat → Int32) : Nat → Nat → Int32 → Int32 → Int32
  | 0, _, _, s => s
  | k + 1, t, l, s => if l ≤ 0 then s else if (opn >>> (nI t &&& 31)) &&& 1 = 1 ∧ bar t = 0 then tldF opn bar k (t + 1) (l - 1) (s ||| ((1 : Int32) <<< (nI t &&& 31))) else tldF opn bar k (t + 1) l s
theorem tld_loop_n {p h j o tt : Nat} {L : Law} {opn : Int32} {M0 : hp} (HN : NightS M0 p) (H : HallS M0 h) (HL : LawV M0 .null L) (hj : j < 7) (ho7 : o < 7) (hs : sm (hI M0 (h + 4) j)) (ha : p + 5 < h ∨ h + 5 < p) (hB : p + 5 < kB) : ∀ (k th : Nat) (l s : Int32) (M : hp), th + k = 8 → agr (nE p) M0 M → (∀ M', agr (nE p) M0 M' → Q (some (.int (tldF opn (fun th => ansF L 2 (envF M0 h j (nI o) (hI M0 (h + 1) o) (nI th))) k th l s))) M') → Wp none d 38 53 [(0, .ref p), (1, .ref h), (2, .int (nI j)), (3, .int (nI o)), (4, .int opn), (5, .null), (6, .int l), (7, .int s), (8, .int (nI th))] [] M Q := by
  intro k
  induction k with
  | zero =>
    intro th l s M e hag hQ
    have : th = 8 := by omega
    subst this
    rw [k38_53n, k38_57n, if_pos (by decide), k38_121n]
    exact hQ M hag
  | succ k ih =>
    intro th l s M e hag hQ
    have c : ¬ (8 : Int32) ≤ nI th := by
      show ¬ nI 8 ≤ nI th
      rw [n_le (by omega) (by omega)]
      omega
    rw [k38_53n, k38_57n, if_neg c, k38_60n, k38_62n]
    unfold tldF at hQ
    by_cases cl : l ≤ 0
    · simp only [if_pos cl] at hQ
      rw [if_pos cl, k38_121n]
      exact hQ M hag
    · simp only [if_neg cl] at hQ
      rw [if_neg cl, k38_65n, k38_73n]
      by_cases cb : (opn >>> (nI th &&& 31)) &&& 1 = 1
      · have h1 : ¬ h = p + 1 := by omega
        have z : ∀ a, a = h ∨ a = h + 1 ∨ a = h + 2 ∨ a = h + 4 → hI M a = hI M0 a := fun a q => agr_I hag (nE_not (by omega))
        rw [if_neg (fun q => q cb), k38_76n, k38_81n, k38_85n, if_neg (by decide), k38_88n, k38_97nn (by rw [agr_K hag]; exact HN.2.1)]
        refine answerL (ko := hI M0 (h + 1) o) (NightS_agr hag HN) (HallS_agr hag H) (LawV_agr hag (nE_low (by omega)) HL) hj (by rw [z _ (by omega)]; exact hs) (Or.inr ⟨o, ho7, rfl, by rw [z _ (by omega)]⟩) ha hB ?_
        intro M' a1
        have eE : envF M h j (nI o) (hI M0 (h + 1) o) (nI th) = envF M0 h j (nI o) (hI M0 (h + 1) o) (nI th) := by
          unfold envF
          rw [z h (by omega), z (h + 1) (by omega), z (h + 2) (by omega), z (h + 4) (by omega)]
        rw [eE]
        have a2 := agr_trans hag a1
        simp only [oN]
        rw [k38_100n]
        by_cases c2 : ansF L 2 (envF M0 h j (nI o) (hI M0 (h + 1) o) (nI th)) = 0
        · simp only [if_pos (And.intro cb c2)] at hQ
          rw [if_neg (fun q => q c2), k38_103n, k38_115n, nI_1, n_addm1]
          exact ih (th + 1) _ _ M' (by omega) a2 hQ
        · simp only [if_neg (fun q => c2 (And.right q))] at hQ
          rw [if_pos c2, k38_115n, nI_1]
          exact ih (th + 1) _ _ M' (by omega) a2 hQ
      · simp only [if_neg (fun q => cb (And.left q))] at hQ
        rw [if_pos cb, k38_80n, k38_81n, k38_85n, if_pos rfl, k38_115n, nI_1]
        exact ih (th + 1) _ _ M (by omega) hag hQ
theorem tld_loop_r {p h j o tt : Nat} {L : Law} {opn : Int32} {M0 : hp} (HN : NightS M0 p) (H : HallS M0 h) (HL : LawV M0 (.ref tt) L) (hj : j < 7) (ho7 : o < 7) (hs : sm (hI M0 (h + 4) j)) (ha : p + 5 < h ∨ h + 5 < p) (hB : p + 5 < kB) : ∀ (k th : Nat) (l s : Int32) (M : hp), th + k = 8 → agr (nE p) M0 M → (∀ M', agr (nE p) M0 M' → Q (some (.int (tldF opn (fun th => ansF L 2 (envF M0 h j (nI o) (hI M0 (h + 1) o) (nI th))) k th l s))) M') → Wp none d 38 53 [(0, .ref p), (1, .ref h), (2, .int (nI j)), (3, .int (nI o)), (4, .int opn), (5, (.ref tt)), (6, .int l), (7, .int s), (8, .int (nI th))] [] M Q := by
  intro k
  induction k with
  | zero =>
    intro th l s M e hag hQ
    have : th = 8 := by omega
    subst this
    rw [k38_53r, k38_57r, if_pos (by decide), k38_121r]
    exact hQ M hag
  | succ k ih =>
    intro th l s M e hag hQ
    have c : ¬ (8 : Int32) ≤ nI th := by
      show ¬ nI 8 ≤ nI th
      rw [n_le (by omega) (by omega)]
      omega
    rw [k38_53r, k38_57r, if_neg c, k38_60r, k38_62r]
    unfold tldF at hQ
    by_cases cl : l ≤ 0
    · simp only [if_pos cl] at hQ
      rw [if_pos cl, k38_121r]
      exact hQ M hag
    · simp only [if_neg cl] at hQ
      rw [if_neg cl, k38_65r, k38_73r]
      by_cases cb : (opn >>> (nI th &&& 31)) &&& 1 = 1
      · have h1 : ¬ h = p + 1 := by omega
        have z : ∀ a, a = h ∨ a = h + 1 ∨ a = h + 2 ∨ a = h + 4 → hI M a = hI M0 a := fun a q => agr_I hag (nE_not (by omega))
        rw [if_neg (fun q => q cb), k38_76r, k38_81r, k38_85r, if_neg (by decide), k38_88r, k38_97rr (by rw [agr_K hag]; exact HN.2.1)]
        refine answerL (ko := hI M0 (h + 1) o) (NightS_agr hag HN) (HallS_agr hag H) (LawV_agr hag (nE_low (by omega)) HL) hj (by rw [z _ (by omega)]; exact hs) (Or.inr ⟨o, ho7, rfl, by rw [z _ (by omega)]⟩) ha hB ?_
        intro M' a1
        have eE : envF M h j (nI o) (hI M0 (h + 1) o) (nI th) = envF M0 h j (nI o) (hI M0 (h + 1) o) (nI th) := by
          unfold envF
          rw [z h (by omega), z (h + 1) (by omega), z (h + 2) (by omega), z (h + 4) (by omega)]
        rw [eE]
        have a2 := agr_trans hag a1
        simp only [oN]
        rw [k38_100r]
        by_cases c2 : ansF L 2 (envF M0 h j (nI o) (hI M0 (h + 1) o) (nI th)) = 0
        · simp only [if_pos (And.intro cb c2)] at hQ
          rw [if_neg (fun q => q c2), k38_103r, k38_115r, nI_1, n_addm1]
          exact ih (th + 1) _ _ M' (by omega) a2 hQ
        · simp only [if_neg (fun q => c2 (And.right q))] at hQ
          rw [if_pos c2, k38_115r, nI_1]
          exact ih (th + 1) _ _ M' (by omega) a2 hQ
      · simp only [if_neg (fun q => cb (And.left q))] at hQ
        rw [if_pos cb, k38_80r, k38_81r, k38_85r, if_pos rfl, k38_115r, nI_1]
        exact ih (th + 1) _ _ M (by omega) hag hQ
/-- what a hat tells another one -/
def toldF (L : Law) (M : hp) (h j o : Nat) : Int32 := if hI M (h + 4) j &&& (hI M (h + 4) o ^^^ (-1)) = 0 then 0 else tldF (hI M (h + 4) j &&& (hI M (h + 4) o ^^^ (-1))) (fun th => ansF L 2 (envF M h j (nI o) (hI M (h + 1) o) (nI th))) 8 0 (ansF L 0 (envF M h j (nI o) (hI M (h + 1) o) (-1))) 0
theorem Night_toldBy {p h j o : Nat} {L : Law} (HN : NightS M p) (H : HallS M h) (HL : LawIn M h L) (hj : j < 7) (ho7 : o < 7) (hs : sm (hI M (h + 4) j)) (ha : p + 5 < h ∨ h + 5 < p) (hB : p + 5 < kB) (hQ : ∀ M', agr (nE p) M M' → Q (some (.int (toldF L M h j o))) M') : Wp none d 38 0 [(0, .ref p), (1, .ref h), (2, .int (nI j)), (3, .int (nI o))] [] M Q := by
  have nz : ¬ hR M h 3 = 0 := by rw [H.2.2.2.2.2.1]; omega
  rw [k38_0 H.2.1 nz, H.2.2.2.2.2.1, k38_5, at_W H hj]
  simp only [oN]
  rw [k38_8 H.2.1 nz, H.2.2.2.2.2.1, k38_13, at_W H ho7]
  simp only [oM]
  rw [k38_16, k38_23]
  by_cases c : hI M (h + 4) j &&& (hI M (h + 4) o ^^^ (-1)) = 0
  · rw [if_neg (fun q => q c), k38_26]
    have q := hQ M (agr_refl _ _)
    unfold toldF at q
    rw [if_pos c] at q
    exact q
  · rw [if_pos c, k38_28, k38_29 H.2.1]
    obtain ⟨v, hv, hr, hw⟩ := lawIn_ok H HL
    rw [hw]
    simp only [oN]
    unfold toldF at hQ
    simp only [if_neg c] at hQ
    rcases LawV_cases hv with e | ⟨t, e⟩
    · subst e
      rw [k38_32n, k38_42nn HN.2.1]
      refine answerL (ko := hI M (h + 1) o) HN H hv hj hs (Or.inr ⟨o, ho7, rfl, rfl⟩) ha hB ?_
      intro M' a1
      simp only [oN]
      rw [k38_45n]
      exact tld_loop_n (tt := 0) HN H hv hj ho7 hs ha hB 8 0 _ 0 M' (by omega) a1 hQ
    · subst e
      rw [k38_32r, k38_42rr HN.2.1]
      refine answerL (ko := hI M (h + 1) o) HN H hv hj hs (Or.inr ⟨o, ho7, rfl, rfl⟩) ha hB ?_
      intro M' a1
      simp only [oN]
      rw [k38_45r]
      exact tld_loop_r HN H hv hj ho7 hs ha hB 8 0 _ 0 M' (by omega) a1 hQ
theorem tldF_sm (opn : Int32) (bar : Nat → Int32) : ∀ (k t : Nat) (l s : Int32), t + k = 8 → sm s → sm (tldF opn bar k t l s)
  | 0, _, _, _, _, h => h
  | k + 1, t, l, s, e, h => by
    unfold tldF
    split
    · exact h
    · split
      · exact tldF_sm opn bar k (t + 1) _ _ (by omega) (sm_or h (sm_bit t (by omega)))
      · exact tldF_sm opn bar k (t + 1) _ _ (by omega) h
theorem toldF_sm (L : Law) (M : hp) (h j o : Nat) : sm (toldF L M h j o) := by
  unfold toldF
  split
  · exact sm_0
  · exact tldF_sm _ _ 8 0 _ _ (by omega) sm_0
