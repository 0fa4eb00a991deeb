variable {d : Nat} {M : hp} {Q : Option Value → hp → Prop}
/-! clauses, as the reference reads them; a: the array of their cells -/
def lk (k : Nat) : Bool := pk k || Nat.beq k 21
def LF (a : Nat) (M0 M' : hp) (i c : Nat) : Prop := agr [126, a, 137, 138, 139, 140] M0 M' ∧ (∀ k, lk k = false → hI M' 126 k = hI M0 126 k) ∧ ((∀ k, ¬ k = 17 → hL M' 126 k = hL M0 126 k) ∧ FB M0 M') ∧ (∀ j, j < c → hI M' 137 j = hI M0 137 j ∧ hI M' 138 j = hI M0 138 j) ∧ ∀ j, j < 8 * i → hI M' a j = hI M0 a j
def cla (a : Nat) : Prop := a = 136 ∨ a = 152
theorem LF_refl (a : Nat) (M : hp) (i c : Nat) : LF a M M i c := ⟨agr_refl _ _, fun _ _ => rfl, ⟨fun _ _ => rfl, FB_refl M⟩, fun _ _ => ⟨rfl, rfl⟩, fun _ _ => rfl⟩
theorem LF_trans {a : Nat} {M M1 M2 : hp} {i c i1 c1 : Nat} (h : LF a M M1 i c) (h2 : LF a M1 M2 i1 c1) (hi : i ≤ i1) (hc : c ≤ c1) : LF a M M2 i c := ⟨agr_trans h.1 h2.1, fun k q => (h2.2.1 k q).trans (h.2.1 k q), ⟨fun k q => (h2.2.2.1.1 k q).trans (h.2.2.1.1 k q), FB_trans h.2.2.1.2 h2.2.2.1.2⟩, fun j hj => ⟨((h2.2.2.2.1 j (by omega)).1).trans (h.2.2.2.1 j hj).1, ((h2.2.2.2.1 j (by omega)).2).trans (h.2.2.2.1 j hj).2⟩, fun j hj => (h2.2.2.2.2 j (by omega)).trans (h.2.2.2.2 j hj)⟩
theorem lk_pk {k : Nat} (h : lk k = false) : pk k = false := by
  unfold lk at h
  rw [Bool.or_eq_false_iff] at h
  exact h.1
theorem LF_pFr {a : Nat} (ha : cla a) {M M' : hp} {i c : Nat} (h : pFr M M') (hc : ∀ j, j < c → hI M' 137 j = hI M 137 j ∧ hI M' 138 j = hI M 138 j) : LF a M M' i c := ⟨agr_mono h.1 (by intro x q; simp at q ⊢; omega), fun k q => h.2.1 k (lk_pk q), h.2.2, hc, fun j _ => by rw [agr_I h.1 (by rcases ha with rfl | rfl <;> decide)]⟩
theorem LF_tk {a : Nat} (ha : cla a) {M M' : hp} {i c : Nat} (h : tkS M M') : LF a M M' i c := LF_pFr ha (tkS_pFr h) (fun j _ => ⟨by rw [agr_I h.1 (by decide)], by rw [agr_I h.1 (by decide)]⟩)
theorem LF_cell {a : Nat} (ha : cla a) {M : hp} {i c j : Nat} {v : Int32} (hj : 8 * i ≤ j) : LF a M (sI M a j v) i c := ⟨agr_sI (by simp), fun k _ => hI_sI_a (by rcases ha with rfl | rfl <;> decide), ⟨fun k _ => rfl, FB_eq (FB_refl M) (hI_sI_a (by rcases ha with rfl | rfl <;> decide)) (hI_sI_a (by rcases ha with rfl | rfl <;> decide))⟩, fun k _ => ⟨hI_sI_a (by rcases ha with rfl | rfl <;> decide), hI_sI_a (by rcases ha with rfl | rfl <;> decide)⟩, fun k hk => hI_sI_k (by omega)⟩
theorem LF_21 {a : Nat} (ha : cla a) {M : hp} {i c : Nat} {v : Int32} : LF a M (sI M 126 21 v) i c := ⟨agr_sI (by simp), fun k q => hI_sI_k (fun e => by rw [e] at q; exact absurd q (by decide)), ⟨fun k _ => rfl, FB_eq (FB_refl M) (hI_sI_k (by decide)) (hI_sI_k (by decide))⟩, fun k _ => ⟨hI_sI_a (by decide), hI_sI_a (by decide)⟩, fun k _ => hI_sI_a (by rcases ha with rfl | rfl <;> decide)⟩
theorem MF_LF {a : Nat} {M M' : hp} {i c : Nat} (F : MF M) (h : LF a M M' i c) : MF M' := MF_agr F h.1
theorem TR_LF {a : Nat} (ha : cla a) {M M' : hp} {b : Nat → Nat} {L i c : Nat} (T : TR M b L) (h : LF a M M' i c) : TR M' b L := TR_of T (h.2.1 13 (by decide)) (agr_I h.1 (by rcases ha with rfl | rfl <;> decide))
theorem MWd_LF {a : Nat} (ha : cla a) {M M' : hp} {i c : Nat} (W : MWd M) (h : LF a M M' i c) : MWd M' := by
  rcases ha with rfl | rfl
  · exact MWd_of W (agr_L h.1 (by decide)) (agr_L h.1 (by decide)) (agr_L h.1 (by decide)) (agr_L h.1 (by decide))
  · exact MWd_of W (agr_L h.1 (by decide)) (agr_L h.1 (by decide)) (agr_L h.1 (by decide)) (agr_L h.1 (by decide))
theorem XP_cell {a : Nat} (ha : cla a) {b : Nat → Nat} {L s n c j : Nat} {o : Bool} {v : Int32} (X : XP M b L o s n c) : XP (sI M a j v) b L o s n c := by
  have z : ¬ 126 = a := by rcases ha with rfl | rfl <;> decide
  obtain ⟨a1, a2, a3, a4, a5, a6, a7⟩ := X
  exact ⟨NTk_fr a1 (hI_sI_a z) (hI_sI_a z) (hI_sI_a z) rfl, (hI_sI_a z).trans a2, (hI_sI_a z).trans a3, (hI_sI_a z).trans a4, (hI_sI_a z).trans a5, a6, a7⟩
theorem XP_21 {b : Nat → Nat} {L s n c : Nat} {o : Bool} {v : Int32} (X : XP M b L o s n c) : XP (sI M 126 21 v) b L o s n c := by
  obtain ⟨a1, a2, a3, a4, a5, a6, a7⟩ := X
  exact ⟨NTk_fr a1 (hI_sI_k (by decide)) (hI_sI_k (by decide)) (hI_sI_k (by decide)) rfl, (hI_sI_k (by decide)).trans a2, (hI_sI_k (by decide)).trans a3, (hI_sI_k (by decide)).trans a4, (hI_sI_k (by decide)).trans a5, a6, a7⟩
theorem XP_tk {M' : hp} {b : Nat → Nat} {L s n c s' : Nat} {o : Bool} (X : XP M b L o s n c) (t : tkS M M') (K : NTk M' b L s') (hs : s ≤ s') : XP M' b L o s' n c := by
  obtain ⟨a1, a2, a3, a4, a5, a6, a7⟩ := X
  have e : ∀ j, ¬ j = 14 → ¬ j = 15 → ¬ j = 16 → hI M' 126 j = hI M 126 j := t.2.1
  exact ⟨K, (e 19 (by decide) (by decide) (by decide)).trans a2, (e 26 (by decide) (by decide) (by decide)).trans a3, (e 23 (by decide) (by decide) (by decide)).trans a4, (e 20 (by decide) (by decide) (by decide)).trans a5, a6, by omega⟩
/-- a fault, the cells aside -/
def LBd (a : Nat) (M0 M' : hp) (q : Nat) : Prop := LF a M0 M' 0 0 ∧ hI M' 126 19 = 1 ∧ hI M' 126 18 = nI q
theorem LBd_cell {a : Nat} (ha : cla a) {M0 M' : hp} {q j : Nat} {v : Int32} (h : LBd a M0 M' q) : LBd a M0 (sI M' a j v) q := by
  have z : ¬ 126 = a := by rcases ha with rfl | rfl <;> decide
  exact ⟨LF_trans h.1 (LF_cell ha (by omega)) (Nat.le_refl _) (Nat.le_refl _), (hI_sI_a z).trans h.2.1, (hI_sI_a z).trans h.2.2⟩
theorem LBd_pre {a : Nat} {M0 M1 M' : hp} {q i c : Nat} (h : LF a M0 M1 i c) (h2 : LBd a M1 M' q) : LBd a M0 M' q := by
  refine ⟨?_, h2.2⟩
  have := h2.1
  exact ⟨agr_trans h.1 this.1, fun k q => (this.2.1 k q).trans (h.2.1 k q), ⟨fun k q => (this.2.2.1.1 k q).trans (h.2.2.1.1 k q), FB_trans h.2.2.1.2 this.2.2.1.2⟩, fun j hj => absurd hj (by omega), fun j hj => absurd hj (by omega)⟩
theorem LBd_X {a : Nat} (ha : cla a) {M0 M' : hp} {q : Nat} (fr : pFr M0 M') (e1 : hI M' 126 19 = 1) (e2 : hI M' 126 18 = nI q) : LBd a M0 M' q := ⟨LF_pFr ha fr (fun j hj => absurd hj (by omega)), e1, e2⟩
/-- a stretch told by two cells -/
def Rg (M : hp) (o : Bool) (x y : Int32) (len : Nat) (D : Den) : Prop := ∃ f g, x = nI f ∧ y = nI g ∧ f ≤ g ∧ g ≤ len ∧ ((f = g ∧ D = oneD) ∨ SegR o (hI M 137) (hI M 138) f g D)
theorem Rg_keep {M M' : hp} {o : Bool} {x y x' y' : Int32} {len len' : Nat} {D : Den} (h : Rg M o x y len D) (hc : ∀ j, j < len → hI M' 137 j = hI M 137 j ∧ hI M' 138 j = hI M 138 j) (hx : x' = x) (hy : y' = y) (hl : len ≤ len') : Rg M' o x' y' len' D := by
  obtain ⟨f, g, q1, q2, q3, q4, q5⟩ := h
  refine ⟨f, g, hx.trans q1, hy.trans q2, q3, by omega, ?_⟩
  rcases q5 with q5 | q5
  · exact Or.inl q5
  · exact Or.inr (SegR_cong q5 (fun j r1 r2 => ⟨(hc j (by omega)).1.symm, (hc j (by omega)).2.symm⟩))
/-- a clause of a law in the reference's cells -/
def mClsR (M : hp) (len i : Nat) (x : Cls) : Prop := hI M 136 (8 * i) = x.1 ∧ ((x.1 = nI 2 ∧ x.2.1 = oneD) ∨ (¬ x.1 = nI 2 ∧ ∃ f g, hI M 136 (8 * i + 3) = nI f ∧ hI M 136 (8 * i + 4) = nI g ∧ g ≤ len ∧ SegR false (hI M 137) (hI M 138) f g x.2.1)) ∧ Rg M false (hI M 136 (8 * i + 5)) (hI M 136 (8 * i + 6)) len x.2.2
theorem mClsR_keep {M M' : hp} {i j c c1 : Nat} {x : Cls} (h : mClsR M c j x) (k : LF 136 M M' i c) (hj : j < i) (hc : c ≤ c1) : mClsR M' c1 j x := by
  have cell : ∀ w, w < 8 → hI M' 136 (8 * j + w) = hI M 136 (8 * j + w) := fun w hw => k.2.2.2.2 _ (by omega)
  obtain ⟨h1, h2, h3⟩ := h
  refine ⟨(cell 0 (by omega)).trans h1, ?_, Rg_keep h3 k.2.2.2.1 (cell 5 (by omega)) (cell 6 (by omega)) hc⟩
  rcases h2 with h2 | ⟨h2, f, g, q1, q2, q3, q4⟩
  · exact Or.inl h2
  · exact Or.inr ⟨h2, f, g, (cell 3 (by omega)).trans q1, (cell 4 (by omega)).trans q2, by omega, SegR_cong q4 (fun l r1 r2 => ⟨((k.2.2.2.1 l (by omega)).1).symm, ((k.2.2.2.1 l (by omega)).2).symm⟩)⟩
/-- which word is the head -/
def pAt0 (l : List (List Nat)) (t : List Nat) (k : Nat) : Int32 := fo (fun j x => if t = l.getD j [] then nI j else x) 0 k (-1)
theorem pAt0_ix {l : List (List Nat)} {t : List Nat} (hl : ∀ j, j < l.length → pAt0 l (l.getD j []) l.length = nI j) : pAt0 l t l.length = ixI (wix l t) := by
  cases e : wix l t with
  | none =>
    show pAt0 l t l.length = -1
    unfold pAt0
    exact fo_inv (fun x => x = -1) l.length 0 (-1) rfl (fun j a _ hj ha => by
      rw [if_neg (wix_none l t e j (by omega))]
      exact ha)
  | some j =>
    have h1 := wix_at l t j e
    have h2 := wix_lt l t j e
    rw [h1]
    exact hl j h2
theorem law_head {b : Nat → Nat} {L s : Nat} (F : MF M) (W : MWd M) (K : NTk M b L s) : Wp none d 212 0 [(0, .ref 126)] [] M Q = Wp none d 212 34 [(0, .ref 126), (1, .int (ixI (wix kwL (wrd b L s)))), (2, .int (nI 3))] [] M Q := by
  have key := for_up (W := fun i a => Wp none d 212 4 [(0, .ref 126), (1, .int a), (2, .int (nI i))] [] M Q) (f := fun j x => if wrd b L s = kwL.getD j [] then nI j else x) (n := 3) (fun i a hi => by
    have hv : vin (nI i) 3 = true := by rw [vin_n (by omega)]; exact decide_eq_true hi
    show Wp none d 212 4 [(0, .ref 126), (1, .int a), (2, .int (nI i))] [] M Q = Wp none d 212 4 [(0, .ref 126), (1, .int (if wrd b L s = kwL.getD i [] then nI i else a)), (2, .int (nI (i + 1)))] [] M Q
    rw [k212_4, k212_6, show (3 : Int32) = nI 3 from rfl, lei (by omega) (by omega), if_neg (by omega), m212_9 F hv, n_cl (by omega), m212_16 F, mIsWord F K (kwOk_get (l := kwL) (by decide) hi) (W.2.2.1 i hi)]
    simp only [oN]
    rw [k212_19, bzi]
    by_cases c : wrd b L s = kwL.getD i []
    · rw [if_neg (fun z => z c), k212_22, k212_27, if_pos c, nI_1]
    · rw [if_pos c, k212_26, k212_27, if_neg c, nI_1]) 3 0 (-1) (by omega)
  rw [k212_0]
  refine (show _ = _ from key).trans ?_
  show Wp none d 212 4 [(0, .ref 126), (1, .int (pAt0 kwL (wrd b L s) 3)), (2, .int (nI 3))] [] M Q = _
  rw [k212_4, k212_6, if_pos (by decide), show (3 : Nat) = kwL.length from rfl, pAt0_ix (by decide)]
/-- from M on only cells of an array behind 8 i have changed -/
def cL (a : Nat) (M M' : hp) (i : Nat) : Prop := agr [a] M M' ∧ ∀ j, j < 8 * i → hI M' a j = hI M a j
theorem cL_LF {a : Nat} (ha : cla a) {M M' : hp} {i c : Nat} (h : cL a M M' i) : LF a M M' i c := by
  have n26 : ([a] : List Nat).contains 126 = false := by rcases ha with rfl | rfl <;> decide
  have n37 : ([a] : List Nat).contains 137 = false := by rcases ha with rfl | rfl <;> decide
  have n38 : ([a] : List Nat).contains 138 = false := by rcases ha with rfl | rfl <;> decide
  exact ⟨agr_mono h.1 (by intro x q; simp at q ⊢; omega), fun k _ => by rw [agr_I h.1 n26], ⟨fun k _ => by rw [agr_L h.1 n26], FB_eq (FB_refl M) (by rw [agr_I h.1 n26]) (by rw [agr_I h.1 n26])⟩, fun j _ => ⟨by rw [agr_I h.1 n37], by rw [agr_I h.1 n38]⟩, h.2⟩
theorem XP_cL {a : Nat} (ha : cla a) {M' : hp} {b : Nat → Nat} {L s n c i : Nat} {o : Bool} (X : XP M b L o s n c) (h : cL a M M' i) : XP M' b L o s n c := by
  have n26 : ([a] : List Nat).contains 126 = false := by rcases ha with rfl | rfl <;> decide
  have e := agr_I h.1 n26
  obtain ⟨a1, a2, a3, a4, a5, a6, a7⟩ := X
  exact ⟨NTk_fr a1 (by rw [e]) (by rw [e]) (by rw [e]) (by rw [agr_L h.1 n26]), by rw [e]; exact a2, by rw [e]; exact a3, by rw [e]; exact a4, by rw [e]; exact a5, a6, a7⟩
/-- the cells of a clause are cleared -/
theorem law_clear {i : Nat} {x1 : Int32} (hi : i < 12) : ∀ (k j : Nat) (M1 : hp), j + k = 8 → MF M1 → cL 136 M M1 i → (∀ M', cL 136 M M' i → Wp none d 212 96 [(0, .ref 126), (1, .int x1), (2, .int (nI (8 * i))), (3, .int (nI 8))] [] M' Q) → Wp none d 212 75 [(0, .ref 126), (1, .int x1), (2, .int (nI (8 * i))), (3, .int (nI j))] [] M1 Q := by
  intro k
  induction k with
  | zero =>
    intro j M1 e F fr hk
    have : j = 8 := by omega
    subst this
    rw [k212_75, k212_78, if_pos (by decide)]
    exact hk M1 fr
  | succ k ih =>
    intro j M1 e F fr hk
    have hv : vin (nI (8 * i + j)) 96 = true := by rw [vin_n (by omega)]; exact decide_eq_true (by omega)
    rw [k212_75, k212_78, show (8 : Int32) = nI 8 from rfl, lei (by omega) (by omega), if_neg (by omega), m212_81 F (by rw [nI_add]; exact hv), nI_add, n_cl (by omega), k212_90, nI_1]
    exact ih (j + 1) _ (by omega) F ⟨agr_trans fr.1 (agr_sI (by decide)), fun l hl => (hI_sI_k (by omega)).trans (fr.2 l hl)⟩ hk
def LRs {γ : Type} (a : Nat) (Cr : hp → Nat → Nat → γ → Prop) (M0 : hp) (b : Nat → Nat) (L : Nat) (o : Bool) (i c : Nat) (Q : Option Value → hp → Prop) (r : Sum Nat (Nat × Nat × γ)) : Prop := match r with
  | .inl q => ∀ M', LBd a M0 M' q → Q none M'
  | .inr (s1, n1, x) => ∀ M' c1, LF a M0 M' i c → XP M' b L o s1 n1 c1 → hI M' 126 21 = nI (i + 1) → c ≤ c1 → Cr M' c1 i x → Q none M'
theorem v96 {j : Nat} (h : j < 96) : vin (nI j) 96 = true := by rw [vin_n (by omega)]; exact decide_eq_true h
/-- a clause that comes too many -/
theorem law_13 {b : Nat → Nat} {L s n c i : Nat} (F : MF M) (W : MWd M) (X : XP M b L false s n c) (h21 : hI M 126 21 = nI i) (hi : i = 12 ∨ (i < 12 ∧ wix kwL (wrd b L s) = none)) : Wp none d 212 0 [(0, .ref 126)] [] M Q = Q none (badM M s) := by
  have F1 : MF (badM M s) := F
  have h0 : ∀ x : Int32, Wp none d 212 53 [(0, .ref 126), (1, .int x), (2, .int (nI 3))] [.ref 126] M Q = Q none (badM M s) := by
    intro x
    rw [k212_53, m212_54 F, must_n F X.1 X.2.1]
    simp only [oZ]
    show Wp none d 212 57 [(0, .ref 126), (1, .int x), (2, .int (nI 3))] [] (badM M s) Q = _
    rw [m212_57 F1, badM_19, k212_61, if_neg (by decide), k212_64]
  rw [law_head F W X.1, k212_34, k212_37]
  by_cases c1 : ixI (wix kwL (wrd b L s)) = -1
  · rw [if_pos c1, h0]
  · rw [if_neg c1, m212_40 F, h21, k212_46, show (12 : Int32) = nI 12 from rfl, lei (by omega) (by omega), if_pos, h0]
    rcases hi with hi | hi
    · omega
    · exfalso
      apply c1
      rw [hi.2]
      rfl
/-- the "if" of a clause -/
theorem law_if {M0 : hp} {b : Nat → Nat} {L s1 n1 c c1 i k : Nat} {x1 x3 : Int32} {D1 : Den} (F0 : MF M0) (T0 : TR M0 b L) (W0 : MWd M0) (hi : i < 12) (fr : LF 136 M0 M i c) (X : XP M b L false s1 n1 c1) (h21 : hI M 126 21 = nI (i + 1)) (hc : c ≤ c1) (hk : hI M 136 (8 * i) = nI k) (hf : (nI k = nI 2 ∧ D1 = oneD) ∨ (¬ nI k = nI 2 ∧ ∃ f g, hI M 136 (8 * i + 3) = nI f ∧ hI M 136 (8 * i + 4) = nI g ∧ g ≤ c1 ∧ SegR false (hI M 137) (hI M 138) f g D1)) (h5 : hI M 136 (8 * i + 5) = nI c1)
    (H : LRs 136 mClsR M0 b L false i c Q (match ifP b L false s1 n1 with
      | .inl q => .inl q
      | .inr (s2, n2, D2) => .inr (s2, n2, (nI k, D1, D2)))) : Wp none d 212 159 [(0, .ref 126), (1, .int x1), (2, .int (nI (8 * i))), (3, .int x3)] [] M Q := by
  have ha : cla 136 := Or.inl rfl
  have F := MF_LF F0 fr
  have T := TR_LF ha T0 fr
  have W := MWd_LF ha W0 fr
  have e6 : nI (8 * i) + 6 = nI (8 * i + 6) := by rw [show (6 : Int32) = nI 6 from rfl, nI_add]
  unfold ifP at H
  rw [m212_159 F, X.2.1, k212_163, if_neg (by decide), k212_166, m212_170 F, mIsWord F X.1 (show kwOk kwIf = true by decide) (show (294 : Int64) = lN (wcode kwIf) by decide)]
  simp only [oN]
  rw [k212_173, bzi]
  by_cases z : wrd b L s1 = kwIf
  · rw [if_pos z] at H
    have hsL := kw_lt (show lett kwIf = true by decide) z
    have hnx := nx_gt (b := b) hsL
    rw [if_neg (fun w => w z), k212_176, m212_177 F]
    refine next_ok F T X.1.2.1 (tkE_le X.1.2.2.2.2) ?_
    intro M1 t1 K1
    have K1 : NTk M1 b L (nx b L s1) := K1
    have F1 := MF_agr F t1.1
    have X1 := XP_tk X t1 K1 (Nat.le_of_lt hnx)
    have T1 := TR_tk T t1
    have n136 : ([126] : List Nat).contains 136 = false := by decide
    simp only [oZ]
    rw [k212_180, m212_182 F1]
    refine mTestX F1 T1 (MWd_of W (by rw [agr_L t1.1 (by decide)]) (by rw [agr_L t1.1 (by decide)]) (by rw [agr_L t1.1 (by decide)]) (by rw [agr_L t1.1 (by decide)])) X1 ?_
    cases hp : testP b L false (nx b L s1) n1 with
    | inl q =>
      rw [hp] at H
      intro M' f1 e1 e2
      have F2 := MF_pFr F1 f1
      simp only [oZ]
      rw [m212_185 F2 (by rw [e6]; exact v96 (by omega)), e6, n_cl (by omega)]
      refine H _ (LBd_cell ha (LBd_pre fr (LBd_pre (LF_tk (i := i) (c := c) ha t1) (LBd_X ha f1 e1 e2))))
    | inr y =>
      obtain ⟨s2, n2, D2⟩ := y
      rw [hp] at H
      intro M' c2 f1 X2 ec sg
      have F2 := MF_pFr F1 f1
      have hlt := sg.1
      have f2 : LF 136 M M' i c1 := LF_trans (LF_tk ha t1) (LF_pFr ha f1 ec) (Nat.le_refl _) (Nat.le_refl _)
      have f3 : LF 136 M' (sI M' 136 (8 * i + 6) (nI c2)) i c1 := LF_cell ha (by omega)
      have ce : ∀ j, ¬ j = 8 * i + 6 → hI (sI M' 136 (8 * i + 6) (nI c2)) 136 j = hI M 136 j := fun j hj => by
        rw [hI_sI_k hj, agr_I f1.1 (by decide), agr_I t1.1 n136]
      have cc : ∀ j, j < c1 → hI (sI M' 136 (8 * i + 6) (nI c2)) 137 j = hI M 137 j ∧ hI (sI M' 136 (8 * i + 6) (nI c2)) 138 j = hI M 138 j := fun j hj => (LF_trans f2 f3 (Nat.le_refl _) (Nat.le_refl _)).2.2.2.1 j hj
      simp only [oZ]
      rw [m212_185 F2 (by rw [e6]; exact v96 (by omega)), e6, n_cl (by omega), X2.2.2.2.1]
      refine H _ c2 (LF_trans fr (LF_trans f2 f3 (Nat.le_refl _) (Nat.le_refl _)) (Nat.le_refl _) hc) (XP_cell ha X2) ?_ (by omega) ⟨(ce _ (by omega)).trans hk, ?_, ⟨c1, c2, (ce _ (by omega)).trans h5, hI_sI_s _ _ _ _, by omega, Nat.le_refl _, Or.inr ?_⟩⟩
      · rw [hI_sI_a (by decide), f1.2.1 21 (by decide), t1.2.1 21 (by decide) (by decide) (by decide)]; exact h21
      · rcases hf with hf | ⟨hf, f, g, q1, q2, q3, q4⟩
        · exact Or.inl hf
        · exact Or.inr ⟨hf, f, g, (ce _ (by omega)).trans q1, (ce _ (by omega)).trans q2, by omega, SegR_cong q4 (fun j r1 r2 => ⟨((cc j (by omega)).1).symm, ((cc j (by omega)).2).symm⟩)⟩
      · exact SegR_cong sg (fun j _ _ => ⟨(hI_sI_a (by decide)).symm, (hI_sI_a (by decide)).symm⟩)
  · rw [if_neg z] at H
    have f3 : LF 136 M (sI M 136 (8 * i + 6) (nI c1)) i c1 := LF_cell ha (by omega)
    have ce : ∀ j, ¬ j = 8 * i + 6 → hI (sI M 136 (8 * i + 6) (nI c1)) 136 j = hI M 136 j := fun j hj => hI_sI_k hj
    rw [if_pos z, m212_185 F (by rw [e6]; exact v96 (by omega)), e6, n_cl (by omega), X.2.2.2.1]
    refine H _ c1 (LF_trans fr f3 (Nat.le_refl _) hc) (XP_cell ha X) ((hI_sI_a (by decide)).trans h21) hc ⟨(ce _ (by omega)).trans hk, ?_, ⟨c1, c1, (ce _ (by omega)).trans h5, hI_sI_s _ _ _ _, Nat.le_refl _, Nat.le_refl _, Or.inl ⟨rfl, rfl⟩⟩⟩
    rcases hf with hf | ⟨hf, f, g, q1, q2, q3, q4⟩
    · exact Or.inl hf
    · exact Or.inr ⟨hf, f, g, (ce _ (by omega)).trans q1, (ce _ (by omega)).trans q2, q3, SegR_cong q4 (fun j r1 r2 => ⟨((f3.2.2.2.1 j (by omega)).1).symm, ((f3.2.2.2.1 j (by omega)).2).symm⟩)⟩
/-- a clause of a law -/
theorem mRule_ok {b : Nat → Nat} {L s n c i : Nat} (F : MF M) (T : TR M b L) (W : MWd M) (X : XP M b L false s n c) (h21 : hI M 126 21 = nI i) (hi : i < 12) (H : LRs 136 mClsR M b L false i c Q (ruleP b L s n)) : Wp none d 212 0 [(0, .ref 126)] [] M Q := by
  have L4 := T.2.1
  have ha : cla 136 := Or.inl rfl
  have e3 : nI (8 * i) + 3 = nI (8 * i + 3) := by rw [show (3 : Int32) = nI 3 from rfl, nI_add]
  have e4 : nI (8 * i) + 4 = nI (8 * i + 4) := by rw [show (4 : Int32) = nI 4 from rfl, nI_add]
  have e5 : nI (8 * i) + 5 = nI (8 * i + 5) := by rw [show (5 : Int32) = nI 5 from rfl, nI_add]
  have e6 : nI (8 * i) + 6 = nI (8 * i + 6) := by rw [show (6 : Int32) = nI 6 from rfl, nI_add]
  unfold ruleP at H
  cases hw : wix kwL (wrd b L s) with
  | none =>
    rw [hw] at H
    rw [law_13 F W X h21 (Or.inr ⟨hi, hw⟩)]
    exact H (badM M s) (LBd_X ha (badM_fr M s) (badM_19 M s) (by unfold badM; rw [hI_sI_s]))
  | some k =>
    rw [hw] at H
    dsimp only at H
    have hk3 : k < 3 := wix_lt _ _ _ hw
    have hsL : s < L := wix_lt_L kd_l3 hw
    have hnx := nx_gt (b := b) hsL
    have hk1 : ¬ nI k = -1 := by rw [n_m1 (by omega)]; exact id
    rw [law_head F W X.1, hw, show ixI (some k) = nI k from rfl, k212_34, k212_37, if_neg hk1, m212_40 F, h21, k212_46, show (12 : Int32) = nI 12 from rfl, lei (by omega) (by omega), if_neg (by omega), k212_49, m212_54 F]
    refine must_y F T X.1 X.2.1 (by decide) ?_
    intro M1 t1 K1
    have F1 := MF_agr F t1.1
    have X1 := XP_tk X t1 K1 (Nat.le_of_lt hnx)
    have e21 : hI M1 126 21 = nI i := (t1.2.1 21 (by decide) (by decide) (by decide)).trans h21
    simp only [oZ]
    rw [m212_57 F1, X1.2.1, k212_61, if_pos rfl, m212_65 F1, e21, show (8 : Int32) = nI 8 from rfl, n_mul, show (0 : Int32) = nI 0 from rfl]
    have f1 : LF 136 M M1 i c := LF_tk ha t1
    refine law_clear (M := M1) hi 8 0 M1 (by omega) F1 ⟨agr_refl _ _, fun _ _ => rfl⟩ ?_
    intro M2 cl2
    have X2 := XP_cL ha X1 cl2
    have f2 : LF 136 M M2 i c := LF_trans f1 (cL_LF (c := c) ha cl2) (Nat.le_refl _) (Nat.le_refl _)
    have F2 := MF_LF F f2
    have b21 : hI M2 126 21 = nI i := by rw [agr_I cl2.1 (by decide)]; exact e21
    -- the head, the count, where its sum begins
    have F3 : MF (sI M2 136 (8 * i) (nI k)) := F2
    have F4 : MF (sI (sI M2 136 (8 * i) (nI k)) 126 21 (nI (i + 1))) := F2
    rw [m212_96 F2 (v96 (by omega)), n_cl (by omega), m212_103 F3, hI_sI_a (by decide), b21, nI_1, m212_113 F4 (by rw [e3]; exact v96 (by omega)), e3, n_cl (by omega), hI_sI_k (by decide), hI_sI_a (by decide), X2.2.2.2.1]
    have f5 : LF 136 M (sI (sI (sI M2 136 (8 * i) (nI k)) 126 21 (nI (i + 1))) 136 (8 * i + 3) (nI c)) i c := LF_trans f2 (LF_trans (LF_cell ha (by omega)) (LF_trans (LF_21 ha) (LF_cell ha (by omega)) (Nat.le_refl _) (Nat.le_refl _)) (Nat.le_refl _) (Nat.le_refl _)) (Nat.le_refl _) (Nat.le_refl _)
    have X5 : XP (sI (sI (sI M2 136 (8 * i) (nI k)) 126 21 (nI (i + 1))) 136 (8 * i + 3) (nI c)) b L false (nx b L s) n c := XP_cell ha (XP_21 (XP_cell ha X2))
    have c21 : hI (sI (sI (sI M2 136 (8 * i) (nI k)) 126 21 (nI (i + 1))) 136 (8 * i + 3) (nI c)) 126 21 = nI (i + 1) := by rw [hI_sI_a (by decide), hI_sI_s]
    have c0 : hI (sI (sI (sI M2 136 (8 * i) (nI k)) 126 21 (nI (i + 1))) 136 (8 * i + 3) (nI c)) 136 (8 * i) = nI k := by rw [hI_sI_k (by omega), hI_sI_a (by decide), hI_sI_s]
    have c3 : hI (sI (sI (sI M2 136 (8 * i) (nI k)) 126 21 (nI (i + 1))) 136 (8 * i + 3) (nI c)) 136 (8 * i + 3) = nI c := hI_sI_s _ _ _ _
    generalize sI (sI (sI M2 136 (8 * i) (nI k)) 126 21 (nI (i + 1))) 136 (8 * i + 3) (nI c) = M5 at *
    have F5 := MF_LF F f5
    rw [k212_125, k212_127]
    by_cases ck : k = 2
    · rw [if_pos ck] at H
      have ek : nI k = 2 := by rw [ck]; rfl
      have F6 : MF (sI M5 136 (8 * i + 4) (nI c)) := F5
      rw [if_pos ek, m212_135 F5 (by rw [e4]; exact v96 (by omega)), e4, n_cl (by omega), X5.2.2.2.1, m212_147 F6 (by rw [e5]; exact v96 (by omega)), e5, n_cl (by omega), hI_sI_a (by decide), X5.2.2.2.1]
      refine law_if (k := k) (c := c) (c1 := c) (D1 := oneD) F T W hi (LF_trans f5 (LF_trans (LF_cell ha (by omega)) (LF_cell ha (by omega)) (Nat.le_refl _) (Nat.le_refl _)) (Nat.le_refl _) (Nat.le_refl _)) (XP_cell ha (XP_cell ha X5)) ?_ (Nat.le_refl _) ?_ (Or.inl ⟨ek, rfl⟩) (hI_sI_s _ _ _ _) H
      · rw [hI_sI_a (by decide), hI_sI_a (by decide)]; exact c21
      · rw [hI_sI_k (by omega), hI_sI_k (by omega)]; exact c0
    · rw [if_neg ck] at H
      have ek : ¬ nI k = 2 := by rw [show (2 : Int32) = nI 2 from rfl, n_eq (by omega) (by omega)]; exact ck
      rw [if_neg ek, k212_130, m212_132 F5]
      refine mSumX F5 (TR_LF ha T f5) (MWd_LF ha W f5) X5 ?_
      cases hp : sumP b L false (nx b L s) n with
      | inl q =>
        rw [hp] at H
        intro M' g1 g2 g3
        have F6 := MF_pFr F5 g1
        have F7 : MF (sI M' 136 (8 * i + 4) (hI M' 126 23)) := F6
        have F8 : MF (sI (sI M' 136 (8 * i + 4) (hI M' 126 23)) 136 (8 * i + 5) (hI M' 126 23)) := F6
        simp only [oZ]
        rw [m212_135 F6 (by rw [e4]; exact v96 (by omega)), e4, n_cl (by omega), m212_147 F7 (by rw [e5]; exact v96 (by omega)), e5, n_cl (by omega), hI_sI_a (by decide), m212_159 F8, hI_sI_a (by decide), hI_sI_a (by decide), g2, k212_163, if_pos (by decide), m212_185 F8 (by rw [e6]; exact v96 (by omega)), e6, n_cl (by omega)]
        exact H _ (LBd_cell ha (LBd_cell ha (LBd_cell ha (LBd_pre f5 (LBd_X ha g1 g2 g3)))))
      | inr y =>
        obtain ⟨s1, n1, D1⟩ := y
        rw [hp] at H
        intro M' c1 g1 X6 ec sg
        have hlt := sg.1
        have F6 := MF_pFr F5 g1
        have F7 : MF (sI M' 136 (8 * i + 4) (nI c1)) := F6
        simp only [oZ]
        rw [m212_135 F6 (by rw [e4]; exact v96 (by omega)), e4, n_cl (by omega), X6.2.2.2.1, m212_147 F7 (by rw [e5]; exact v96 (by omega)), e5, n_cl (by omega), hI_sI_a (by decide), X6.2.2.2.1]
        have n136 : ([126, 137, 138, 139, 140] : List Nat).contains 136 = false := by decide
        have ea : hI M' 136 = hI M5 136 := agr_I g1.1 n136
        refine law_if (k := k) (c := c) (c1 := c1) (D1 := D1) F T W hi (LF_trans f5 (LF_trans (LF_pFr ha g1 ec) (LF_trans (LF_cell ha (by omega)) (LF_cell ha (by omega)) (Nat.le_refl _) (Nat.le_refl _)) (Nat.le_refl _) (Nat.le_refl _)) (Nat.le_refl _) (Nat.le_refl _)) (XP_cell ha (XP_cell ha X6)) ?_ (by omega) ?_ (Or.inr ⟨ek, c, c1, ?_, ?_, Nat.le_refl _, ?_⟩) (hI_sI_s _ _ _ _) H
        · rw [hI_sI_a (by decide), hI_sI_a (by decide), g1.2.1 21 (by decide)]; exact c21
        · rw [hI_sI_k (by omega), hI_sI_k (by omega), ea]; exact c0
        · rw [hI_sI_k (by omega), hI_sI_k (by omega), ea]; exact c3
        · rw [hI_sI_k (by omega), hI_sI_s]
        · exact SegR_cong sg (fun j _ _ => ⟨((hI_sI_a (by decide)).trans (hI_sI_a (by decide))).symm, ((hI_sI_a (by decide)).trans (hI_sI_a (by decide))).symm⟩)
