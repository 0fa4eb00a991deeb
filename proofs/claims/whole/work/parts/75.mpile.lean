variable {d : Nat} {M : hp} {Q : Option Value → hp → Prop}
/-! the reference's pile -/
def pk (k : Nat) : Bool := [14, 15, 16, 18, 19, 23, 26, 29, 30].contains k
/-- no fault now: none before, and its place is as it was -/
def FB (M M' : hp) : Prop := hI M' 126 19 = 0 → hI M 126 19 = 0 ∧ hI M' 126 18 = hI M 126 18
theorem FB_refl (M : hp) : FB M M := fun z => ⟨z, rfl⟩
theorem FB_trans {M M1 M2 : hp} (h : FB M M1) (h2 : FB M1 M2) : FB M M2 := fun z => ⟨(h (h2 z).1).1, (h2 z).2.trans (h (h2 z).1).2⟩
theorem FB_eq {M M1 M2 : hp} (h : FB M M1) (e9 : hI M2 126 19 = hI M1 126 19) (e8 : hI M2 126 18 = hI M1 126 18) : FB M M2 := fun z => ⟨(h (e9.symm.trans z)).1, e8.trans (h (e9.symm.trans z)).2⟩
/-- what reading a text's sums changes -/
def pFr (M M' : hp) : Prop := agr [126, 137, 138, 139, 140] M M' ∧ (∀ k, pk k = false → hI M' 126 k = hI M 126 k) ∧ (∀ k, ¬ k = 17 → hL M' 126 k = hL M 126 k) ∧ FB M M'
def pq (k : Nat) : Bool := [14, 15, 16, 23, 26, 29, 30].contains k
theorem pq_pk {k : Nat} (h : pq k = true) : pk k = true ∧ ¬ k = 18 ∧ ¬ k = 19 := by
  unfold pq at h
  unfold pk
  simp at h ⊢
  omega
theorem pFr_refl (M : hp) : pFr M M := ⟨agr_refl _ _, fun _ _ => rfl, fun _ _ => rfl, FB_refl M⟩
theorem pFr_trans {M M1 M2 : hp} (h : pFr M M1) (h2 : pFr M1 M2) : pFr M M2 := ⟨agr_trans h.1 h2.1, fun k q => (h2.2.1 k q).trans (h.2.1 k q), fun k q => (h2.2.2.1 k q).trans (h.2.2.1 k q), FB_trans h.2.2.2 h2.2.2.2⟩
theorem pFr_f {M M' : hp} (h : pFr M M') {k : Nat} {v : Int32} (hk : pq k = true) : pFr M (sI M' 126 k v) := ⟨agr_trans h.1 (agr_sI (by decide)), fun j q => by
  rw [hI_sI_k (fun e => by rw [e, (pq_pk hk).1] at q; cases q)]
  exact h.2.1 j q, h.2.2.1, FB_eq h.2.2.2 (hI_sI_k (fun e => (pq_pk hk).2.2 e.symm)) (hI_sI_k (fun e => (pq_pk hk).2.1 e.symm))⟩
theorem pFr_a {M M' : hp} (h : pFr M M') {a k : Nat} {v : Int32} (ha : a = 137 ∨ a = 138 ∨ a = 139 ∨ a = 140) : pFr M (sI M' a k v) := ⟨agr_trans h.1 (agr_sI (by rcases ha with rfl | rfl | rfl | rfl <;> decide)), fun j q => by
  rw [hI_sI_a (by omega)]
  exact h.2.1 j q, h.2.2.1, FB_eq h.2.2.2 (hI_sI_a (by omega)) (hI_sI_a (by omega))⟩
theorem tkS_FB {M M' : hp} (h : tkS M M') : FB M M' := FB_eq (FB_refl M) (h.2.1 19 (by decide) (by decide) (by decide)) (h.2.1 18 (by decide) (by decide) (by decide))
theorem tkS_pFr {M M' : hp} (h : tkS M M') : pFr M M' := ⟨agr_mono h.1 (by intro a q; simp at q ⊢; omega), fun k q => h.2.1 k (fun e => by rw [e] at q; exact absurd q (by decide)) (fun e => by rw [e] at q; exact absurd q (by decide)) (fun e => by rw [e] at q; exact absurd q (by decide)), h.2.2, tkS_FB h⟩
theorem TR_pFr {M M' : hp} {b : Nat → Nat} {L : Nat} (T : TR M b L) (h : pFr M M') : TR M' b L := TR_of T (h.2.1 13 (by decide)) (agr_I h.1 (by decide))
theorem MF_pFr {M M' : hp} (F : MF M) (h : pFr M M') : MF M' := MF_agr F h.1
/-- the words' numbers stand -/
def MWd (M : hp) : Prop := (∀ k, k < 9 → hL M 141 k = lN (wcode (kwLW.getD k []))) ∧ (∀ k, k < 6 → hL M 142 k = lN (wcode (kwOW.getD k []))) ∧ (∀ k, k < 3 → hL M 143 k = lN (wcode (kwL.getD k []))) ∧ ∀ k, k < 4 → hL M 151 k = lN (wcode (kwO.getD k []))
theorem MWd_of {M M' : hp} (W : MWd M) (e1 : hL M' 141 = hL M 141) (e2 : hL M' 142 = hL M 142) (e3 : hL M' 143 = hL M 143) (e4 : hL M' 151 = hL M 151) : MWd M' := by
  unfold MWd at *
  rw [e1, e2, e3, e4]
  exact W
theorem MWd_pFr {M M' : hp} (W : MWd M) (h : pFr M M') : MWd M' := MWd_of W (agr_L h.1 (by decide)) (agr_L h.1 (by decide)) (agr_L h.1 (by decide)) (agr_L h.1 (by decide))
/-- the pile's entries -/
def PV (M : hp) (p : Nat) : Prop := ∀ j, j < p → (∃ v, 20 ≤ v ∧ v ≤ 32 ∧ hI M 139 j = nI v) ∧ ∃ a, a < 400 ∧ hI M 140 j = nI a
theorem PV_cong {M M' : hp} {p : Nat} (h : PV M p) (e : ∀ j, j < p → hI M' 139 j = hI M 139 j ∧ hI M' 140 j = hI M 140 j) : PV M' p := by
  intro j hj
  rw [(e j hj).1, (e j hj).2]
  exact h j hj
def bnF (v : Nat) : Nat := if 31 ≤ v then 0 else if v = 30 then 1 else if v = 29 then 2 else if v = 28 then 3 else if 25 ≤ v then 4 else if 22 ≤ v then 6 else 5
theorem binds_ok {v : Nat} (hv : 20 ≤ v ∧ v ≤ 32) : Wp none d 197 0 [(0, .int (nI v))] [] M Q = Q (some (.int (nI (bnF v)))) M := by
  have e : ∀ k : Nat, (OfNat.ofNat k : Int32) = nI k := fun k => rfl
  rw [k197_0, k197_3, show (31 : Int32) = nI 31 from rfl, lti (by omega) (by omega), k197_6, k197_10, k197_13, show (30 : Int32) = nI 30 from rfl, nej (by omega) (by omega), k197_16, k197_20, k197_23, show (29 : Int32) = nI 29 from rfl, nej (by omega) (by omega), k197_26, k197_30, k197_33, show (28 : Int32) = nI 28 from rfl, nej (by omega) (by omega), k197_36, k197_40, k197_43, show (25 : Int32) = nI 25 from rfl, lti (by omega) (by omega), k197_46, k197_50, k197_53, show (22 : Int32) = nI 22 from rfl, lti (by omega) (by omega), k197_56, k197_61]
  simp only [k197_62]
  unfold bnF
  by_cases c1 : 31 ≤ v
  · rw [if_neg (by omega), if_pos c1]; rfl
  · rw [if_pos (by omega), if_neg c1]
    by_cases c2 : v = 30
    · rw [if_neg (fun z => z c2), if_pos c2]; rfl
    · rw [if_pos c2, if_neg c2]
      by_cases c3 : v = 29
      · rw [if_neg (fun z => z c3), if_pos c3]; rfl
      · rw [if_pos c3, if_neg c3]
        by_cases c4 : v = 28
        · rw [if_neg (fun z => z c4), if_pos c4]; rfl
        · rw [if_pos c4, if_neg c4]
          by_cases c5 : 25 ≤ v
          · rw [if_neg (by omega), if_pos c5]; rfl
          · rw [if_pos (by omega), if_neg c5]
            by_cases c6 : 22 ≤ v
            · rw [if_neg (by omega), if_pos c6]; rfl
            · rw [if_pos (by omega), if_neg c6]; rfl
theorem bnF_lt (v : Nat) : bnF v < 7 := by
  unfold bnF
  split
  · omega
  · split
    · omega
    · split
      · omega
      · split
        · omega
        · split
          · omega
          · split <;> omega
def memit (M : hp) (c : Nat) (op arg : Int32) : hp := sI (sI (sI M 137 c op) 138 c arg) 126 23 (nI (c + 1))
theorem memit_ok {c : Nat} {op arg : Int32} (F : MF M) (hc : hI M 126 23 = nI c) (h4 : c < 400) : Wp none d 195 0 [(0, .ref 126), (1, .int op), (2, .int arg)] [] M Q = Q none (memit M c op arg) := by
  have F1 : MF (sI M 137 c op) := F
  have F2 : MF (sI (sI M 137 c op) 138 c arg) := F
  rw [m195_0 F (by rw [hc]; exact v400 h4), hc, n_cl (by omega), m195_10 F1 (by rw [hI_sI_a (by decide), hc]; exact v400 h4), hI_sI_a (by decide), hc, n_cl (by omega), m195_20 F2, hI_sI_a (by decide), hI_sI_a (by decide), hc, nI_1]
  rfl
def mpush (M : hp) (p : Nat) (op a : Int32) : hp := sI (sI (sI M 139 p op) 140 p a) 126 29 (nI (p + 1))
theorem mpush_ok {p : Nat} {op a : Int32} (F : MF M) (hp1 : hI M 126 29 = nI p) (h4 : p < 400) : Wp none d 196 0 [(0, .ref 126), (1, .int op), (2, .int a)] [] M Q = Q none (mpush M p op a) := by
  have F1 : MF (sI M 139 p op) := F
  have F2 : MF (sI (sI M 139 p op) 140 p a) := F
  rw [m196_0 F (by rw [hp1]; exact v400 h4), hp1, n_cl (by omega), m196_10 F1 (by rw [hI_sI_a (by decide), hp1]; exact v400 h4), hI_sI_a (by decide), hp1, n_cl (by omega), m196_20 F2, hI_sI_a (by decide), hI_sI_a (by decide), hp1, nI_1]
  rfl
/-- the pile's top binds less than l -/
def Tb (M : hp) (p l : Nat) : Prop := p = 0 ∨ ∃ v, 20 ≤ v ∧ v ≤ 32 ∧ hI M 139 (p - 1) = nI v ∧ bnF v < l
theorem settle_stop {p l : Nat} (F : MF M) (hp1 : hI M 126 29 = nI p) (h4 : p ≤ 400) (hl : l < 10) (h : Tb M p l) : Wp none d 198 0 [(0, .ref 126), (1, .int (nI l))] [] M Q = Q none M := by
  rw [m198_0 F, hp1, k198_4, show (0 : Int32) = nI 0 from rfl, lei (by omega) (by omega)]
  rcases h with h | ⟨v, v1, v2, v3, v4⟩
  · rw [if_pos (by omega), k198_101]
  · have := bnF_lt v
    by_cases c : p ≤ 0
    · rw [if_pos c, k198_101]
    · obtain ⟨q, hq⟩ : ∃ q, p = q + 1 := ⟨p - 1, by omega⟩
      subst hq
      rw [Nat.add_sub_cancel] at v3
      rw [if_neg c, m198_7 F (by rw [hp1, nI_pred]; exact v400 (by omega)), hp1, nI_pred, n_cl (by omega), v3, k198_18, binds_ok ⟨v1, v2⟩]
      simp only [oN]
      rw [k198_21, k198_22, lti (by omega) (by omega), if_pos v4, k198_101]
/-- an operation comes off the pile -/
def popE (M : hp) (c p : Nat) (v : Nat) : hp := memit (sI M 126 29 (nI p)) c (nI v) 0
theorem settle_pop {p l v c : Nat} (F : MF M) (hp1 : hI M 126 29 = nI (p + 1)) (h4 : p < 400) (hl : l < 10) (hv : 20 ≤ v ∧ v ≤ 28) (h9 : hI M 139 p = nI v) (hb : l ≤ bnF v) (hc : hI M 126 23 = nI c) (hc4 : c < 400) : Wp none d 198 0 [(0, .ref 126), (1, .int (nI l))] [] M Q = Wp none d 198 0 [(0, .ref 126), (1, .int (nI l))] [] (popE M c p v) Q := by
  have := bnF_lt v
  have F1 : MF (sI M 126 29 (nI p)) := F
  rw [m198_0 F, hp1, k198_4, show (0 : Int32) = nI 0 from rfl, lei (by omega) (by omega), if_neg (by omega), m198_7 F (by rw [hp1, nI_pred]; exact v400 (by omega)), hp1, nI_pred, n_cl (by omega), h9, k198_18, binds_ok ⟨hv.1, by omega⟩]
  simp only [oN]
  rw [k198_21, k198_22, lti (by omega) (by omega), if_neg (by omega), m198_25 F, hp1, nI_pred, m198_35 F1 (by rw [hI_sI_s]; exact v400 h4), hI_sI_s, n_cl (by omega), hI_sI_a (by decide), h9, k198_46, show (29 : Int32) = nI 29 from rfl, nei (by omega) (by omega), if_neg (by omega), m198_49 F1 (by rw [hI_sI_s]; exact v400 h4), hI_sI_s, n_cl (by omega), hI_sI_a (by decide), h9, k198_60, show (30 : Int32) = nI 30 from rfl, nej (by omega) (by omega), if_pos (by omega), m198_84 F1 (by rw [hI_sI_s]; exact v400 h4), hI_sI_s, n_cl (by omega), hI_sI_a (by decide), h9, m198_95 F1, memit_ok F1 (by rw [hI_sI_k (by decide)]; exact hc) hc4]
  simp only [oZ]
  rw [k198_98]
  rfl
def popJ (M : hp) (c p a : Nat) : hp := sI (sI M 126 29 (nI p)) 138 a (nI c)
theorem settle_jmp {p l v c a : Nat} (F : MF M) (hp1 : hI M 126 29 = nI (p + 1)) (h4 : p < 400) (hl : l < 10) (hv : v = 29 ∨ v = 30) (h9 : hI M 139 p = nI v) (hb : l ≤ bnF v) (hc : hI M 126 23 = nI c) (ha : hI M 140 p = nI a) (ha4 : a < 400) : Wp none d 198 0 [(0, .ref 126), (1, .int (nI l))] [] M Q = Wp none d 198 0 [(0, .ref 126), (1, .int (nI l))] [] (popJ M c p a) Q := by
  have := bnF_lt v
  have F1 : MF (sI M 126 29 (nI p)) := F
  rw [m198_0 F, hp1, k198_4, show (0 : Int32) = nI 0 from rfl, lei (by omega) (by omega), if_neg (by omega), m198_7 F (by rw [hp1, nI_pred]; exact v400 (by omega)), hp1, nI_pred, n_cl (by omega), h9, k198_18, binds_ok ⟨by omega, by omega⟩]
  simp only [oN]
  have jm : Wp none d 198 63 [(0, .ref 126), (1, .int (nI l))] [] (sI M 126 29 (nI p)) Q = Wp none d 198 0 [(0, .ref 126), (1, .int (nI l))] [] (popJ M c p a) Q := by
    rw [m198_63 F1 (by rw [hI_sI_s]; exact v400 h4) (by rw [hI_sI_s, n_cl (by omega), hI_sI_a (by decide), ha]; exact v400 ha4), hI_sI_s, n_cl (by omega), hI_sI_a (by decide), ha, n_cl (by omega), hI_sI_k (by decide), hc]
    rfl
  rw [k198_21, k198_22, lti (by omega) (by omega), if_neg (by omega), m198_25 F, hp1, nI_pred, m198_35 F1 (by rw [hI_sI_s]; exact v400 h4), hI_sI_s, n_cl (by omega), hI_sI_a (by decide), h9, k198_46, show (29 : Int32) = nI 29 from rfl, nei (by omega) (by omega)]
  by_cases c9 : v = 29
  · rw [if_pos c9, jm]
  · rw [if_neg c9, m198_49 F1 (by rw [hI_sI_s]; exact v400 h4), hI_sI_s, n_cl (by omega), hI_sI_a (by decide), h9, k198_60, show (30 : Int32) = nI 30 from rfl, nej (by omega) (by omega), if_neg (by omega), jm]
/-- the bracket that is open -/
def inF (P : Nat → Int32) : Nat → Int32
  | 0 => -1
  | k + 1 => if 31 ≤ P k then P k else inF P k
theorem inner_ok {p : Nat} (F : MF M) (hp1 : hI M 126 29 = nI p) (h4 : p ≤ 400) : Wp none d 199 0 [(0, .ref 126)] [] M Q = Q (some (.int (inF (hI M 139) p))) M := by
  have key : ∀ k i, i + k = p → Wp none d 199 4 [(0, .ref 126), (1, .int (inF (hI M 139) i)), (2, .int (nI i))] [] M Q = Q (some (.int (inF (hI M 139) p))) M := by
    intro k
    induction k with
    | zero =>
      intro i e
      have : i = p := by omega
      subst this
      rw [m199_4 F, hp1, k199_9, lei (by omega) (by omega), if_pos (Nat.le_refl i), k199_40]
    | succ k ih =>
      intro i e
      have nxt : ∀ x, x = inF (hI M 139) (i + 1) → Wp none d 199 33 [(0, .ref 126), (1, .int (inF (hI M 139) i)), (2, .int (nI i))] [.int x] M Q = Q (some (.int (inF (hI M 139) p))) M := by
        intro x hx
        rw [k199_33, nI_1, hx]
        exact ih (i + 1) (by omega)
      rw [m199_4 F, hp1, k199_9, lei (by omega) (by omega), if_neg (by omega), m199_12 F (v400 (by omega)), n_cl (by omega), k199_20]
      by_cases c : hI M 139 i < 31
      · rw [if_pos c, k199_32]
        refine nxt _ ?_
        show _ = (if 31 ≤ hI M 139 i then _ else _)
        rw [if_neg (by rw [fa_le]; rw [fa_lt] at c; omega)]
      · rw [if_neg c, m199_23 F (v400 (by omega)), n_cl (by omega)]
        refine nxt _ ?_
        show _ = (if 31 ≤ hI M 139 i then _ else _)
        rw [if_pos (by rw [fa_le]; rw [fa_lt] at c; omega)]
  rw [k199_0, show (0 : Int32) = nI 0 from rfl]
  exact key p 0 (by omega)
/-- whether a comparison waits -/
def cmF (P : Nat → Int32) : Nat → Prop
  | 0 => False
  | k + 1 => if 20 ≤ P k ∧ P k ≤ 24 then cmF P k else 25 ≤ P k ∧ P k ≤ 27
theorem isCompared_ok {p : Nat} (F : MF M) (hp1 : hI M 126 29 = nI p) (h4 : p ≤ 400) : ∃ v : Int32, (v = 0 ∨ v = 1) ∧ (v = 1 ↔ cmF (hI M 139) p) ∧ ∀ (d : Nat) (Q : Option Value → hp → Prop), Wp none d 200 0 [(0, .ref 126)] [] M Q = Q (some (.int v)) M := by
  have key : ∀ k, k ≤ p → ∃ v : Int32, (v = 0 ∨ v = 1) ∧ (v = 1 ↔ cmF (hI M 139) k) ∧ ∀ (d : Nat) (Q : Option Value → hp → Prop), Wp none d 200 7 [(0, .ref 126), (1, .int (nI k - 1))] [] M Q = Q (some (.int v)) M := by
    intro k
    induction k with
    | zero =>
      intro _
      refine ⟨0, Or.inl rfl, ⟨fun z => absurd z (by decide), fun z => absurd z (fun w => w)⟩, fun d Q => ?_⟩
      rw [k200_7, k200_8, if_pos (by decide), k200_36, k200_37, if_pos (by decide), k200_63, m200_64 F (Or.inl rfl)]
    | succ k ih =>
      intro hk
      have e64 : ∀ x y : Int32, (x.toInt64 ≤ y.toInt64) = (x ≤ y) := fun x y => propext (fa_wide_le x y)
      by_cases c : 20 ≤ hI M 139 k ∧ hI M 139 k ≤ 24
      · obtain ⟨v, h1, h2, h3⟩ := ih (by omega)
        refine ⟨v, h1, ?_, fun d Q => ?_⟩
        · show _ ↔ (if 20 ≤ hI M 139 k ∧ hI M 139 k ≤ 24 then _ else _)
          rw [if_pos c]
          exact h2
        · rw [nI_pred, k200_7, k200_8, if_neg (nI_pos (show k < 2 ^ 31 by omega)), m200_11 F (v400 (by omega)), n_cl (by omega), k200_24, mIn]
          simp only [oN]
          rw [k200_27, bzi, if_neg (fun z => z ⟨(e64 20 (hI M 139 k)).mpr c.1, (e64 (hI M 139 k) 24).mpr c.2⟩), k200_30, n_addm1]
          exact h3 d Q
      · have c2 : ¬ ((20 : Int64) ≤ (hI M 139 k).toInt64 ∧ (hI M 139 k).toInt64 ≤ 24) := fun z => c ⟨(e64 20 (hI M 139 k)).mp z.1, (e64 (hI M 139 k) 24).mp z.2⟩
        refine ⟨bz (25 ≤ hI M 139 k ∧ hI M 139 k ≤ 27), bz_or _, ?_, fun d Q => ?_⟩
        · show _ ↔ (if 20 ≤ hI M 139 k ∧ hI M 139 k ≤ 24 then _ else _)
          rw [if_neg c, bz_eq1]
        · rw [nI_pred, k200_7, k200_8, if_neg (nI_pos (show k < 2 ^ 31 by omega)), m200_11 F (v400 (by omega)), n_cl (by omega), k200_24, mIn]
          simp only [oN]
          rw [k200_27, bzi, if_pos c2, k200_36, k200_37, if_neg (nI_pos (show k < 2 ^ 31 by omega)), m200_40 F (v400 (by omega)), n_cl (by omega), k200_53, mIn]
          simp only [oN]
          rw [k200_56, bzi, k200_59, k200_63, m200_64 F (Or.inl rfl), m200_64 F (Or.inr rfl)]
          by_cases c3 : 25 ≤ hI M 139 k ∧ hI M 139 k ≤ 27
          · rw [if_neg (fun z => z ⟨(e64 25 (hI M 139 k)).mpr c3.1, (e64 (hI M 139 k) 27).mpr c3.2⟩), bz_t c3]
          · rw [if_pos (fun z => c3 ⟨(e64 25 (hI M 139 k)).mp z.1, (e64 (hI M 139 k) 27).mp z.2⟩), bz_f c3]
  obtain ⟨v, h1, h2, h3⟩ := key p (Nat.le_refl p)
  refine ⟨v, h1, h2, fun d Q => ?_⟩
  rw [m200_0 F, hp1]
  exact h3 d Q
/-! which word -/
def pAt (l : List (List Nat)) (t : List Nat) (k : Nat) : Int32 := fo (fun j x => if t = l.getD j [] then nI (j + 1) else x) 0 k (-1)
def ix1 (o : Option Nat) : Int32 := match o with
  | none => -1
  | some j => nI (j + 1)
theorem wix_at : ∀ (l : List (List Nat)) (t : List Nat) (j : Nat), wix l t = some j → t = l.getD j []
  | [], _, _, h => by cases h
  | w :: r, t, j, h => by
    unfold wix at h
    split at h
    · rename_i c
      cases h
      exact c
    · cases e : wix r t with
      | none => rw [e] at h; cases h
      | some i =>
        rw [e] at h
        cases h
        exact wix_at r t i e
theorem wix_none : ∀ (l : List (List Nat)) (t : List Nat), wix l t = none → ∀ j, j < l.length → ¬ t = l.getD j []
  | [], _, _, _, h => absurd h (by simp)
  | w :: r, t, h, j, hj => by
    unfold wix at h
    split at h
    · cases h
    · rename_i c
      cases j with
      | zero => exact c
      | succ j =>
        have e : wix r t = none := by
          cases e : wix r t with
          | none => rfl
          | some i => rw [e] at h; cases h
        exact wix_none r t e j (by simpa using hj)
theorem pAt_ix {l : List (List Nat)} {t : List Nat} (hl : ∀ j, j < l.length → pAt l (l.getD j []) l.length = nI (j + 1)) : pAt l t l.length = ix1 (wix l t) := by
  cases e : wix l t with
  | none =>
    show pAt l t l.length = -1
    unfold pAt
    exact fo_inv (fun x => x = -1) l.length 0 (-1) rfl (fun j a _ hj ha => by
      rw [if_neg (wix_none l t e j (by omega))]
      exact ha)
  | some j =>
    have h1 := wix_at l t j e
    have h2 := wix_lt l t j e
    rw [h1]
    exact hl j h2
theorem kwOk_all : (kwLW.all kwOk && kwOW.all kwOk && kwL.all kwOk && kwO.all kwOk) = true := by decide
theorem kwOk_get {l : List (List Nat)} (h : l.all kwOk = true) {k : Nat} (hk : k < l.length) : kwOk (l.getD k []) = true := by
  have := List.all_eq_true.mp h _ (List.getElem_mem hk)
  rw [List.getD_eq_getElem?_getD, List.getElem?_eq_getElem hk]
  exact this
theorem partAt_ok {b : Nat → Nat} {L s : Nat} (F : MF M) (W : MWd M) (K : NTk M b L s) : Wp none d 201 0 [(0, .ref 126)] [] M Q = Q (some (.int (ix1 (wix kwLW (wrd b L s))))) M := by
  have key := for_up (W := fun i a => Wp none d 201 4 [(0, .ref 126), (1, .int a), (2, .int (nI i))] [] M Q) (f := fun j x => if wrd b L s = kwLW.getD j [] then nI (j + 1) else x) (n := 9) (fun i a hi => by
    have hv : vin (nI i) 9 = true := by rw [vin_n (by omega)]; exact decide_eq_true hi
    show Wp none d 201 4 [(0, .ref 126), (1, .int a), (2, .int (nI i))] [] M Q = Wp none d 201 4 [(0, .ref 126), (1, .int (if wrd b L s = kwLW.getD i [] then nI (i + 1) else a)), (2, .int (nI (i + 1)))] [] M Q
    rw [k201_4, k201_7, show (9 : Int32) = nI 9 from rfl, lei (by omega) (by omega), if_neg (by omega), m201_10 F hv, n_cl (by omega), m201_17 F, mIsWord F K (kwOk_get (l := kwLW) (by decide) hi) (W.1 i hi)]
    simp only [oN]
    rw [k201_20, bzi]
    by_cases c : wrd b L s = kwLW.getD i []
    · rw [if_neg (fun z => z c), k201_23, k201_30, if_pos c, nI_1]
    · rw [if_pos c, k201_29, k201_30, if_neg c, nI_1]) 9 0 (-1) (by omega)
  rw [k201_0]
  refine (show _ = _ from key).trans ?_
  show Wp none d 201 4 [(0, .ref 126), (1, .int (pAt kwLW (wrd b L s) 9)), (2, .int (nI 9))] [] M Q = _
  rw [k201_4, k201_7, if_pos (by decide), k201_37, show (9 : Nat) = kwLW.length from rfl, pAt_ix (by decide)]
theorem orderPartAt_ok {b : Nat → Nat} {L s : Nat} (F : MF M) (W : MWd M) (K : NTk M b L s) : Wp none d 202 0 [(0, .ref 126)] [] M Q = Q (some (.int (ix1 (wix kwOW (wrd b L s))))) M := by
  have key := for_up (W := fun i a => Wp none d 202 4 [(0, .ref 126), (1, .int a), (2, .int (nI i))] [] M Q) (f := fun j x => if wrd b L s = kwOW.getD j [] then nI (j + 1) else x) (n := 6) (fun i a hi => by
    have hv : vin (nI i) 6 = true := by rw [vin_n (by omega)]; exact decide_eq_true hi
    show Wp none d 202 4 [(0, .ref 126), (1, .int a), (2, .int (nI i))] [] M Q = Wp none d 202 4 [(0, .ref 126), (1, .int (if wrd b L s = kwOW.getD i [] then nI (i + 1) else a)), (2, .int (nI (i + 1)))] [] M Q
    rw [k202_4, k202_7, show (6 : Int32) = nI 6 from rfl, lei (by omega) (by omega), if_neg (by omega), m202_10 F hv, n_cl (by omega), m202_17 F, mIsWord F K (kwOk_get (l := kwOW) (by decide) hi) (W.2.1 i hi)]
    simp only [oN]
    rw [k202_20, bzi]
    by_cases c : wrd b L s = kwOW.getD i []
    · rw [if_neg (fun z => z c), k202_23, k202_30, if_pos c, nI_1]
    · rw [if_pos c, k202_29, k202_30, if_neg c, nI_1]) 6 0 (-1) (by omega)
  rw [k202_0]
  refine (show _ = _ from key).trans ?_
  show Wp none d 202 4 [(0, .ref 126), (1, .int (pAt kwOW (wrd b L s) 6)), (2, .int (nI 6))] [] M Q = _
  rw [k202_4, k202_7, if_pos (by decide), k202_37, show (6 : Nat) = kwOW.length from rfl, pAt_ix (by decide)]
