variable {d : Nat} {M : hp} {Q : Option Value → hp → Prop}
/-! the reference reading a sum: its state -/
def PS (M : hp) (b : Nat → Nat) (L : Nat) (o : Bool) (s n k c p : Nat) : Prop := NTk M b L s ∧ hI M 126 19 = 0 ∧ hI M 126 26 = nI n ∧ hI M 126 30 = nI k ∧ hI M 126 23 = nI c ∧ hI M 126 29 = nI p ∧ hI M 126 20 = bz (o = true) ∧ n ≤ 50 ∧ c + p ≤ s ∧ PV M p
/-- a fault was found at q -/
def Bd (M0 M' : hp) (q : Nat) : Prop := pFr M0 M' ∧ hI M' 126 19 = 1 ∧ hI M' 126 18 = nI q ∧ ∃ c p, hI M' 126 23 = nI c ∧ hI M' 126 29 = nI p ∧ c + p ≤ 400 ∧ PV M' p
theorem Bd_pre {M0 M M' : hp} {q : Nat} (h : pFr M0 M) (h2 : Bd M M' q) : Bd M0 M' q := ⟨pFr_trans h h2.1, h2.2⟩
theorem NTk_fr {M M' : hp} {b : Nat → Nat} {L s : Nat} (K : NTk M b L s) (e1 : hI M' 126 14 = hI M 126 14) (e2 : hI M' 126 15 = hI M 126 15) (e3 : hI M' 126 16 = hI M 126 16) (e4 : hL M' 126 17 = hL M 126 17) : NTk M' b L s := ⟨e1.trans K.1, e2.trans K.2.1, e3.trans K.2.2.1, e4.trans K.2.2.2.1, K.2.2.2.2⟩
/-- the next token -/
theorem PS_tk {M' : hp} {b : Nat → Nat} {L s n k c p s' : Nat} {o : Bool} (P : PS M b L o s n k c p) (h : tkS M M') (K : NTk M' b L s') (hs : s ≤ s') : PS M' b L o s' n k c p := by
  obtain ⟨a1, a2, a3, a4, a5, a6, a7, a8, a9, a10⟩ := P
  have e : ∀ j, ¬ j = 14 → ¬ j = 15 → ¬ j = 16 → hI M' 126 j = hI M 126 j := h.2.1
  exact ⟨K, (e 19 (by decide) (by decide) (by decide)).trans a2, (e 26 (by decide) (by decide) (by decide)).trans a3, (e 30 (by decide) (by decide) (by decide)).trans a4, (e 23 (by decide) (by decide) (by decide)).trans a5, (e 29 (by decide) (by decide) (by decide)).trans a6, (e 20 (by decide) (by decide) (by decide)).trans a7, a8, by omega, PV_cong a10 (fun j _ => ⟨by rw [agr_I h.1 (by decide)], by rw [agr_I h.1 (by decide)]⟩)⟩
theorem PS_bad {M' : hp} {b : Nat → Nat} {L s n k c p q : Nat} {o : Bool} (P : PS M b L o s n k c p) (hL : L ≤ 400) (h : pFr M M') (e9 : hI M' 126 19 = 1) (e8 : hI M' 126 18 = nI q) (e3 : hI M' 126 23 = hI M 126 23) (e4 : hI M' 126 29 = hI M 126 29) (e5 : hI M' 139 = hI M 139) (e6 : hI M' 140 = hI M 140) : Bd M M' q := by
  obtain ⟨a1, a2, a3, a4, a5, a6, a7, a8, a9, a10⟩ := P
  have := a1.2.2.2.2
  exact ⟨h, e9, e8, c, p, e3.trans a5, e4.trans a6, by omega, PV_cong a10 (fun j _ => ⟨by rw [e5], by rw [e6]⟩)⟩
/-- the state behind must(false) -/
def badM (M : hp) (s : Nat) : hp := sI (sI M 126 19 1) 126 18 (nI s)
theorem badM_fr (M : hp) (s : Nat) : pFr M (badM M s) := ⟨agr_trans (agr_sI (by decide)) (agr_sI (by decide)), fun k q => by
  unfold badM
  rw [hI_sI_k (fun e => by rw [e] at q; exact absurd q (by decide)), hI_sI_k (fun e => by rw [e] at q; exact absurd q (by decide))], fun _ _ => rfl, fun z => by
  unfold badM at z
  rw [hI_sI_k (by decide), hI_sI_s] at z
  exact absurd z (by decide)⟩
theorem badM_Bd {b : Nat → Nat} {L s n k c p q : Nat} {o : Bool} (P : PS M b L o s n k c p) (hL : L ≤ 400) : Bd M (badM M q) q := by
  refine PS_bad P hL (badM_fr M q) ?_ ?_ ?_ ?_ ?_ ?_
  · unfold badM; rw [hI_sI_k (by decide), hI_sI_s]
  · unfold badM; rw [hI_sI_s]
  · unfold badM; rw [hI_sI_k (by decide), hI_sI_k (by decide)]
  · unfold badM; rw [hI_sI_k (by decide), hI_sI_k (by decide)]
  · unfold badM; funext j; rw [hI_sI_a (by decide), hI_sI_a (by decide)]
  · unfold badM; funext j; rw [hI_sI_a (by decide), hI_sI_a (by decide)]
theorem badM_19 (M : hp) (q : Nat) : hI (badM M q) 126 19 = 1 := by unfold badM; rw [hI_sI_k (by decide), hI_sI_s]
theorem memit_fr (M : hp) (c : Nat) (x y : Int32) : pFr M (memit M c x y) := pFr_f (pFr_a (pFr_a (pFr_refl M) (Or.inl rfl)) (Or.inr (Or.inl rfl))) (by decide)
theorem mpush_fr (M : hp) (p : Nat) (x y : Int32) : pFr M (mpush M p x y) := pFr_f (pFr_a (pFr_a (pFr_refl M) (Or.inr (Or.inr (Or.inl rfl)))) (Or.inr (Or.inr (Or.inr rfl)))) (by decide)
theorem memit_f {M : hp} {c k : Nat} {x y : Int32} (h : ¬ k = 23) : hI (memit M c x y) 126 k = hI M 126 k := by
  unfold memit
  rw [hI_sI_k h, hI_sI_a (by decide), hI_sI_a (by decide)]
theorem memit_23 (M : hp) (c : Nat) (x y : Int32) : hI (memit M c x y) 126 23 = nI (c + 1) := by unfold memit; rw [hI_sI_s]
theorem memit_op (M : hp) (c j : Nat) (x y : Int32) : hI (memit M c x y) 137 j = if j = c then x else hI M 137 j := by
  unfold memit
  rw [hI_sI_a (by decide), hI_sI_a (by decide), hI_sI]
  by_cases h : j = c
  · rw [if_pos ⟨rfl, h⟩, if_pos h]
  · rw [if_neg (fun z => h z.2), if_neg h]
theorem memit_arg (M : hp) (c j : Nat) (x y : Int32) : hI (memit M c x y) 138 j = if j = c then y else hI M 138 j := by
  unfold memit
  rw [hI_sI_a (by decide), hI_sI]
  by_cases h : j = c
  · rw [if_pos ⟨rfl, h⟩, if_pos h]
  · rw [if_neg (fun z => h z.2), if_neg h, hI_sI_a (by decide)]
theorem memit_pile (M : hp) (c : Nat) (x y : Int32) : hI (memit M c x y) 139 = hI M 139 ∧ hI (memit M c x y) 140 = hI M 140 := by
  constructor
  · funext j; unfold memit; rw [hI_sI_a (by decide), hI_sI_a (by decide), hI_sI_a (by decide)]
  · funext j; unfold memit; rw [hI_sI_a (by decide), hI_sI_a (by decide), hI_sI_a (by decide)]
theorem mpush_f {M : hp} {p k : Nat} {x y : Int32} (h : ¬ k = 29) : hI (mpush M p x y) 126 k = hI M 126 k := by
  unfold mpush
  rw [hI_sI_k h, hI_sI_a (by decide), hI_sI_a (by decide)]
theorem mpush_29 (M : hp) (p : Nat) (x y : Int32) : hI (mpush M p x y) 126 29 = nI (p + 1) := by unfold mpush; rw [hI_sI_s]
theorem mpush_code (M : hp) (p : Nat) (x y : Int32) : hI (mpush M p x y) 137 = hI M 137 ∧ hI (mpush M p x y) 138 = hI M 138 := by
  constructor
  · funext j; unfold mpush; rw [hI_sI_a (by decide), hI_sI_a (by decide), hI_sI_a (by decide)]
  · funext j; unfold mpush; rw [hI_sI_a (by decide), hI_sI_a (by decide), hI_sI_a (by decide)]
theorem mpush_op (M : hp) (p j : Nat) (x y : Int32) : hI (mpush M p x y) 139 j = if j = p then x else hI M 139 j := by
  unfold mpush
  rw [hI_sI_a (by decide), hI_sI_a (by decide), hI_sI]
  by_cases h : j = p
  · rw [if_pos ⟨rfl, h⟩, if_pos h]
  · rw [if_neg (fun z => h z.2), if_neg h]
theorem mpush_at (M : hp) (p j : Nat) (x y : Int32) : hI (mpush M p x y) 140 j = if j = p then y else hI M 140 j := by
  unfold mpush
  rw [hI_sI_a (by decide), hI_sI]
  by_cases h : j = p
  · rw [if_pos ⟨rfl, h⟩, if_pos h]
  · rw [if_neg (fun z => h z.2), if_neg h, hI_sI_a (by decide)]
theorem PV_push {p v a : Nat} (h : PV M p) (hv : 20 ≤ v ∧ v ≤ 32) (ha : a < 400) : PV (mpush M p (nI v) (nI a)) (p + 1) := by
  intro j hj
  rw [mpush_op, mpush_at]
  by_cases c : j = p
  · rw [if_pos c, if_pos c]
    exact ⟨⟨v, hv.1, hv.2, rfl⟩, a, ha, rfl⟩
  · rw [if_neg c, if_neg c]
    exact h j (by omega)
/-- a push, then the next token -/
theorem PS_push {M' : hp} {b : Nat → Nat} {L s n k c p s' v a : Nat} {o : Bool} (P : PS M b L o s n k c p) (hv : 20 ≤ v ∧ v ≤ 32) (ha : a < 400) (h : tkS (mpush M p (nI v) (nI a)) M') (K : NTk M' b L s') (hs : s < s') : PS M' b L o s' n k c (p + 1) := by
  obtain ⟨a1, a2, a3, a4, a5, a6, a7, a8, a9, a10⟩ := P
  have e : ∀ j, ¬ j = 14 → ¬ j = 15 → ¬ j = 16 → ¬ j = 29 → hI M' 126 j = hI M 126 j := fun j h1 h2 h3 h4 => (h.2.1 j h1 h2 h3).trans (mpush_f h4)
  exact ⟨K, (e 19 (by decide) (by decide) (by decide) (by decide)).trans a2, (e 26 (by decide) (by decide) (by decide) (by decide)).trans a3, (e 30 (by decide) (by decide) (by decide) (by decide)).trans a4, (e 23 (by decide) (by decide) (by decide) (by decide)).trans a5, (h.2.1 29 (by decide) (by decide) (by decide)).trans (mpush_29 _ _ _ _), (e 20 (by decide) (by decide) (by decide) (by decide)).trans a7, a8, by omega, PV_cong (PV_push a10 hv ha) (fun j _ => ⟨by rw [agr_I h.1 (by decide)], by rw [agr_I h.1 (by decide)]⟩)⟩
/-- what a stretch comes to: from M0 on D was read -/
def MOk (M0 M' : hp) (b : Nat → Nat) (L : Nat) (o : Bool) (s n k c p s1 n1 c1 : Nat) (D : Den) : Prop := pFr M0 M' ∧ PS M' b L o s1 n1 k c1 p ∧ (∀ j, j < c → hI M' 137 j = hI M0 137 j ∧ hI M' 138 j = hI M0 138 j) ∧ (∀ j, j < p → hI M' 139 j = hI M0 139 j ∧ hI M' 140 j = hI M0 140 j) ∧ SegR o (hI M' 137) (hI M' 138) c c1 D ∧ s < s1 ∧ c1 + s ≤ c + s1
theorem MOk_tk {M0 M1 M2 : hp} {b : Nat → Nat} {L s n k c p s1 n1 c1 s2 : Nat} {o : Bool} {D : Den} (h : MOk M0 M1 b L o s n k c p s1 n1 c1 D) (t : tkS M1 M2) (K : NTk M2 b L s2) (hs : s1 ≤ s2) : MOk M0 M2 b L o s n k c p s2 n1 c1 D := by
  obtain ⟨a1, a2, a3, a4, a5, a6, a7⟩ := h
  refine ⟨pFr_trans a1 (tkS_pFr t), PS_tk a2 t K hs, fun j hj => ?_, fun j hj => ?_, ?_, by omega, by omega⟩
  · rw [agr_I t.1 (show ([126] : List Nat).contains 137 = false by decide), agr_I t.1 (show ([126] : List Nat).contains 138 = false by decide)]
    exact a3 j hj
  · rw [agr_I t.1 (show ([126] : List Nat).contains 139 = false by decide), agr_I t.1 (show ([126] : List Nat).contains 140 = false by decide)]
    exact a4 j hj
  · rw [agr_I t.1 (show ([126] : List Nat).contains 137 = false by decide), agr_I t.1 (show ([126] : List Nat).contains 138 = false by decide)]
    exact a5
/-- the same token -/
def tokE (A B : hp) : Prop := hI B 126 14 = hI A 126 14 ∧ hI B 126 15 = hI A 126 15 ∧ hI B 126 16 = hI A 126 16 ∧ hL B 126 17 = hL A 126 17
theorem NTk_tokE {A B : hp} {b : Nat → Nat} {L s : Nat} (K : NTk A b L s) (h : tokE A B) : NTk B b L s := NTk_fr K h.1 h.2.1 h.2.2.1 h.2.2.2
theorem tkS_both {M M' : hp} (h : tkS M M') (a k : Nat) (v : Int32) : tkS (sI M a k v) (sI M' a k v) := by
  refine ⟨agr_both h.1 a k v, fun j h1 h2 h3 => ?_, h.2.2⟩
  rw [hI_sI, hI_sI, h.2.1 j h1 h2 h3]
theorem tkS_trans {M M1 M2 : hp} (h : tkS M M1) (h2 : tkS M1 M2) : tkS M M2 := ⟨agr_trans h.1 h2.1, fun j q1 q2 q3 => (h2.2.1 j q1 q2 q3).trans (h.2.1 j q1 q2 q3), fun j q => (h2.2.2 j q).trans (h.2.2 j q)⟩
/-- M settles to M1, whatever the token, down to l -/
def Pn (l : Nat) (M M1 : hp) : Prop := ∀ M2, tkS M M2 → ∃ M3, tkS M1 M3 ∧ tokE M2 M3 ∧ ∀ (l' : Nat) (d : Nat) (Q : Option Value → hp → Prop), l' ≤ l → Wp none d 198 0 [(0, .ref 126), (1, .int (nI l'))] [] M3 Q → Wp none d 198 0 [(0, .ref 126), (1, .int (nI l'))] [] M2 Q
theorem Pn_refl (l : Nat) (M : hp) : Pn l M M := fun M2 h => ⟨M2, h, ⟨rfl, rfl, rfl, rfl⟩, fun _ _ _ _ q => q⟩
theorem Pn_le {l l' : Nat} {M M1 : hp} (h : Pn l M M1) (hl : l' ≤ l) : Pn l' M M1 := fun M2 t => by
  obtain ⟨M3, a1, a2, a3⟩ := h M2 t
  exact ⟨M3, a1, a2, fun l2 d Q q w => a3 l2 d Q (by omega) w⟩
theorem memit_both {M M' : hp} (h : tkS M M') (c : Nat) (x y : Int32) : tkS (memit M c x y) (memit M' c x y) := tkS_both (tkS_both (tkS_both h _ _ _) _ _ _) _ _ _
theorem Pn_pop {l p v c : Nat} {M M1 : hp} (h : Pn l M M1) (F : MF M1) (hp1 : hI M1 126 29 = nI (p + 1)) (h4 : p < 400) (hl : l < 10) (hv : 20 ≤ v ∧ v ≤ 28) (h9 : hI M1 139 p = nI v) (hb : l ≤ bnF v) (hc : hI M1 126 23 = nI c) (hc4 : c < 400) : Pn l M (popE M1 c p v) := by
  intro M2 t
  obtain ⟨M3, a1, a2, a3⟩ := h M2 t
  have F3 : MF M3 := MF_agr F a1.1
  refine ⟨popE M3 c p v, memit_both (tkS_both a1 _ _ _) _ _ _, ?_, fun l' d Q q w => ?_⟩
  · unfold tokE popE
    rw [memit_f (by decide), memit_f (by decide), memit_f (by decide), hI_sI_k (by decide), hI_sI_k (by decide), hI_sI_k (by decide)]
    exact a2
  · apply a3 l' d Q q
    rw [settle_pop F3 ((a1.2.1 29 (by decide) (by decide) (by decide)).trans hp1) h4 (by omega) hv (by rw [agr_I a1.1 (by decide)]; exact h9) (by omega) ((a1.2.1 23 (by decide) (by decide) (by decide)).trans hc) hc4]
    exact w
theorem Pn_jmp {l p v c a : Nat} {M M1 : hp} (h : Pn l M M1) (F : MF M1) (hp1 : hI M1 126 29 = nI (p + 1)) (h4 : p < 400) (hl : l < 10) (hv : v = 29 ∨ v = 30) (h9 : hI M1 139 p = nI v) (hb : l ≤ bnF v) (hc : hI M1 126 23 = nI c) (ha : hI M1 140 p = nI a) (ha4 : a < 400) : Pn l M (popJ M1 c p a) := by
  intro M2 t
  obtain ⟨M3, a1, a2, a3⟩ := h M2 t
  have F3 : MF M3 := MF_agr F a1.1
  refine ⟨popJ M3 c p a, tkS_both (tkS_both a1 _ _ _) _ _ _, ?_, fun l' d Q q w => ?_⟩
  · exact ⟨(hI_sI_a (by decide)).trans ((hI_sI_k (by decide)).trans a2.1), (hI_sI_a (by decide)).trans ((hI_sI_k (by decide)).trans a2.2.1), (hI_sI_a (by decide)).trans ((hI_sI_k (by decide)).trans a2.2.2.1), a2.2.2.2⟩
  · apply a3 l' d Q q
    rw [settle_jmp F3 ((a1.2.1 29 (by decide) (by decide) (by decide)).trans hp1) h4 (by omega) hv (by rw [agr_I a1.1 (by decide)]; exact h9) (by omega) ((a1.2.1 23 (by decide) (by decide) (by decide)).trans hc) (by rw [agr_I a1.1 (by decide)]; exact ha) ha4]
    exact w
/-- with what waits on the pile -/
def MSet (l : Nat) (M0 M' M1 : hp) (b : Nat → Nat) (L : Nat) (o : Bool) (s n k c p s1 n1 p1 c1 : Nat) (D : Den) : Prop := (∃ c', PS M' b L o s1 n1 k c' p1) ∧ p ≤ p1 ∧ MOk M0 M1 b L o s n k c p s1 n1 c1 D ∧ pFr M0 M' ∧ Pn l M' M1 ∧ (∀ j, p ≤ j → j < p1 → ∃ v, 20 ≤ v ∧ v ≤ 24 ∧ hI M' 139 j = nI v) ∧ ∀ j, j < p → hI M' 139 j = hI M0 139 j
theorem MSet_refl {M0 M' : hp} {b : Nat → Nat} {L s n k c p s1 n1 c1 l : Nat} {o : Bool} {D : Den} (h : MOk M0 M' b L o s n k c p s1 n1 c1 D) : MSet l M0 M' M' b L o s n k c p s1 n1 p c1 D := ⟨⟨c1, h.2.1⟩, Nat.le_refl _, h, h.1, Pn_refl _ _, fun j h1 h2 => absurd h1 (by omega), fun j hj => (h.2.2.2.1 j hj).1⟩
theorem MSet_le {M0 M' M1 : hp} {b : Nat → Nat} {L s n k c p s1 n1 p1 c1 l l' : Nat} {o : Bool} {D : Den} (h : MSet l M0 M' M1 b L o s n k c p s1 n1 p1 c1 D) (hl : l' ≤ l) : MSet l' M0 M' M1 b L o s n k c p s1 n1 p1 c1 D := ⟨h.1, h.2.1, h.2.2.1, h.2.2.2.1, Pn_le h.2.2.2.2.1 hl, h.2.2.2.2.2⟩
/-- an operation over two stretches, settled -/
theorem MOk_bin {M0 M1 M2 M3 : hp} {b : Nat → Nat} {L s n k c p s1 n1 c1 s' s3 n3 c3 v : Nat} {o : Bool} {D D1 : Den} (h : MOk M0 M1 b L o s n k c p s1 n1 c1 D) (hs : s1 < s') (hv : 20 ≤ v ∧ v < 28) (t : tkS (mpush M1 p (nI v) (nI 0)) M2) (h2 : MOk M2 M3 b L o s' n1 k c1 (p + 1) s3 n3 c3 D1) (hL : L ≤ 400) : hI M3 126 29 = nI (p + 1) ∧ hI M3 139 p = nI v ∧ hI M3 126 23 = nI c3 ∧ p < 400 ∧ c3 < 400 ∧ MOk M0 (popE M3 c3 p v) b L o s n k c p s3 n3 (c3 + 1) (binD (nI (v - 18)) D D1) := by
  obtain ⟨a1, a2, a3, a4, a5, a6, a7⟩ := h
  obtain ⟨b1, b2, b3, b4, b5, b6, b7⟩ := h2
  have hs3 := b2.1.2.2.2.2
  have hcp := a2.2.2.2.2.2.2.2.2.1
  have hcp3 := b2.2.2.2.2.2.2.2.2.1
  have hc1 := a5.1
  have hc3 := b5.1
  have n139 : ([126] : List Nat).contains 139 = false := by decide
  have n140 : ([126] : List Nat).contains 140 = false := by decide
  have n137 : ([126] : List Nat).contains 137 = false := by decide
  have n138 : ([126] : List Nat).contains 138 = false := by decide
  have pc := mpush_code M1 p (nI v) (nI 0)
  have e37 : ∀ j, j < c1 → hI M3 137 j = hI M1 137 j ∧ hI M3 138 j = hI M1 138 j := fun j hj => by
    have := b3 j hj
    rw [this.1, this.2, agr_I t.1 n137, agr_I t.1 n138, pc.1, pc.2]
    exact ⟨rfl, rfl⟩
  have e39 : ∀ j, j < p → hI M3 139 j = hI M1 139 j ∧ hI M3 140 j = hI M1 140 j := fun j hj => by
    have := b4 j (by omega)
    rw [this.1, this.2, agr_I t.1 n139, agr_I t.1 n140, mpush_op, mpush_at, if_neg (by omega), if_neg (by omega)]
    exact ⟨rfl, rfl⟩
  have et : hI M3 139 p = nI v := by rw [(b4 p (by omega)).1, agr_I t.1 n139, mpush_op, if_pos rfl]
  have fr : pFr M3 (popE M3 c3 p v) := pFr_trans (pFr_f (pFr_refl M3) (by decide)) (memit_fr _ _ _ _)
  have pp := memit_pile (sI M3 126 29 (nI p)) c3 (nI v) 0
  have ep : ∀ j, hI (popE M3 c3 p v) 139 j = hI M3 139 j ∧ hI (popE M3 c3 p v) 140 j = hI M3 140 j := fun j => by
    unfold popE
    rw [pp.1, pp.2, hI_sI_a (by decide), hI_sI_a (by decide)]
    exact ⟨rfl, rfl⟩
  have eo : ∀ j, ¬ j = c3 → hI (popE M3 c3 p v) 137 j = hI M3 137 j ∧ hI (popE M3 c3 p v) 138 j = hI M3 138 j := fun j hj => by
    unfold popE
    rw [memit_op, memit_arg, if_neg hj, if_neg hj, hI_sI_a (by decide), hI_sI_a (by decide)]
    exact ⟨rfl, rfl⟩
  have ef : ∀ j, ¬ j = 23 → ¬ j = 29 → hI (popE M3 c3 p v) 126 j = hI M3 126 j := fun j h1 h2 => by
    unfold popE
    rw [memit_f h1, hI_sI_k h2]
  obtain ⟨p1, p2, p3, p4, p5, p6, p7, p8, p9, p10⟩ := b2
  refine ⟨p6, et, p5, by omega, by omega, pFr_trans a1 (pFr_trans (mpush_fr _ _ _ _) (pFr_trans (tkS_pFr t) (pFr_trans b1 fr))), ⟨NTk_fr p1 (ef _ (by decide) (by decide)) (ef _ (by decide) (by decide)) (ef _ (by decide) (by decide)) rfl, (ef _ (by decide) (by decide)).trans p2, (ef _ (by decide) (by decide)).trans p3, (ef _ (by decide) (by decide)).trans p4, ?_, ?_, (ef _ (by decide) (by decide)).trans p7, p8, by omega, ?_⟩, ?_, ?_, ?_, by omega, by omega⟩
  · unfold popE; exact memit_23 _ _ _ _
  · unfold popE; rw [memit_f (by decide), hI_sI_s]
  · exact PV_cong a2.2.2.2.2.2.2.2.2.2 (fun j hj => by rw [(ep j).1, (ep j).2]; exact e39 j hj)
  · intro j hj
    rw [(eo j (by omega)).1, (eo j (by omega)).2, (e37 j (by omega)).1, (e37 j (by omega)).2]
    exact a3 j hj
  · intro j hj
    rw [(ep j).1, (ep j).2, (e39 j hj).1, (e39 j hj).2]
    exact a4 j hj
  · refine SegR_bin (m := c1) (SegR_cong a5 (fun j q1 q2 => ?_)) (SegR_cong b5 (fun j q1 q2 => ?_)) ?_ hv
    · rw [(eo j (by omega)).1, (eo j (by omega)).2, (e37 j q2).1, (e37 j q2).2]
      exact ⟨rfl, rfl⟩
    · rw [(eo j (by omega)).1, (eo j (by omega)).2]
      exact ⟨rfl, rfl⟩
    · unfold popE; rw [memit_op, if_pos rfl]
