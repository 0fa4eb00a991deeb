variable {d : Nat} {M : hp} {Q : Option Value → hp → Prop}
/-! a whole text, as the reference reads it -/
def tf (k : Nat) : Bool := lk k || Nat.beq k 20 || Nat.beq k 13
def finM (M : hp) : hp := sI (sI M 126 20 0) 126 13 0
def FE (a : Nat) (M0 M' : hp) : Prop := agr [126, a, 137, 138, 139, 140] M0 M' ∧ (∀ k, tf k = false → hI M' 126 k = hI M0 126 k) ∧ (∀ k, ¬ k = 17 → hL M' 126 k = hL M0 126 k) ∧ hI M' 126 20 = 0 ∧ hI M' 126 13 = 0
theorem tf_ne {k : Nat} (h : tf k = false) : lk k = false ∧ ¬ k = 20 ∧ ¬ k = 13 := by
  unfold tf at h
  rw [Bool.or_eq_false_iff, Bool.or_eq_false_iff] at h
  exact ⟨h.1.1, fun e => by rw [e] at h; exact absurd h.1.2 (by decide), fun e => by rw [e] at h; exact absurd h.2 (by decide)⟩
theorem tf_all {k : Nat} (h : tf k = false) : ¬ k = 14 ∧ ¬ k = 15 ∧ ¬ k = 16 ∧ ¬ k = 18 ∧ ¬ k = 19 ∧ ¬ k = 20 ∧ ¬ k = 21 ∧ ¬ k = 23 ∧ ¬ k = 26 := by
  refine ⟨?_, ?_, ?_, ?_, ?_, ?_, ?_, ?_, ?_⟩ <;> intro e <;> rw [e] at h <;> exact absurd h (by decide)
theorem fin_f {k : Nat} (h1 : ¬ k = 20) (h2 : ¬ k = 13) : hI (finM M) 126 k = hI M 126 k := by
  unfold finM
  rw [hI_sI_k h2, hI_sI_k h1]
theorem fin_agr (M : hp) : agr [126] M (finM M) := agr_trans (agr_sI (by decide)) (agr_sI (by decide))
theorem FE_fin {a : Nat} {M0 M : hp} (h : LF a M0 M 0 0) : FE a M0 (finM M) := by
  refine ⟨agr_trans h.1 (agr_trans (agr_sI (by simp)) (agr_sI (by simp))), fun k q => ?_, h.2.2.1.1, ?_, hI_sI_s _ _ _ _⟩
  · have := tf_ne q
    rw [fin_f this.2.1 this.2.2]
    exact h.2.1 k this.1
  · unfold finM
    rw [hI_sI_k (by decide), hI_sI_s]
def MRes {γ : Type} (a : Nat) (Cr : hp → Nat → Nat → γ → Prop) (M0 : hp) (E : hp → Prop) (r : Sum Nat (Nat × (Nat → γ))) : Prop := match r with
  | .inl q => ∀ M', FE a M0 M' → hI M' 126 19 = 1 → hI M' 126 18 = nI q → E M'
  | .inr (n, cf) => ∀ M' len, FE a M0 M' → hI M' 126 19 = 0 → hI M' 126 18 = -1 → hI M' 126 21 = nI n → hI M' 126 23 = nI len → len ≤ 400 → 1 ≤ n → n ≤ 12 → (∀ j, j < n → Cr M' len j (cf j)) → E M'
theorem text_loop {γ : Type} {a L : Nat} {b : Nat → Nat} {o : Bool} {Cr : hp → Nat → Nat → γ → Prop} {cl : Nat → Nat → Sum Nat (Nat × Nat × γ)} {W G X E : hp → Prop} {M0 : hp} (ha : cla a) (F0 : MF M0) (T0 : TR M0 b L) (W0 : MWd M0) (e0 : hI M0 126 18 = -1)
    (hk : ∀ (M M' : hp) (i j c c1 : Nat) (x : γ), Cr M c j x → LF a M M' i c → j < i → c ≤ c1 → Cr M' c1 j x)
    (hk2 : ∀ (M : hp) (c j : Nat) (x : γ), Cr M c j x → Cr (finM M) c j x)
    (hbad : ∀ M, MF M → hI M 126 19 = 1 → X M → W M)
    (hno : ∀ M s, MF M → TR M b L → NTk M b L s → hI M 126 19 = 0 → ¬ sg b L s 59 → X M → W M)
    (hyes : ∀ M s, MF M → TR M b L → NTk M b L s → hI M 126 19 = 0 → sg b L s 59 → (∀ M1, tkS M M1 → NTk M1 b L (nx b L s) → G M1) → W M)
    (hC : ∀ M i s n c, MF M → TR M b L → MWd M → XP M b L o s n c → hI M 126 21 = nI i → i < 12 → LRs a Cr M b L o i c (fun _ M' => W M') (cl s n) → G M)
    (h13 : ∀ M s n c, MF M → MWd M → XP M b L o s n c → hI M 126 21 = nI 12 → W (badM M s) → G M)
    (hX1 : ∀ M, MF M → hI M 126 19 = 1 → E (finM M) → X M)
    (hX2 : ∀ M s, MF M → NTk M b L s → hI M 126 19 = 0 → E (finM (if L ≤ s then M else badM M s)) → X M) :
    ∀ (f i s n c : Nat) (cf : Nat → γ) (M : hp), f + i = 12 → LF a M0 M 0 0 → XP M b L o s n c → hI M 126 21 = nI i → (∀ j, j < i → Cr M c j (cf j)) → MRes a Cr M0 E (textP b L cl f i s n cf) → G M := by
  have L4 := T0.2.1
  have fb : ∀ (M : hp) (s : Nat), LF a M (badM M s) 0 0 := fun M s => LF_pFr ha (badM_fr M s) (fun j hj => absurd hj (by omega))
  have b8 : ∀ (M : hp) (s : Nat), hI (finM (badM M s)) 126 18 = nI s := fun M s => by
    rw [fin_f (by decide) (by decide)]
    unfold badM
    rw [hI_sI_s]
  have b9 : ∀ (M : hp) (s : Nat), hI (finM (badM M s)) 126 19 = 1 := fun M s => by
    rw [fin_f (by decide) (by decide)]
    exact badM_19 M s
  intro f
  induction f with
  | zero =>
    intro i s n c cf M e fr X1 e21 hcl H
    have F := MF_LF F0 fr
    have : i = 12 := by omega
    subst this
    have Fb : MF (badM M s) := F
    refine h13 M s n c F (MWd_LF ha W0 fr) X1 e21 (hbad _ Fb (badM_19 M s) (hX1 _ Fb (badM_19 M s) ?_))
    exact H _ (FE_fin (LF_trans fr (fb M s) (Nat.le_refl _) (Nat.le_refl _))) (b9 M s) (b8 M s)
  | succ f ih =>
    intro i s n c cf M e fr X1 e21 hcl H
    have F := MF_LF F0 fr
    have T := TR_LF ha T0 fr
    refine hC M i s n c F T (MWd_LF ha W0 fr) X1 e21 (by omega) ?_
    have H : MRes a Cr M0 E (match cl s n with
      | .inl q => .inl q
      | .inr (s1, n1, x) => if L ≤ s1 then .inr (i + 1, fun j => if j = i then x else cf j) else if sg b L s1 59 then textP b L cl f (i + 1) (nx b L s1) n1 (fun j => if j = i then x else cf j) else .inl s1) := H
    cases hr : cl s n with
    | inl q =>
      rw [hr] at H
      intro M' g
      have F' : MF M' := MF_LF F g.1
      refine hbad M' F' g.2.1 (hX1 M' F' g.2.1 (H _ (FE_fin (LF_trans fr g.1 (Nat.le_refl _) (Nat.le_refl _))) ?_ ?_))
      · rw [fin_f (by decide) (by decide)]; exact g.2.1
      · rw [fin_f (by decide) (by decide)]; exact g.2.2
    | inr y =>
      obtain ⟨s1, n1, x⟩ := y
      rw [hr] at H
      have H : MRes a Cr M0 E (if L ≤ s1 then .inr (i + 1, fun j => if j = i then x else cf j) else if sg b L s1 59 then textP b L cl f (i + 1) (nx b L s1) n1 (fun j => if j = i then x else cf j) else .inl s1) := H
      intro M' c1 l X2 e1 hc hx
      have F' := MF_LF F l
      have T' := TR_LF ha T l
      have fr' : LF a M0 M' 0 0 := LF_trans fr l (Nat.zero_le _) (Nat.zero_le _)
      have b0 := X2.2.1
      have hs1 := X2.1.2.2.2.2
      have hcs := X2.2.2.2.2.2.2
      have hall : ∀ j, j < i + 1 → Cr M' c1 j (if j = i then x else cf j) := by
        intro j hj
        by_cases z : j = i
        · rw [if_pos z, z]; exact hx
        · rw [if_neg z]
          exact hk M M' i j c c1 _ (hcl j (by omega)) l (by omega) hc
      by_cases q1 : L ≤ s1
      · rw [if_pos q1] at H
        refine hno M' s1 F' T' X2.1 b0 (fun z => absurd z.1 (by omega)) (hX2 M' s1 F' X2.1 b0 ?_)
        rw [if_pos q1]
        refine H (finM M') c1 (FE_fin fr') ?_ ?_ ?_ ?_ (by omega) (by omega) (by omega) (fun j hj => hk2 _ _ _ _ (hall j hj))
        · rw [fin_f (by decide) (by decide)]; exact b0
        · rw [fin_f (by decide) (by decide)]; exact (fr'.2.2.1.2 b0).2.trans e0
        · rw [fin_f (by decide) (by decide)]; exact e1
        · rw [fin_f (by decide) (by decide)]; exact X2.2.2.2.1
      · rw [if_neg q1] at H
        by_cases q2 : sg b L s1 59
        · rw [if_pos q2] at H
          refine hyes M' s1 F' T' X2.1 b0 q2 ?_
          intro M1 t1 K1
          have hnx := nx_gt (b := b) (show s1 < L by omega)
          have lt : LF a M' M1 (i + 1) c1 := LF_tk ha t1
          exact ih (i + 1) (nx b L s1) n1 c1 _ M1 (by omega) (LF_trans fr' lt (Nat.zero_le _) (Nat.zero_le _)) (XP_tk X2 t1 K1 (Nat.le_of_lt hnx)) ((t1.2.1 21 (by decide) (by decide) (by decide)).trans e1) (fun j hj => hk M' M1 (i + 1) j c1 c1 _ (hall j hj) lt hj (Nat.le_refl _)) H
        · rw [if_neg q2] at H
          refine hno M' s1 F' T' X2.1 b0 q2 (hX2 M' s1 F' X2.1 b0 ?_)
          rw [if_neg q1]
          exact H _ (FE_fin (LF_trans fr' (fb M' s1) (Nat.le_refl _) (Nat.le_refl _))) (b9 M' s1) (b8 M' s1)
theorem mEnd_bad (F : MF M) (hb : hI M 126 19 = 1) : Wp none d 211 0 [(0, .ref 126)] [] M Q = Q none (finM M) := by
  have F1 : MF (sI M 126 20 0) := F
  rw [m211_0 F, hb, k211_4, if_pos (by decide), m211_19 F, m211_24 F1]
  rfl
theorem mEnd_ok {b : Nat → Nat} {L s : Nat} (F : MF M) (K : NTk M b L s) (hb : hI M 126 19 = 0) : Wp none d 211 0 [(0, .ref 126)] [] M Q = Q none (finM (if L ≤ s then M else badM M s)) := by
  have F1 : MF (sI M 126 20 0) := F
  have Fb : MF (badM M s) := F
  have Fc : MF (sI (badM M s) 126 20 0) := F
  rw [m211_0 F, hb, k211_4, if_neg (by decide), m211_7 F, K.2.2.1, k211_11]
  by_cases c : L ≤ s
  · have e : srt b L s = 0 := if_pos c
    rw [e, if_pos c, if_pos (show nI 0 = 0 from rfl), m211_19 F, m211_24 F1]
    rfl
  · have e : ¬ nI (srt b L s) = 0 := by
      unfold srt
      rw [if_neg c]
      by_cases z1 : isL (b s) = true
      · rw [if_pos z1]; decide
      · rw [if_neg z1]
        by_cases z2 : isD (b s) = true
        · rw [if_pos z2]; decide
        · rw [if_neg z2]; decide
    rw [if_neg c, if_neg e, k211_14, m211_16 F, must_n F K hb]
    simp only [oZ]
    show Wp none d 211 19 [(0, .ref 126)] [] (badM M s) Q = _
    rw [m211_19 Fb, m211_24 Fc]
    rfl
theorem mBegin_ok {b : Nat → Nat} {L : Nat} {o : Bool} (F : MF M) (T : TR M b L) (hQ : ∀ M', agr [126] M M' → (∀ k, tf k = false → hI M' 126 k = hI M 126 k) → (∀ k, ¬ k = 17 → hL M' 126 k = hL M 126 k) → TR M' b L → XP M' b L o (scn b L isB 0) 0 0 → hI M' 126 21 = nI 0 → hI M' 126 18 = -1 → Q none M') : Wp none d 210 0 [(0, .ref 126), (1, .int (bz (o = true)))] [] M Q := by
  have F1 : MF (sI M 126 20 (bz (o = true))) := F
  have F2 : MF (sI (sI M 126 20 (bz (o = true))) 126 15 0) := F
  have F3 : MF (sI (sI (sI M 126 20 (bz (o = true))) 126 15 0) 126 19 0) := F
  have F4 : MF (sI (sI (sI (sI M 126 20 (bz (o = true))) 126 15 0) 126 19 0) 126 18 (-1)) := F
  rw [m210_0 F (bz_or _), k210_5, m210_6 F1, m188_0 F1, m188_5 F2, m188_10 F3, k188_15, m188_16 F4]
  have a4 : agr [126] M (sI (sI (sI (sI M 126 20 (bz (o = true))) 126 15 0) 126 19 0) 126 18 (-1)) := agr_trans (agr_sI (by decide)) (agr_trans (agr_sI (by decide)) (agr_trans (agr_sI (by decide)) (agr_sI (by decide))))
  have f4 : ∀ k, tf k = false → hI (sI (sI (sI (sI M 126 20 (bz (o = true))) 126 15 0) 126 19 0) 126 18 (-1)) 126 k = hI M 126 k := fun k q => by
    have z := tf_all q
    rw [hI_sI_k z.2.2.2.1, hI_sI_k z.2.2.2.2.1, hI_sI_k z.2.1, hI_sI_k z.2.2.2.2.2.1]
  have l4 : ∀ k, hL (sI (sI (sI (sI M 126 20 (bz (o = true))) 126 15 0) 126 19 0) 126 18 (-1)) 126 k = hL M 126 k := fun k => rfl
  have r5 : hI (sI (sI (sI (sI M 126 20 (bz (o = true))) 126 15 0) 126 19 0) 126 18 (-1)) 126 15 = nI 0 := by rw [hI_sI_k (by decide), hI_sI_k (by decide), hI_sI_s]; rfl
  have r9 : hI (sI (sI (sI (sI M 126 20 (bz (o = true))) 126 15 0) 126 19 0) 126 18 (-1)) 126 19 = 0 := by rw [hI_sI_k (by decide), hI_sI_s]
  have r8 : hI (sI (sI (sI (sI M 126 20 (bz (o = true))) 126 15 0) 126 19 0) 126 18 (-1)) 126 18 = -1 := hI_sI_s _ _ _ _
  have r0 : hI (sI (sI (sI (sI M 126 20 (bz (o = true))) 126 15 0) 126 19 0) 126 18 (-1)) 126 20 = bz (o = true) := by rw [hI_sI_k (by decide), hI_sI_k (by decide), hI_sI_k (by decide), hI_sI_s]
  have r3 : hI (sI (sI (sI (sI M 126 20 (bz (o = true))) 126 15 0) 126 19 0) 126 18 (-1)) 126 13 = hI M 126 13 := by rw [hI_sI_k (by decide), hI_sI_k (by decide), hI_sI_k (by decide), hI_sI_k (by decide)]
  generalize sI (sI (sI (sI M 126 20 (bz (o = true))) 126 15 0) 126 19 0) 126 18 (-1) = M4 at *
  have T4 : TR M4 b L := TR_of T r3 (agr_I a4 (by decide))
  refine next_ok F4 T4 r5 (Nat.zero_le _) ?_
  intro M5 t K
  have F5 := MF_agr F4 t.1
  have F6 : MF (sI M5 126 21 0) := F5
  have F7 : MF (sI (sI M5 126 21 0) 126 23 0) := F5
  have te : ∀ k, ¬ k = 14 → ¬ k = 15 → ¬ k = 16 → hI M5 126 k = hI M4 126 k := t.2.1
  have ek : ∀ k, ¬ k = 21 → ¬ k = 23 → ¬ k = 26 → hI (sI (sI (sI M5 126 21 0) 126 23 0) 126 26 0) 126 k = hI M5 126 k := fun k h1 h2 h3 => by rw [hI_sI_k h3, hI_sI_k h2, hI_sI_k h1]
  simp only [oZ]
  rw [k188_19]
  simp only [oZ]
  rw [m210_9 F5, m210_14 F6, m210_19 F7]
  refine hQ _ (agr_trans a4 (agr_trans t.1 (agr_trans (agr_sI (by decide)) (agr_trans (agr_sI (by decide)) (agr_sI (by decide)))))) ?_ ?_ ?_ ⟨?_, ?_, ?_, ?_, ?_, by omega, by omega⟩ ?_ ?_
  · intro k q
    have z := tf_all q
    rw [ek k z.2.2.2.2.2.2.1 z.2.2.2.2.2.2.2.1 z.2.2.2.2.2.2.2.2, te k z.1 z.2.1 z.2.2.1]
    exact f4 k q
  · intro k q
    exact (t.2.2 k q).trans (l4 k)
  · exact TR_of (TR_tk T4 t) (ek 13 (by decide) (by decide) (by decide)) (by funext j; rw [hI_sI_a (by decide), hI_sI_a (by decide), hI_sI_a (by decide)])
  · exact NTk_fr K (ek _ (by decide) (by decide) (by decide)) (ek _ (by decide) (by decide) (by decide)) (ek _ (by decide) (by decide) (by decide)) rfl
  · rw [ek _ (by decide) (by decide) (by decide), te _ (by decide) (by decide) (by decide)]; exact r9
  · rw [hI_sI_s]; rfl
  · rw [hI_sI_k (by decide), hI_sI_s]; rfl
  · rw [ek _ (by decide) (by decide) (by decide), te _ (by decide) (by decide) (by decide)]; exact r0
  · rw [hI_sI_k (by decide), hI_sI_k (by decide), hI_sI_s]; rfl
  · rw [ek _ (by decide) (by decide) (by decide), te _ (by decide) (by decide) (by decide)]; exact r8
theorem FE_pre {a : Nat} {M0 M1 M' : hp} (h1 : agr [126] M0 M1) (h2 : ∀ k, tf k = false → hI M1 126 k = hI M0 126 k) (h3 : ∀ k, ¬ k = 17 → hL M1 126 k = hL M0 126 k) (h : FE a M1 M') : FE a M0 M' := ⟨agr_trans (agr_mono h1 (by intro x q; simp at q ⊢; omega)) h.1, fun k q => (h.2.1 k q).trans (h2 k q), fun k q => (h.2.2.1 k q).trans (h3 k q), h.2.2.2⟩
theorem MRes_pre {γ : Type} {a : Nat} {Cr : hp → Nat → Nat → γ → Prop} {M0 M1 : hp} {E : hp → Prop} {r : Sum Nat (Nat × (Nat → γ))} (h1 : agr [126] M0 M1) (h2 : ∀ k, tf k = false → hI M1 126 k = hI M0 126 k) (h3 : ∀ k, ¬ k = 17 → hL M1 126 k = hL M0 126 k) (h : MRes a Cr M0 E r) : MRes a Cr M1 E r := by
  cases r with
  | inl q => exact fun M' g => h M' (FE_pre h1 h2 h3 g)
  | inr x =>
    obtain ⟨n, cf⟩ := x
    exact fun M' len g => h M' len (FE_pre h1 h2 h3 g)
theorem LRs_Q {γ : Type} {a : Nat} {Cr : hp → Nat → Nat → γ → Prop} {M0 : hp} {b : Nat → Nat} {L i c : Nat} {o : Bool} {Q Q2 : Option Value → hp → Prop} {r : Sum Nat (Nat × Nat × γ)} (hq : ∀ M', Q none M' → Q2 none M') (h : LRs a Cr M0 b L o i c Q r) : LRs a Cr M0 b L o i c Q2 r := by
  cases r with
  | inl q => exact fun M' g => hq _ (h M' g)
  | inr x =>
    obtain ⟨s1, n1, x⟩ := x
    exact fun M' c1 g1 g2 g3 g4 g5 => hq _ (h M' c1 g1 g2 g3 g4 g5)
theorem mClsR_eq {M M' : hp} {c j : Nat} {x : Cls} (h : mClsR M c j x) (e6 : hI M' 136 = hI M 136) (e7 : hI M' 137 = hI M 137) (e8 : hI M' 138 = hI M 138) : mClsR M' c j x := by
  unfold mClsR Rg at *
  rw [e6, e7, e8]
  exact h
theorem mOrdR_eq {M M' : hp} {c j : Nat} {x : Ocl} (h : mOrdR M c j x) (e6 : hI M' 152 = hI M 152) (e7 : hI M' 137 = hI M 137) (e8 : hI M' 138 = hI M 138) : mOrdR M' c j x := by
  unfold mOrdR mSegO Rg at *
  rw [e6, e7, e8]
  exact h
