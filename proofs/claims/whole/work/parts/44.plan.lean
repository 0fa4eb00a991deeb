variable {d : Nat} {M : hp} {Q : Option Value → hp → Prop}
theorem itG_sm {L : Law} {D T P : Nat → Int32} {n : Nat} {rn : Int32} : ∀ (k : Nat) (s : (Nat → Int32) × Int32), KnoS s.1 n → KnoS (itG L D T P n rn k s).1 n
  | 0, _, h => h
  | k + 1, s, h => itG_sm k _ (stepG_sm h)
theorem itG_z {L : Law} {D T P : Nat → Int32} {n : Nat} {rn : Int32} : ∀ (k : Nat) (s : (Nat → Int32) × Int32) (j : Nat), n ≤ j → (itG L D T P n rn k s).1 j = s.1 j
  | 0, _, _, _ => rfl
  | k + 1, s, j, h => by
    show (itG L D T P n rn k (stepG L D T P n rn s)).1 j = _
    rw [itG_z k _ j h]
    show (if j < n then _ else s.1 j) = s.1 j
    rw [if_neg (by omega)]
/-- a hall whose pegs and thoughts changed -/
theorem HallO_mid {M0 M2 : hp} {t n : Nat} {L : Law} {E : List Nat} (H : HallO M0 t n L) (a : agr E M0 M2) (lE : low E) (e1 : E.contains (t + 1) = false) (e2 : E.contains (t + 2) = false) (hf : ∀ k, ¬ k = 5 → hI M2 t k = hI M0 t k) (HP : PegS (hI M2 (t + 3)) n) (HK : KnoS (hI M2 (t + 4)) n) (Z3 : ∀ k, 7 ≤ k → hI M2 (t + 3) k = 0) (Z4 : ∀ k, 7 ≤ k → hI M2 (t + 4) k = 0) : HallO M2 t n L := by
  obtain ⟨H1, H2, H3, H4, H5, H6, H7, H8⟩ := H
  refine ⟨HallS_agr a H1, ?_, HP, HK, ?_, ?_, ?_, H8⟩
  · unfold HallN at *
    rw [hf 8 (by omega)]; exact H2
  · unfold LawIn at *
    rw [agr_R a, hf 10 (by omega)]
    rcases H5 with y | ⟨i, q1, q2, q3, q4, q5⟩
    · exact Or.inl y
    · exact Or.inr ⟨i, q1, q2, q3, LawV_agr a lE q4, q5⟩
  · intro r r1 r4 k hk
    have : r = 1 ∨ r = 2 ∨ r = 3 ∨ r = 4 := by omega
    rcases this with e | e | e | e
    · subst e; rw [agr_I a e1]; exact H6 1 r1 r4 k hk
    · subst e; rw [agr_I a e2]; exact H6 2 r1 r4 k hk
    · subst e; exact Z3 k hk
    · subst e; exact Z4 k hk
  · unfold HallL at *
    rw [agr_R a, agr_K a]; exact H7
theorem hE_12 {p t : Nat} (ha : p + 5 < t ∨ t + 5 < p) : (hE p t).contains (t + 1) = false ∧ (hE p t).contains (t + 2) = false ∧ (hE p t).contains (t + 3) = false := ⟨hE_not (by omega) (by omega) (by omega), hE_not (by omega) (by omega) (by omega), hE_not (by omega) (by omega) (by omega)⟩
theorem hours_ok {p t n N : Nat} {L : Law} (HN : NightS M p) (H : HallO M t n L) (ha : p + 5 < t ∨ t + 5 < p) (hB : p + 5 < kB) (hN : N ≤ 60)
    (hQ : ∀ M', agr (hE p t) M M' → hI M' (t + 4) = hoursF L M t n N → (∀ k, hI M' t k = if k = 5 then hI M t 5 + nI N else hI M t k) → HallO M' t n L → Q none M') : Wp none d 42 0 [(0, .ref p), (1, .ref t), (2, .int (nI N))] [] M Q := by
  have n7 : n ≤ 7 := H.2.1.2
  refine Night_runHours HN H.1 H.2.1 H.2.2.1 H.2.2.2.1 H.2.2.2.2.1 ha hB H.2.2.2.2.2.2.2 hN ?_
  intro M' a1 w1 w2
  refine hQ M' a1 (funext w1) w2 ?_
  have e := hE_12 ha
  refine HallO_mid H a1 (hE_low hB H.2.2.2.2.2.2.2) e.1 e.2.1 ?_ ?_ ?_ ?_ ?_
  · intro k hk
    rw [w2, if_neg hk]
  · rw [agr_I a1 e.2.2]; exact H.2.2.1
  · rw [funext w1]
    exact itG_sm _ _ H.2.2.2.1
  · intro k hk
    rw [agr_I a1 e.2.2]
    exact H.2.2.2.2.2.1 3 (by omega) (by omega) k hk
  · intro k hk
    rw [w1 k]
    unfold hoursF
    rw [itG_z _ _ k (by omega)]
    exact H.2.2.2.2.2.1 4 (by omega) (by omega) k hk
theorem hour_ok {p t n : Nat} {L : Law} (HN : NightS M p) (H : HallO M t n L) (ha : p + 5 < t ∨ t + 5 < p) (hB : p + 5 < kB)
    (hQ : ∀ M', agr (hE p t) M M' → hI M' (t + 4) = hoursF L M t n 1 → (∀ k, hI M' t k = if k = 5 then hI M t 5 + 1 else hI M t k) → HallO M' t n L → Q (some (.int (lrnF (hourT L M t n) n))) M') : Wp none d 40 0 [(0, .ref p), (1, .ref t)] [] M Q := by
  have n7 : n ≤ 7 := H.2.1.2
  have ht := H.2.2.2.2.2.2.2
  refine Night_oneHour HN H.1 H.2.1 H.2.2.1 H.2.2.2.1 H.2.2.2.2.1 ha hB (by omega) ?_
  intro M' a1 w1 w2
  have w1' : hI M' (t + 4) = hoursF L M t n 1 := funext w1
  refine hQ M' a1 w1' w2 ?_
  have e := hE_12 ha
  refine HallO_mid H a1 (hE_low hB ht) e.1 e.2.1 ?_ ?_ ?_ ?_ ?_
  · intro k hk
    rw [w2, if_neg hk]
  · rw [agr_I a1 e.2.2]; exact H.2.2.1
  · rw [w1']
    exact itG_sm _ _ H.2.2.2.1
  · intro k hk
    rw [agr_I a1 e.2.2]
    exact H.2.2.2.2.2.1 3 (by omega) (by omega) k hk
  · intro k hk
    rw [w1']
    unfold hoursF
    rw [itG_z _ _ k (by omega)]
    exact H.2.2.2.2.2.1 4 (by omega) (by omega) k hk
/-- the paper beside the hall: at M1 only what moves on it, and what is scratch, may differ from M0 -/
def pE (p t _pl : Nat) : List Nat := [t, t + 3, t + 4] ++ nF p
theorem pE_not {p t pl a : Nat} (h1 : ¬ a = t) (h2 : ¬ a = t + 3) (h3 : ¬ a = t + 4) (h4 : a < pl ∨ pl + 1 < a) (h5 : a ≤ p ∨ p + 6 ≤ a) : (pE p t pl).contains a = false := by
  unfold pE nF
  simp
  omega
theorem pE_low {p t pl : Nat} (h1 : p + 5 < kB) (h2 : t + 5 < kB) (h3 : pl + 1 < kB) : low (pE p t pl) := by
  intro a q
  unfold pE nF at q
  simp at q
  omega
def Bas (M0 : hp) (h t p pl n : Nat) (L : Law) : Prop := HallO M0 h n L ∧ HallO M0 t n L ∧ like M0 t M0 h ∧ NightS M0 p ∧ apart h t ∧ (p + 5 < t ∨ t + 5 < p) ∧ (p + 5 < h ∨ h + 5 < p) ∧ p + 5 < kB ∧ pl + 1 < kB ∧ (pl + 1 < t ∨ t + 5 < pl) ∧ (pl + 1 < h ∨ h + 5 < pl) ∧ (pl + 1 < p ∨ p + 5 < pl)
def Mid (M0 M1 : hp) (t p pl : Nat) : Prop := agr (pE p t pl) M0 M1 ∧ (∀ k, ¬ k = 5 → hI M1 t k = hI M0 t k) ∧ (∀ k, 7 ≤ k → hI M1 (t + 3) k = 0) ∧ ∀ k, 7 ≤ k → hI M1 (t + 4) k = 0
theorem Mid_0 {M0 : hp} {h t p pl n : Nat} {L : Law} (B : Bas M0 h t p pl n L) : Mid M0 M0 t p pl := ⟨agr_refl _ _, fun _ _ => rfl, fun k hk => B.2.1.2.2.2.2.2.1 3 (by omega) (by omega) k hk, fun k hk => B.2.1.2.2.2.2.2.1 4 (by omega) (by omega) k hk⟩
/-- the hall as it was, on paper: its pegs P, its thoughts W -/
def Pap (M0 M1 : hp) (h t p pl : Nat) (P W : Nat → Int32) (hr : Int32) : Prop := Mid M0 M1 t p pl ∧ hI M1 (t + 3) = P ∧ hI M1 (t + 4) = W ∧ hI M1 t 5 = hr
theorem Pap_hall {M0 M1 : hp} {h t p pl n : Nat} {L : Law} {P W : Nat → Int32} {hr : Int32} (B : Bas M0 h t p pl n L) (X : Pap M0 M1 h t p pl P W hr) (HP : PegS P n) (HK : KnoS W n) : HallO M1 t n L := by
  obtain ⟨B1, B2, B3, B4, B5, B6, B7, B8, B9, B10, B11, B12⟩ := B
  obtain ⟨⟨X1, X2, X3, X4⟩, X5, X6, X7⟩ := X
  exact HallO_mid B2 X1 (pE_low B8 B2.2.2.2.2.2.2.2 B9) (pE_not (by omega) (by omega) (by omega) (by omega) (by omega)) (pE_not (by omega) (by omega) (by omega) (by omega) (by omega)) X2 (by rw [X5]; exact HP) (by rw [X6]; exact HK) X3 X4
theorem mid_hall {M0 M1 : hp} {h t p pl n : Nat} {L : Law} (B : Bas M0 h t p pl n L) (X : Mid M0 M1 t p pl) : HallO M1 h n L ∧ (∀ r, r ≤ 4 → hI M1 (h + r) = hI M0 (h + r)) ∧ NightS M1 p ∧ HallS M1 t := by
  obtain ⟨B1, B2, B3, B4, B5, B6, B7, B8, B9, B10, B11, B12⟩ := B
  unfold apart at B5
  have nn : ∀ r, r ≤ 5 → (pE p t pl).contains (h + r) = false := fun r hr => pE_not (by omega) (by omega) (by omega) (by omega) (by omega)
  refine ⟨HallO_agq (agq_of (B := []) X.1) (pE_low B8 B2.2.2.2.2.2.2.2 B9) (fun a q => by simp at q) (nn 0 (by omega)) (nn 3 (by omega)) (nn 1 (by omega)) (nn 2 (by omega)) (nn 4 (by omega)) rfl rfl B1, fun r hr => agr_I X.1 (nn r (by omega)), NightS_agr X.1 B4, HallS_agr X.1 B2.1⟩
theorem mv_ok {M0 M1 : hp} {h t p pl n : Nat} {L : Law} (B : Bas M0 h t p pl n L) (X : Mid M0 M1 t p pl) (hQ : ∀ M2, Pap M0 M2 h t p pl (hI M0 (h + 3)) (hI M0 (h + 4)) (hI M0 h 5) → Q none M2) : Wp none d 2 0 [(0, .ref t), (1, .ref h)] [] M1 Q := by
  obtain ⟨C1, C2, C3, C4⟩ := mid_hall B X
  obtain ⟨B1, B2, B3, B4, B5, B6, B7, B8, B9, B10, B11, B12⟩ := B
  rw [Hall_copyMoving C4 C1.1 B5]
  have Z := B1.2.2.2.2.2.1
  refine hQ _ ⟨⟨?_, ?_, ?_, ?_⟩, ?_, ?_, ?_⟩
  · refine agr_trans X.1 ?_
    unfold cpMv
    exact agr_trans (agr_trans (agr_sIs (by unfold pE; simp)) (agr_sIs (by unfold pE; simp))) (agr_sI (by unfold pE; simp))
  · intro k hk
    rw [hI_cpMv_0, if_neg hk]
    exact X.2.1 k hk
  · intro k hk
    rw [hI_cpMv_P, if_neg (by omega)]
    exact X.2.2.1 k hk
  · intro k hk
    rw [hI_cpMv_W, if_neg (by omega)]
    exact X.2.2.2 k hk
  · funext k
    rw [hI_cpMv_P, C2 3 (by omega)]
    by_cases c : k < 7
    · rw [if_pos c]
    · rw [if_neg c, X.2.2.1 k (by omega), Z 3 (by omega) (by omega) k (by omega)]
  · funext k
    rw [hI_cpMv_W, C2 4 (by omega)]
    by_cases c : k < 7
    · rw [if_pos c]
    · rw [if_neg c, X.2.2.2 k (by omega), Z 4 (by omega) (by omega) k (by omega)]
  · rw [hI_cpMv_0, if_pos rfl]
    have := C2 0 (by omega)
    rw [Nat.add_zero] at this
    rw [this]
theorem pap_put {M0 M1 : hp} {h t p pl : Nat} {P W : Nat → Int32} {hr v : Int32} {j : Nat} (X : Pap M0 M1 h t p pl P W hr) (hj : j < 7) : Pap M0 (sI M1 (t + 3) j v) h t p pl (updI P j v) W hr := by
  obtain ⟨⟨X1, X2, X3, X4⟩, X5, X6, X7⟩ := X
  refine ⟨⟨agr_trans X1 (agr_sI (by unfold pE; simp)), ?_, ?_, ?_⟩, ?_, ?_, ?_⟩
  · intro k hk
    rw [hI_sI_a (by omega)]; exact X2 k hk
  · intro k hk
    rw [hI_sI_k (by omega)]; exact X3 k hk
  · intro k hk
    rw [hI_sI_a (by omega)]; exact X4 k hk
  · funext k
    rw [hI_sI]
    unfold updI
    by_cases c : k = j
    · rw [if_pos ⟨rfl, c⟩, if_pos c]
    · rw [if_neg (fun q => c q.2), if_neg c, X5]
  · funext k
    rw [hI_sI_a (by omega), X6]
  · rw [hI_sI_a (by omega), X7]
/-- the thoughts of the hall's hats with pegs P, behind N hours -/
def papW (L : Law) (M0 : hp) (h n : Nat) (P : Nat → Int32) (N : Nat) : Nat → Int32 := (itG L (hI M0 (h + 1)) (hI M0 (h + 2)) P n (hI M0 h 7) N (hI M0 (h + 4), hI M0 h 5)).1
theorem papW_sm {L : Law} {M0 : hp} {h n : Nat} {P : Nat → Int32} {N : Nat} (HK : KnoS (hI M0 (h + 4)) n) : KnoS (papW L M0 h n P N) n := itG_sm _ _ HK
theorem pap_hours {M0 M1 : hp} {h t p pl n N : Nat} {L : Law} {P : Nat → Int32} (B : Bas M0 h t p pl n L) (X : Pap M0 M1 h t p pl P (hI M0 (h + 4)) (hI M0 h 5)) (HP : PegS P n) (hN : N ≤ 60) (hQ : ∀ M2, Pap M0 M2 h t p pl P (papW L M0 h n P N) (hI M0 h 5 + nI N) → Q none M2) : Wp none d 42 0 [(0, .ref p), (1, .ref t), (2, .int (nI N))] [] M1 Q := by
  have HO := Pap_hall B X HP B.1.2.2.2.1
  have CC := mid_hall B X.1
  obtain ⟨B1, B2, B3, B4, B5, B6, B7, B8, B9, B10, B11, B12⟩ := B
  obtain ⟨⟨X1, X2, X3, X4⟩, X5, X6, X7⟩ := X
  refine hours_ok CC.2.2.1 HO B6 B8 hN ?_
  intro M' a1 w1 w2 w3
  have e := hE_12 B6
  have e12 : hI M1 (t + 1) = hI M0 (h + 1) := by rw [agr_I X1 (pE_not (by omega) (by omega) (by omega) (by omega) (by omega)), B3.1 1 (by omega) (by omega)]
  have e13 : hI M1 (t + 2) = hI M0 (h + 2) := by rw [agr_I X1 (pE_not (by omega) (by omega) (by omega) (by omega) (by omega)), B3.1 2 (by omega) (by omega)]
  have e7 : hI M1 t 7 = hI M0 h 7 := by rw [X2 7 (by omega), B3.2.1 7 (by omega) (by omega)]
  have eh : hoursF L M1 t n N = papW L M0 h n P N := by
    unfold hoursF papW
    rw [e12, e13, X5, X6, X7, e7]
  have m : ∀ a, (hE p t).contains a = true → (pE p t pl).contains a = true := by
    intro a q
    unfold hE nF at q
    unfold pE nF
    simp at q ⊢
    omega
  refine hQ M' ⟨⟨agr_trans X1 (agr_mono a1 m), ?_, ?_, ?_⟩, ?_, ?_, ?_⟩
  · intro k hk
    rw [w2, if_neg hk]; exact X2 k hk
  · intro k hk
    rw [agr_I a1 e.2.2]; exact X3 k hk
  · exact fun k hk => w3.2.2.2.2.2.1 4 (by omega) (by omega) k hk
  · rw [agr_I a1 e.2.2]; exact X5
  · rw [w1]; exact eh
  · rw [w2, if_pos rfl, X7]
