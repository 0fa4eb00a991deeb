variable {d : Nat} {M : hp} {Q : Option Value → hp → Prop}
theorem hE_trans {p h : Nat} {M M1 M2 : hp} (h1 : agr (hE p h) M M1) (h2 : agr (hE p h) M1 M2) : agr (hE p h) M M2 := agr_trans h1 h2
theorem hours_n {p h n N t : Nat} {L : Law} {z : Int32} {M0 : hp} (HN : NightS M0 p) (H : HallS M0 h) (NN : HallN M0 h n) (HP : PegS (hI M0 (h + 3)) n) (HL : LawIn M0 h L) (ha : p + 5 < h ∨ h + 5 < p) (hB : p + 5 < kB) (hh : h + 5 < kB) (hz : ¬ z = 0 → alike L) (hN : N ≤ 60) (fin : (Nat → Int32) × Int32) (hfin : fin.2 = hI M0 h 5 + nI N)
    (hQ : ∀ M', agr (hE p h) M0 M' → (∀ k, hI M' (h + 4) k = fin.1 k) → (∀ k, hI M' h k = if k = 5 then fin.2 else hI M0 h k) → Q none M') :
    ∀ (k i : Nat) (s : (Nat → Int32) × Int32) (M : hp), i + k = N + 1 → agr (hE p h) M0 M → (∀ k, hI M (h + 4) k = s.1 k) → (∀ k, hI M h k = if k = 5 then s.2 else hI M0 h k) → KnoS s.1 n → s.2 + nI k = fin.2 → itG L (hI M0 (h + 1)) (hI M0 (h + 2)) (hI M0 (h + 3)) n (hI M0 h 7) k s = fin → Wp none d 42 26 [(0, .ref p), (1, .ref h), (2, .int (nI N)), (3, .null), (4, .int z), (5, .int (nI i))] [] M Q := by
  have h64 := H.1
  have p64 := HN.1
  intro k
  induction k with
  | zero =>
    intro i s M e a1 hW hh1 hK hs hf
    rw [k42_26n, k42_29n, if_pos (by rw [n_lt (by omega) (by omega)]; omega), k42_65n]
    have e2 : s = fin := hf
    rw [e2] at hW hh1
    exact hQ M a1 hW hh1
  | succ k ih =>
    intro i s M e a1 hW hh1 hK hs hf
    have eW : hI M (h + 4) = s.1 := funext hW
    have e5 : hI M h 5 = s.2 := by rw [hh1]; rfl
    have e7 : hI M h 7 = hI M0 h 7 := by rw [hh1]; rfl
    have e8 : hI M h 8 = hI M0 h 8 := by rw [hh1]; rfl
    have e10 : hI M h 10 = hI M0 h 10 := by rw [hh1]; rfl
    have q1 : hI M (h + 1) = hI M0 (h + 1) := agr_I a1 (hE_not (by omega) (by omega) (by omega))
    have q2 : hI M (h + 2) = hI M0 (h + 2) := agr_I a1 (hE_not (by omega) (by omega) (by omega))
    have q3 : hI M (h + 3) = hI M0 (h + 3) := agr_I a1 (hE_not (by omega) (by omega) (by omega))
    have HL1 : LawIn M h L := by
      unfold LawIn at *
      rw [agr_R a1, e10]
      rcases HL with y | ⟨i, h1, h2, h3, h4, h5⟩
      · exact Or.inl y
      · exact Or.inr ⟨i, h1, h2, h3, LawV_agr a1 (hE_low hB hh) h4, h5⟩
    rw [k42_26n, k42_29n, if_neg (by rw [n_lt (by omega) (by omega)]; omega), k42_32n, k42_34n (by rw [agr_K a1]; exact HN.2.1)]
    refine Night_oneHour (L := L) (n := n) (NightS_agr a1 HN) (HallS_agr a1 H) (by unfold HallN; rw [e8]; exact NN) (by rw [q3]; exact HP) (by rw [eW]; exact hK) HL1 ha hB (by omega) ?_
    intro M2 a2 w1 w2
    rw [hourT_G, q1, q2, q3, e7, eW, e5] at *
    have a3 := hE_trans a1 a2
    have w1' : ∀ k, hI M2 (h + 4) k = (stepG L (hI M0 (h + 1)) (hI M0 (h + 2)) (hI M0 (h + 3)) n (hI M0 h 7) s).1 k := w1
    have w2' : ∀ k, hI M2 h k = if k = 5 then s.2 + 1 else hI M0 h k := by
      intro k
      rw [w2]
      by_cases c : k = 5
      · rw [if_pos c, if_pos c]
      · rw [if_neg c, if_neg c, hh1, if_neg c]
    have hs2 : s.2 + 1 + nI k = fin.2 := by
      rw [← hs, nI_succ, Int32.add_comm (nI k) 1, Int32.add_assoc]
    have go : Wp none d 42 59 [(0, .ref p), (1, .ref h), (2, .int (nI N)), (3, .null), (4, .int z), (5, .int (nI i))] [] M2 Q := by
      rw [k42_59n, nI_1]
      exact ih (i + 1) _ M2 (by omega) a3 w1' w2' (stepG_sm hK) hs2 hf
    simp only [oN]
    rw [k42_37n]
    by_cases c : lrnF (hourG L (hI M0 (h + 1)) (hI M0 (h + 2)) (hI M0 (h + 3)) n (hI M0 h 7) s) n = 0
    · rw [if_neg (fun q => q c), k42_40n, k42_42n]
      by_cases cz : z = 0
      · rw [if_pos cz]
        exact go
      · rw [if_neg cz, k42_45n (by rw [agr_K a3]; exact H.2.1)]
        have T0 := lrn_0 (hourG_sm L _ _ _ n _ s) NN.2 c
        have e3 := itG_still (hz cz) (hI M0 (h + 1)) (hI M0 (h + 2)) (hI M0 (h + 3)) (n := n) (hI M0 h 7) (k + 1) s T0
        rw [e3] at hf
        have e4 : hI M2 h 5 + (nI N - nI i) = fin.2 := by
          rw [w2' 5, if_pos rfl, n_sub (by omega), show N - i = k by omega]
          exact hs2
        rw [e4]
        refine hQ _ (agr_trans a3 (agr_sI (by unfold hE; simp))) ?_ ?_
        · intro j
          rw [hI_sI_a (by omega), w1 j, ← hf]
          by_cases y : j < n
          · rw [if_pos y, T0 j y, Int32.or_zero]
          · rw [if_neg y]
        · intro j
          rw [hI_sI]
          by_cases y : j = 5
          · rw [if_pos ⟨rfl, y⟩, if_pos y]
          · rw [if_neg (fun q => y q.2), if_neg y, w2' j, if_neg y]
    · rw [if_pos c]
      exact go
theorem hours_r {p h n N t : Nat} {L : Law} {z : Int32} {M0 : hp} (HN : NightS M0 p) (H : HallS M0 h) (NN : HallN M0 h n) (HP : PegS (hI M0 (h + 3)) n) (HL : LawIn M0 h L) (ha : p + 5 < h ∨ h + 5 < p) (hB : p + 5 < kB) (hh : h + 5 < kB) (hz : ¬ z = 0 → alike L) (hN : N ≤ 60) (fin : (Nat → Int32) × Int32) (hfin : fin.2 = hI M0 h 5 + nI N)
    (hQ : ∀ M', agr (hE p h) M0 M' → (∀ k, hI M' (h + 4) k = fin.1 k) → (∀ k, hI M' h k = if k = 5 then fin.2 else hI M0 h k) → Q none M') :
    ∀ (k i : Nat) (s : (Nat → Int32) × Int32) (M : hp), i + k = N + 1 → agr (hE p h) M0 M → (∀ k, hI M (h + 4) k = s.1 k) → (∀ k, hI M h k = if k = 5 then s.2 else hI M0 h k) → KnoS s.1 n → s.2 + nI k = fin.2 → itG L (hI M0 (h + 1)) (hI M0 (h + 2)) (hI M0 (h + 3)) n (hI M0 h 7) k s = fin → Wp none d 42 26 [(0, .ref p), (1, .ref h), (2, .int (nI N)), (3, (.ref t)), (4, .int z), (5, .int (nI i))] [] M Q := by
  have h64 := H.1
  have p64 := HN.1
  intro k
  induction k with
  | zero =>
    intro i s M e a1 hW hh1 hK hs hf
    rw [k42_26r, k42_29r, if_pos (by rw [n_lt (by omega) (by omega)]; omega), k42_65r]
    have e2 : s = fin := hf
    rw [e2] at hW hh1
    exact hQ M a1 hW hh1
  | succ k ih =>
    intro i s M e a1 hW hh1 hK hs hf
    have eW : hI M (h + 4) = s.1 := funext hW
    have e5 : hI M h 5 = s.2 := by rw [hh1]; rfl
    have e7 : hI M h 7 = hI M0 h 7 := by rw [hh1]; rfl
    have e8 : hI M h 8 = hI M0 h 8 := by rw [hh1]; rfl
    have e10 : hI M h 10 = hI M0 h 10 := by rw [hh1]; rfl
    have q1 : hI M (h + 1) = hI M0 (h + 1) := agr_I a1 (hE_not (by omega) (by omega) (by omega))
    have q2 : hI M (h + 2) = hI M0 (h + 2) := agr_I a1 (hE_not (by omega) (by omega) (by omega))
    have q3 : hI M (h + 3) = hI M0 (h + 3) := agr_I a1 (hE_not (by omega) (by omega) (by omega))
    have HL1 : LawIn M h L := by
      unfold LawIn at *
      rw [agr_R a1, e10]
      rcases HL with y | ⟨i, h1, h2, h3, h4, h5⟩
      · exact Or.inl y
      · exact Or.inr ⟨i, h1, h2, h3, LawV_agr a1 (hE_low hB hh) h4, h5⟩
    rw [k42_26r, k42_29r, if_neg (by rw [n_lt (by omega) (by omega)]; omega), k42_32r, k42_34r (by rw [agr_K a1]; exact HN.2.1)]
    refine Night_oneHour (L := L) (n := n) (NightS_agr a1 HN) (HallS_agr a1 H) (by unfold HallN; rw [e8]; exact NN) (by rw [q3]; exact HP) (by rw [eW]; exact hK) HL1 ha hB (by omega) ?_
    intro M2 a2 w1 w2
    rw [hourT_G, q1, q2, q3, e7, eW, e5] at *
    have a3 := hE_trans a1 a2
    have w1' : ∀ k, hI M2 (h + 4) k = (stepG L (hI M0 (h + 1)) (hI M0 (h + 2)) (hI M0 (h + 3)) n (hI M0 h 7) s).1 k := w1
    have w2' : ∀ k, hI M2 h k = if k = 5 then s.2 + 1 else hI M0 h k := by
      intro k
      rw [w2]
      by_cases c : k = 5
      · rw [if_pos c, if_pos c]
      · rw [if_neg c, if_neg c, hh1, if_neg c]
    have hs2 : s.2 + 1 + nI k = fin.2 := by
      rw [← hs, nI_succ, Int32.add_comm (nI k) 1, Int32.add_assoc]
    have go : Wp none d 42 59 [(0, .ref p), (1, .ref h), (2, .int (nI N)), (3, (.ref t)), (4, .int z), (5, .int (nI i))] [] M2 Q := by
      rw [k42_59r, nI_1]
      exact ih (i + 1) _ M2 (by omega) a3 w1' w2' (stepG_sm hK) hs2 hf
    simp only [oN]
    rw [k42_37r]
    by_cases c : lrnF (hourG L (hI M0 (h + 1)) (hI M0 (h + 2)) (hI M0 (h + 3)) n (hI M0 h 7) s) n = 0
    · rw [if_neg (fun q => q c), k42_40r, k42_42r]
      by_cases cz : z = 0
      · rw [if_pos cz]
        exact go
      · rw [if_neg cz, k42_45r (by rw [agr_K a3]; exact H.2.1)]
        have T0 := lrn_0 (hourG_sm L _ _ _ n _ s) NN.2 c
        have e3 := itG_still (hz cz) (hI M0 (h + 1)) (hI M0 (h + 2)) (hI M0 (h + 3)) (n := n) (hI M0 h 7) (k + 1) s T0
        rw [e3] at hf
        have e4 : hI M2 h 5 + (nI N - nI i) = fin.2 := by
          rw [w2' 5, if_pos rfl, n_sub (by omega), show N - i = k by omega]
          exact hs2
        rw [e4]
        refine hQ _ (agr_trans a3 (agr_sI (by unfold hE; simp))) ?_ ?_
        · intro j
          rw [hI_sI_a (by omega), w1 j, ← hf]
          by_cases y : j < n
          · rw [if_pos y, T0 j y, Int32.or_zero]
          · rw [if_neg y]
        · intro j
          rw [hI_sI]
          by_cases y : j = 5
          · rw [if_pos ⟨rfl, y⟩, if_pos y]
          · rw [if_neg (fun q => y q.2), if_neg y, w2' j, if_neg y]
    · rw [if_pos c]
      exact go
theorem itG_hr (L : Law) (D T P : Nat → Int32) (n : Nat) (rn : Int32) : ∀ (k : Nat) (s : (Nat → Int32) × Int32), (itG L D T P n rn k s).2 = s.2 + nI k
  | 0, s => by
    show s.2 = s.2 + nI 0
    rw [show nI 0 = (0 : Int32) from rfl, Int32.add_zero]
  | k + 1, s => by
    show (itG L D T P n rn k (stepG L D T P n rn s)).2 = _
    rw [itG_hr L D T P n rn k, nI_succ, Int32.add_comm (nI k) 1, ← Int32.add_assoc]
    rfl
/-- the thoughts behind so many hours -/
def hoursF (L : Law) (M : hp) (h n N : Nat) : Nat → Int32 := (itG L (hI M (h + 1)) (hI M (h + 2)) (hI M (h + 3)) n (hI M h 7) N (hI M (h + 4), hI M h 5)).1
theorem Night_runHours {p h n N : Nat} {L : Law} (HN : NightS M p) (H : HallS M h) (NN : HallN M h n) (HP : PegS (hI M (h + 3)) n) (HK : KnoS (hI M (h + 4)) n) (HL : LawIn M h L) (ha : p + 5 < h ∨ h + 5 < p) (hB : p + 5 < kB) (hh : h + 5 < kB) (hN : N ≤ 60)
    (hQ : ∀ M', agr (hE p h) M M' → (∀ k, hI M' (h + 4) k = hoursF L M h n N k) → (∀ k, hI M' h k = if k = 5 then hI M h 5 + nI N else hI M h k) → Q none M') : Wp none d 42 0 [(0, .ref p), (1, .ref h), (2, .int (nI N))] [] M Q := by
  have hr := itG_hr L (hI M (h + 1)) (hI M (h + 2)) (hI M (h + 3)) n (hI M h 7) N (hI M (h + 4), hI M h 5)
  have hQ2 : ∀ M', agr (hE p h) M M' → (∀ k, hI M' (h + 4) k = (itG L (hI M (h + 1)) (hI M (h + 2)) (hI M (h + 3)) n (hI M h 7) N (hI M (h + 4), hI M h 5)).1 k) → (∀ k, hI M' h k = if k = 5 then (itG L (hI M (h + 1)) (hI M (h + 2)) (hI M (h + 3)) n (hI M h 7) N (hI M (h + 4), hI M h 5)).2 else hI M h k) → Q none M' := by
    intro M' a1 a2 a3
    rw [hr] at a3
    exact hQ M' a1 a2 a3
  have st : ∀ k, hI M h k = if k = 5 then (hI M (h + 4), hI M h 5).2 else hI M h k := by
    intro k
    by_cases c : k = 5
    · rw [if_pos c, c]
    · rw [if_neg c]
  obtain ⟨v, hv, hrv, hw⟩ := lawIn_ok H HL
  rw [k42_0, k42_1 H.2.1, hw]
  simp only [oN]
  rcases LawV_cases hv with e | ⟨t, e⟩
  · subst e
    have hL : L = none := by
      cases L with
      | none => rfl
      | some x => obtain ⟨n, cf⟩ := x; obtain ⟨_, _, _, _, _, _, e, _⟩ := hv; cases e
    rw [k42_4n, k42_6n, k42_16n, k42_21n]
    exact hours_n (t := 0) HN H NN HP HL ha hB hh (fun _ => by rw [hL]; intro kind j D T W oth ko th hr hr' rn; rfl) hN _ hr hQ2 N 1 _ M (by omega) (agr_refl _ _) (fun _ => rfl) st HK hr.symm rfl
  · subst e
    cases L with
    | none => cases (show (Value.ref t) = Value.null from hv)
    | some x =>
      obtain ⟨n2, cf⟩ := x
      obtain ⟨t2, tc, tr, lc, lr, len, e, b1, b2, b3, HT⟩ := hv
      cases e
      obtain ⟨z, z1, z2, z3⟩ := asks_ok HT
      rw [k42_4r, k42_6r, k42_9, k42_10 HT.1.1, z3]
      simp only [oN]
      rw [k42_13]
      by_cases c : z = 0
      · rw [if_neg (fun q => q c), k42_16r, k42_21r]
        exact hours_r HN H NN HP HL ha hB hh (fun _ => z2 c) hN _ hr hQ2 N 1 _ M (by omega) (agr_refl _ _) (fun _ => rfl) st HK hr.symm rfl
      · rw [if_pos c, k42_20, k42_21r]
        exact hours_r HN H NN HP HL ha hB hh (fun q => absurd rfl q) hN _ hr hQ2 N 1 _ M (by omega) (agr_refl _ _) (fun _ => rfl) st HK hr.symm rfl
