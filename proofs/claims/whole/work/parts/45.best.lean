variable {d : Nat} {M : hp} {Q : Option Value → hp → Prop}
theorem hatF_none {n : Nat} {P : Nat → Int32} {p : Int32} (hp : ¬ p < 0) (h : hatF n P p = -1) (hn : n ≤ 7) : ∀ i, i < n → ¬ P i = p := by
  unfold hatF at h
  rw [if_neg hp] at h
  have key : ∀ k i, i + k = n → fst1 P p i k = -1 → ∀ j, i ≤ j → j < n → ¬ P j = p := by
    intro k
    induction k with
    | zero => intro i e _ j h1 h2; omega
    | succ k ih =>
      intro i e h j h1 h2
      have h' : (if P i = p then nI i else fst1 P p (i + 1) k) = -1 := h
      by_cases c : P i = p
      · rw [if_pos c] at h'
        rw [n_m1 (by omega)] at h'
        exact h'.elim
      · rw [if_neg c] at h'
        by_cases z : j = i
        · rw [z]; exact c
        · exact ih (i + 1) (by omega) h' j (by omega) h2
  exact fun i hi => key n 0 (by omega) h i (by omega) hi
theorem hatF_at {n : Nat} {P : Nat → Int32} {p : Int32} {j : Nat} (h : hatF n P p = nI j) (hn : n ≤ 7) (hj : j < 7) : j < n ∧ P j = p := by
  unfold hatF at h
  by_cases hp : p < 0
  · rw [if_pos hp, n_m1' (by omega)] at h
    exact h.elim
  · rw [if_neg hp] at h
    have key : ∀ k i, i + k = n → fst1 P p i k = nI j → j < n ∧ P j = p := by
      intro k
      induction k with
      | zero =>
        intro i e h
        have h' : (-1 : Int32) = nI j := h
        rw [n_m1' (by omega)] at h'
        exact h'.elim
      | succ k ih =>
        intro i e h
        have h' : (if P i = p then nI i else fst1 P p (i + 1) k) = nI j := h
        by_cases c : P i = p
        · rw [if_pos c, n_eq (by omega) (by omega)] at h'
          subst h'
          exact ⟨by omega, c⟩
        · rw [if_neg c] at h'
          exact ih (i + 1) (by omega) h'
    exact key n 0 (by omega) h
theorem pegS_put {P : Nat → Int32} {n j q : Nat} (h : PegS P n) (hq : q < 10) (hu : ∀ i, i < n → P i = nI q → i = j) : PegS (updI P j (nI q)) n := by
  refine ⟨?_, ?_⟩
  · intro i hi
    unfold updI
    by_cases c : i = j
    · rw [if_pos c]; exact Or.inr ⟨q, hq, rfl⟩
    · rw [if_neg c]; exact h.1 i hi
  · intro a b ha hb e hn
    unfold updI at e hn
    by_cases c : a = j
    · by_cases c2 : b = j
      · omega
      · rw [if_pos c, if_neg c2] at e
        exact absurd (hu b hb e.symm) c2
    · by_cases c2 : b = j
      · rw [if_neg c, if_pos c2] at e
        exact absurd (hu a ha e) c
      · rw [if_neg c, if_neg c2] at e
        rw [if_neg c] at hn
        exact h.2 a b ha hb e hn
theorem pegS_off {P : Nat → Int32} {n j : Nat} (h : PegS P n) : PegS (updI P j (-1)) n := by
  refine ⟨?_, ?_⟩
  · intro i hi
    unfold updI
    by_cases c : i = j
    · rw [if_pos c]; exact Or.inl rfl
    · rw [if_neg c]; exact h.1 i hi
  · intro a b ha hb e hn
    unfold updI at e hn
    by_cases c : a = j
    · rw [if_pos c] at hn; exact absurd rfl hn
    · by_cases c2 : b = j
      · rw [if_neg c, if_pos c2] at e
        rw [if_neg c] at hn
        exact absurd e hn
      · rw [if_neg c, if_neg c2] at e
        rw [if_neg c] at hn
        exact h.2 a b ha hb e hn
theorem hat_free {P : Nat → Int32} {n j q : Nat} (h : PegS P n) (hn : n ≤ 7) (hj : j < n) (hq : q < 10) (hx : hatF n P (nI q) = -1 ∨ hatF n P (nI q) = nI j) : PegS (updI P j (nI q)) n := by
  refine pegS_put h hq ?_
  intro i hi e
  rcases hx with z | z
  · exact absurd e (hatF_none (nI_pos (by omega)) z hn i hi)
  · have := hatF_at z hn (by omega)
    exact h.2 i j hi hj (by rw [e, this.2]) (by rw [e, n_m1 (by omega)]; exact id)
/-- the planner -/
def PlanS (M : hp) (pl p t : Nat) : Prop := 64 ≤ pl ∧ (hK M pl).1 = 4 ∧ hR M pl 0 = p ∧ hR M pl 1 = t ∧ hR M pl 2 = pl + 1 ∧ hK M (pl + 1) = (20, 3)
def plE (p t pl : Nat) : List Nat := [t, t + 1, t + 2, t + 3, t + 4, pl, pl + 1] ++ nF p
/-- what planning needs -/
def Pln (M : hp) (h t p pl n : Nat) (L : Law) : Prop := HallO M h n L ∧ HallS M t ∧ HallZ M t ∧ NightS M p ∧ PlanS M pl p t ∧ apart h t ∧ (p + 5 < t ∨ t + 5 < p) ∧ (p + 5 < h ∨ h + 5 < p) ∧ p + 5 < kB ∧ t + 5 < kB ∧ pl + 1 < kB ∧ (pl + 1 < t ∨ t + 5 < pl) ∧ (pl + 1 < h ∨ h + 5 < pl) ∧ (pl + 1 < p ∨ p + 5 < pl)
theorem cE_low {t : Nat} (h : t + 5 < kB) : low (cE t) := by
  intro a q
  unfold cE at q
  simp at q
  omega
theorem one_low {t : Nat} (h : t + 5 < kB) : low [t + 5] := by
  intro a q
  simp at q
  omega
theorem start_ok {h t p pl n : Nat} {L : Law} (X : Pln M h t p pl n L) (hQ : ∀ M0, Bas M0 h t p pl n L → agq (cE t) [t + 5] M M0 → PlanS M0 pl p t → (∀ r, r ≤ 4 → hI M0 (h + r) = hI M (h + r)) → Q none M0) : Wp none d 1 0 [(0, .ref t), (1, .ref h)] [] M Q := by
  obtain ⟨X1, X2, X3, X4, X5, X6, X7, X8, X9, X10, X11, X12, X13, X14⟩ := X
  have X6' := X6
  unfold apart at X6'
  refine copy_ok X1 X2 X3 X6 X10 ?_
  intro M0 a1 l1 H1
  have nn : ∀ r, r ≤ 5 → (cE t).contains (h + r) = false := fun r hr => cE_not (by omega)
  have bb : ∀ a, ¬ a = t + 5 → ([t + 5] : List Nat).contains a = false := fun a q => by simp [q]
  have H2 : HallO M0 h n L := HallO_agq a1 (cE_low X10) (one_low X10) (nn 0 (by omega)) (nn 3 (by omega)) (nn 1 (by omega)) (nn 2 (by omega)) (nn 4 (by omega)) (bb _ (by omega)) (bb _ (by omega)) X1
  have eh : ∀ r, r ≤ 4 → hI M0 (h + r) = hI M (h + r) := fun r hr => (a1.2.2.2.2 _ (nn r (by omega))).1
  have l2 : like M0 t M0 h := by
    refine ⟨?_, ?_, ?_⟩
    · intro r r1 r4
      rw [l1.1 r r1 r4, eh r r4]
    · intro k k5 k13
      have := eh 0 (by omega)
      rw [Nat.add_zero] at this
      rw [l1.2.1 k k5 k13, this]
    · intro i hi
      rw [l1.2.2 i hi, a1.2.2.2.1 _ (bb (h + 5) (by omega))]
  have N1 : NightS M0 p := by
    unfold NightS MachS at *
    rw [a1.2.2.1, a1.2.2.2.1 p (bb _ (by omega)), a1.2.2.2.1 (p + 1) (bb _ (by omega))]
    exact X4
  refine hQ M0 ⟨H2, H1, l2, N1, X6, X7, X8, X9, X11, X12, X13, X14⟩ a1 ?_ eh
  unfold PlanS at *
  rw [a1.2.2.1, a1.2.2.2.1 pl (bb _ (by omega))]
  exact X5
theorem fin_agq {M0 M1 : hp} {t p pl : Nat} (a1 : agq (cE t) [t + 5] M M0) (X : Mid M0 M1 t p pl) : agq (plE p t pl) [t + 5] M M1 := by
  refine agq_trans (agq_mono a1 ?_ (fun a q => q)) (agq_mono (agq_of (B := []) X.1) ?_ (fun a q => by simp at q))
  · intro a q
    unfold cE at q
    unfold plE
    simp at q ⊢
    omega
  · intro a q
    unfold pE nF at q
    unfold plE nF
    simp at q ⊢
    omega
theorem fin_Z {M0 M1 : hp} {h t p pl n : Nat} {L : Law} (B : Bas M0 h t p pl n L) (X : Mid M0 M1 t p pl) : HallS M1 t ∧ HallZ M1 t := by
  refine ⟨(mid_hall B X).2.2.2, ?_⟩
  obtain ⟨B1, B2, B3, B4, B5, B6, B7, B8, B9, B10, B11, B12⟩ := B
  intro r r1 r4 k hk
  have : r = 1 ∨ r = 2 ∨ r = 3 ∨ r = 4 := by omega
  rcases this with e | e | e | e
  · subst e; rw [agr_I X.1 (pE_not (by omega) (by omega) (by omega) (by omega) (by omega))]; exact B2.2.2.2.2.2.1 1 r1 r4 k hk
  · subst e; rw [agr_I X.1 (pE_not (by omega) (by omega) (by omega) (by omega) (by omega))]; exact B2.2.2.2.2.2.1 2 r1 r4 k hk
  · subst e; exact X.2.2.1 k hk
  · subst e; exact X.2.2.2 k hk
def knoF (W : Nat → Int32) (n : Nat) (th s : Int32) : Int32 := fo (fun i x => if (s >>> (nI i &&& 31)) &&& 1 = 1 ∧ (W i >>> (th &&& 31)) &&& 1 = 1 then x + 1 else x) 0 n 0
theorem knowers_k {h n : Nat} {t s : Int32} (H : HallS M h) (N : HallN M h n) : Wp none d 22 0 [(0, .ref h), (1, .int t), (2, .int s)] [] M Q = Q (some (.int (knoF (hI M (h + 4)) n t s))) M := Hall_knowersOf H N
def besF (n j o : Nat) : Int32 := ((((1 : Int32) <<< (nI n &&& 31)) - 1) &&& (((1 : Int32) <<< (nI j &&& 31)) ^^^ (-1))) &&& (((1 : Int32) <<< (nI o &&& 31)) ^^^ (-1))
def bpStep (L : Law) (M : hp) (h n j o N : Nat) (th : Int32) (q : Nat) (s : Int32 × Int32) : Int32 × Int32 :=
  if ¬ hatF n (hI M (h + 3)) (nI q) = -1 ∧ ¬ hatF n (hI M (h + 3)) (nI q) = nI j then s
  else if (papW L M h n (updI (hI M (h + 3)) j (nI q)) N o >>> (th &&& 31)) &&& 1 = 1 ∧ knoF (papW L M h n (updI (hI M (h + 3)) j (nI q)) N) n th (besF n j o) < s.2 then (nI q, knoF (papW L M h n (updI (hI M (h + 3)) j (nI q)) N) n th (besF n j o)) else s
def bpF (L : Law) (M : hp) (h n j o N : Nat) (th : Int32) : Int32 × Int32 := fo (bpStep L M h n j o N th) 0 10 (-1, 7)
theorem Planner_bestPeg {h t p pl n j o N : Nat} {th : Int32} {L : Law} (X : Pln M h t p pl n L) (hj : j < n) (ho : o < n) (hN : N ≤ 60)
    (hQ : ∀ M', agq (plE p t pl) [t + 5] M M' → HallS M' t → HallZ M' t → Q (some (.int (bpF L M h n j o N th).1)) M') : Wp none d 49 0 [(0, .ref pl), (1, .ref h), (2, .int (nI j)), (3, .int th), (4, .int (nI o)), (5, .int (nI N))] [] M Q := by
  have X5 := X.2.2.2.2.1
  have n7 := X.1.2.1.2
  have p64 := X.2.2.2.1.1
  have t64 := X.2.1.1
  have hp0 := X.1.2.2.1
  rw [k49_0 X5.2.1 (by rw [X5.2.2.2.1]; omega), X5.2.2.2.1, k49_5 X.2.1.2.1]
  refine start_ok X ?_
  intro M0 B a1 P0 eh
  have n0 : hI M0 h 8 = nI n := B.1.2.1.1
  have ew : ∀ P, papW L M0 h n P N = papW L M h n P N := by
    intro P
    have e0 := eh 0 (by omega)
    rw [Nat.add_zero] at e0
    unfold papW
    rw [eh 1 (by omega), eh 2 (by omega), eh 4 (by omega), e0]
  have e3 := eh 3 (by omega)
  simp only [oZ]
  rw [k49_8 B.1.1.2.1, n0]
  have key : ∀ (k q : Nat) (b w : Int32) (M1 : hp), q + k = 10 → Mid M0 M1 t p pl → fo (bpStep L M h n j o N th) q k (b, w) = bpF L M h n j o N th → Wp none d 49 41 [(0, .ref pl), (1, .ref h), (2, .int (nI j)), (3, .int th), (4, .int (nI o)), (5, .int (nI N)), (6, .int (besF n j o)), (7, .int b), (8, .int w), (9, .int (nI q))] [] M1 Q := by
    intro k
    induction k with
    | zero =>
      intro q b w M1 e m1 hs
      have : q = 10 := by omega
      subst this
      have hs2 : (b, w) = bpF L M h n j o N th := hs
      rw [k49_41, k49_45, if_pos (by decide), k49_151]
      have f := fin_Z B m1
      have r := hQ M1 (fin_agq a1 m1) f.1 f.2
      rw [← hs2] at r
      exact r
    | succ k ih =>
      intro q b w M1 e m1 hs
      have c : ¬ (10 : Int32) ≤ nI q := by
        show ¬ nI 10 ≤ nI q
        rw [n_le (by omega) (by omega)]
        omega
      have hs2 : fo (bpStep L M h n j o N th) (q + 1) k (bpStep L M h n j o N th q (b, w)) = bpF L M h n j o N th := hs
      have CC := mid_hall B m1
      have eh1 : hI M1 (h + 3) = hI M (h + 3) := by rw [CC.2.1 3 (by omega), e3]
      have hpl : (hK M1 pl).1 = 4 := by rw [agr_K m1.1]; exact P0.2.1
      have hr0 : hR M1 pl 0 = p := by rw [agr_R m1.1]; exact P0.2.2.1
      have hr1 : hR M1 pl 1 = t := by rw [agr_R m1.1]; exact P0.2.2.2.1
      rw [k49_41, k49_45, if_neg c, k49_48, k49_51 CC.1.1.2.1, Hall_hatOn CC.1.1 CC.1.2.1, eh1]
      simp only [oN]
      rw [k49_54, k49_59]
      have nxt : ∀ (b w : Int32) (M1 : hp), Mid M0 M1 t p pl → bpStep L M h n j o N th q = bpStep L M h n j o N th q → fo (bpStep L M h n j o N th) (q + 1) k (b, w) = bpF L M h n j o N th → Wp none d 49 145 [(0, .ref pl), (1, .ref h), (2, .int (nI j)), (3, .int th), (4, .int (nI o)), (5, .int (nI N)), (6, .int (besF n j o)), (7, .int b), (8, .int w), (9, .int (nI q)), (10, .int (hatF n (hI M (h + 3)) (nI q)))] [] M1 Q := by
        intro b w M1 m2 _ hs3
        rw [k49_145, nI_1]
        exact ih (q + 1) b w M1 (by omega) m2 hs3
      have go : (hatF n (hI M (h + 3)) (nI q) = -1 ∨ hatF n (hI M (h + 3)) (nI q) = nI j) → Wp none d 49 71 [(0, .ref pl), (1, .ref h), (2, .int (nI j)), (3, .int th), (4, .int (nI o)), (5, .int (nI N)), (6, .int (besF n j o)), (7, .int b), (8, .int w), (9, .int (nI q)), (10, .int (hatF n (hI M (h + 3)) (nI q)))] [] M1 Q := by
        intro hx
        have eS : bpStep L M h n j o N th q (b, w) = if (papW L M h n (updI (hI M (h + 3)) j (nI q)) N o >>> (th &&& 31)) &&& 1 = 1 ∧ knoF (papW L M h n (updI (hI M (h + 3)) j (nI q)) N) n th (besF n j o) < w then (nI q, knoF (papW L M h n (updI (hI M (h + 3)) j (nI q)) N) n th (besF n j o)) else (b, w) := by
          unfold bpStep
          rw [if_neg (by intro z; exact hx.elim z.1 z.2)]
        rw [eS] at hs2
        have PS := hat_free hp0 n7 hj (by omega) hx
        rw [k49_71 hpl (by rw [hr1]; omega), hr1, k49_76 (by rw [agr_K m1.1]; exact B.2.1.1.2.1)]
        refine mv_ok B m1 ?_
        intro M2 Y2
        have hpl2 : (hK M2 pl).1 = 4 := by rw [agr_K Y2.1.1]; exact P0.2.1
        have hr02 : hR M2 pl 0 = p := by rw [agr_R Y2.1.1]; exact P0.2.2.1
        have hr12 : hR M2 pl 1 = t := by rw [agr_R Y2.1.1]; exact P0.2.2.2.1
        have HS2 := (mid_hall B Y2.1).2.2.2
        simp only [oZ]
        rw [k49_79 hpl2 (by rw [hr12]; omega) (by rw [hr12]; exact HS2.2.1) (by rw [hr12, HS2.2.2.2.2.1]; omega), hr12, HS2.2.2.2.2.1, k49_89, put_P HS2 (by omega)]
        simp only [oZ]
        have Y3 := pap_put (v := nI q) Y2 (show j < 7 by omega)
        rw [e3] at Y3
        generalize sI M2 (t + 3) j (nI q) = M3 at *
        have hpl3 : (hK M3 pl).1 = 4 := by rw [agr_K Y3.1.1]; exact P0.2.1
        have hr03 : hR M3 pl 0 = p := by rw [agr_R Y3.1.1]; exact P0.2.2.1
        have hr13 : hR M3 pl 1 = t := by rw [agr_R Y3.1.1]; exact P0.2.2.2.1
        rw [k49_92 hpl3 (by rw [hr03]; omega) (by rw [hr13]; omega), hr03, hr13, k49_102 (by rw [agr_K Y3.1.1]; exact B.2.2.2.1.2.1)]
        refine pap_hours B Y3 PS hN ?_
        intro M4 Y4
        rw [ew] at Y4
        have hpl4 : (hK M4 pl).1 = 4 := by rw [agr_K Y4.1.1]; exact P0.2.1
        have hr14 : hR M4 pl 1 = t := by rw [agr_R Y4.1.1]; exact P0.2.2.2.1
        have HO4 := Pap_hall B Y4 PS (by
          have := papW_sm (L := L) (P := updI (hI M (h + 3)) j (nI q)) (N := N) (B.1.2.2.2.1)
          rw [ew] at this
          exact this)
        simp only [oZ]
        rw [k49_105 hpl4 (by rw [hr14]; omega), hr14, k49_112 HO4.1.2.1, knowers_k HO4.1 HO4.2.1, Y4.2.2.1]
        simp only [oN]
        rw [k49_115 hpl4 (by rw [hr14]; omega), hr14, k49_124 HO4.1.2.1, Hall_knowsIt HO4.1 (show o < 7 by omega), Y4.2.2.1]
        simp only [oN]
        rw [k49_127]
        simp only [bz_eq0]
        by_cases c1 : (papW L M h n (updI (hI M (h + 3)) j (nI q)) N o >>> (th &&& 31)) &&& 1 = 1
        · rw [if_neg (fun z => z c1), k49_130, k49_134]
          by_cases c2 : knoF (papW L M h n (updI (hI M (h + 3)) j (nI q)) N) n th (besF n j o) < w
          · rw [if_pos ⟨c1, c2⟩] at hs2
            rw [if_neg (show ¬ w ≤ knoF (papW L M h n (updI (hI M (h + 3)) j (nI q)) N) n th (besF n j o) by rw [fa_le]; rw [fa_lt] at c2; omega), k49_137]
            exact nxt _ _ _ Y4.1 rfl hs2
          · rw [if_neg (fun z => c2 z.2)] at hs2
            rw [if_pos (show w ≤ knoF (papW L M h n (updI (hI M (h + 3)) j (nI q)) N) n th (besF n j o) by rw [fa_le]; rw [fa_lt] at c2; omega)]
            exact nxt _ _ _ Y4.1 rfl hs2
        · rw [if_neg (fun z => c1 z.1)] at hs2
          rw [if_pos c1]
          exact nxt _ _ _ Y4.1 rfl hs2
      by_cases c1 : hatF n (hI M (h + 3)) (nI q) = -1
      · rw [if_pos c1]
        exact go (Or.inl c1)
      · rw [if_neg c1, k49_62, k49_65]
        by_cases c2 : hatF n (hI M (h + 3)) (nI q) = nI j
        · rw [if_pos c2]
          exact go (Or.inr c2)
        · rw [if_neg c2, k49_68]
          have eS : bpStep L M h n j o N th q (b, w) = (b, w) := by
            unfold bpStep
            rw [if_pos ⟨c1, c2⟩]
          rw [eS] at hs2
          exact nxt _ _ _ m1 rfl hs2
  exact key 10 0 (-1) 7 M0 (by omega) (Mid_0 B) rfl
