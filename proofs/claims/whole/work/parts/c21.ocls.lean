variable {d : Nat} {M : hp} {Q : Option Value → hp → Prop}
/-! orders of the class: words, a clause's sums and test -/
def owF (n : Nat) (P W : Nat → Int32) (hr dn lt : Int32) : Nat → Int32 := fun k => if k = 0 then hr else if k = 1 then dn else if k = 2 then lt else if k = 3 then mny (hungF P n) else if k < 11 then (if k - 4 < n then P (k - 4) else -1) else (if k - 11 < n then mny (W (k - 11)) else -1)
def oenF (n : Nat) (P W : Nat → Int32) (hr dn lt : Int32) : Nat → Int32 := fun k => if k < 18 then owF n P W hr dn lt k else 0
theorem owF_P {n j : Nat} {P W : Nat → Int32} {hr dn lt : Int32} (hj : j < 7) : owF n P W hr dn lt (4 + j) = if j < n then P j else -1 := by
  unfold owF
  rw [if_neg (by omega), if_neg (by omega), if_neg (by omega), if_neg (by omega), if_pos (by omega), show 4 + j - 4 = j by omega]
theorem owF_W {n j : Nat} {P W : Nat → Int32} {hr dn lt : Int32} : owF n P W hr dn lt (11 + j) = if j < n then mny (W j) else -1 := by
  unfold owF
  rw [if_neg (by omega), if_neg (by omega), if_neg (by omega), if_neg (by omega), if_neg (by omega), show 11 + j - 11 = j by omega]
theorem put_w {m : Nat} {v : Int32} {k : Nat} (HM : MachS M m) (hk : k < 18) : Wp none d 147 0 [(0, .ref (m + 2)), (1, .int (nI k)), (2, .int v)] [] M Q = Q none (sI M (m + 2) k v) := by
  have h64 := HM.1
  exact put_18 HM.2.2.2.2.2 (by omega) hk
theorem setOrderWords_ok {m h n : Nat} {dn lt : Int32} (HM : MachS M m) (H : HallS M h) (N : HallN M h n) (HK : KnoS (hI M (h + 4)) n) (ha : m + 2 < h ∨ h + 5 < m) (hQ : ∀ M', agr [m + 2] M M' → (∀ k, k < 18 → hI M' (m + 2) k = owF n (hI M (h + 3)) (hI M (h + 4)) (hI M h 5) dn lt k) → Q none M') : Wp none d 30 0 [(0, .ref m), (1, .ref h), (2, .int dn), (3, .int lt)] [] M Q := by
  have m64 := HM.1
  have h64 := H.1
  have n7 := N.2
  have r1 : hR M m 1 = m + 2 := HM.2.2.2.1
  have rn : ¬ hR M m 1 = 0 := by rw [r1]; omega
  have st : ∀ {M1 : hp}, agr [m + 2] M M1 → MachS M1 m ∧ HallS M1 h ∧ HallN M1 h n ∧ (∀ r, r ≤ 4 → hI M1 (h + r) = hI M (h + r)) ∧ hR M1 m 1 = m + 2 ∧ ¬ hR M1 m 1 = 0 := by
    intro M1 a
    have e : ∀ r, r ≤ 4 → hI M1 (h + r) = hI M (h + r) := fun r hr => agr_I a (by simp; omega)
    refine ⟨?_, HallS_agr a H, ?_, e, by rw [agr_R a]; exact r1, by rw [agr_R a]; exact rn⟩
    · unfold MachS at *
      rw [agr_K a, agr_R a]
      exact HM
    · unfold HallN at *
      rw [show hI M1 h = hI M h from e 0 (by omega)]
      exact N
  have lp : ∀ (k i : Nat) (M1 : hp), i + k = 7 → agr [m + 2] M M1 → (∀ j, j < 4 ∨ (4 ≤ j ∧ j < 4 + i) ∨ (11 ≤ j ∧ j < 11 + i) → hI M1 (m + 2) j = owF n (hI M (h + 3)) (hI M (h + 4)) (hI M h 5) dn lt j) → Wp none d 30 45 [(0, .ref m), (1, .ref h), (2, .int dn), (3, .int lt), (4, .int (nI i))] [] M1 Q := by
    intro k
    induction k with
    | zero =>
      intro i M1 e a w
      rw [k30_45, k30_49, show (7 : Int32) = nI 7 from rfl, if_pos (by rw [n_le (by omega) (by omega)]; omega), k30_128]
      exact hQ M1 a (fun k hk => w k (by omega))
    | succ k ih =>
      intro i M1 e a w
      obtain ⟨HM1, H1, N1, eh, q1, q2⟩ := st a
      have e4 : (4 : Int32) + nI i = nI (4 + i) := by rw [show (4 : Int32) = nI 4 from rfl, nI_add]
      have e11 : (11 : Int32) + nI i = nI (11 + i) := by rw [show (11 : Int32) = nI 11 from rfl, nI_add]
      rw [k30_45, k30_49, show (7 : Int32) = nI 7 from rfl, if_neg (by rw [n_le (by omega) (by omega)]; omega), k30_52, k30_55 H1.2.1, hasHat_n H1 N1 (by omega)]
      simp only [oN]
      rw [k30_58 HM1.2.1 q2, q1, e4, k30_70]
      have fin : ∀ (x : Int32), x = owF n (hI M (h + 3)) (hI M (h + 4)) (hI M h 5) dn lt (4 + i) → Wp none d 30 86 [(0, .ref m), (1, .ref h), (2, .int dn), (3, .int lt), (4, .int (nI i)), (5, .int (bz (i < n)))] [.int x, .int (nI (4 + i)), .ref (m + 2)] M1 Q := by
        intro x hx
        rw [k30_86, put_w HM1 (by omega)]
        simp only [oZ]
        have a2 : agr [m + 2] M (sI M1 (m + 2) (4 + i) x) := agr_trans a (agr_sI (by simp))
        have w2 : ∀ j, j < 4 ∨ (4 ≤ j ∧ j < 4 + (i + 1)) ∨ (11 ≤ j ∧ j < 11 + i) → hI (sI M1 (m + 2) (4 + i) x) (m + 2) j = owF n (hI M (h + 3)) (hI M (h + 4)) (hI M h 5) dn lt j := by
          intro j hj
          by_cases c : j = 4 + i
          · rw [c, hI_sI_s]; exact hx
          · rw [hI_sI_k c]; exact w j (by omega)
        generalize sI M1 (m + 2) (4 + i) x = M2 at *
        obtain ⟨HM2, H2, N2, eh2, p1, p2⟩ := st a2
        rw [k30_89 HM2.2.1 p2, p1, e11, k30_100]
        have fin2 : ∀ (y : Int32), y = owF n (hI M (h + 3)) (hI M (h + 4)) (hI M h 5) dn lt (11 + i) → Wp none d 30 119 [(0, .ref m), (1, .ref h), (2, .int dn), (3, .int lt), (4, .int (nI i)), (5, .int (bz (i < n)))] [.int y, .int (nI (11 + i)), .ref (m + 2)] M2 Q := by
          intro y hy
          rw [k30_119, put_w HM2 (by omega)]
          simp only [oZ]
          rw [k30_122, nI_1]
          refine ih (i + 1) _ (by omega) (agr_trans a2 (agr_sI (by simp))) (fun j hj => ?_)
          by_cases c : j = 11 + i
          · rw [c, hI_sI_s]; exact hy
          · rw [hI_sI_k c]; exact w2 j (by omega)
        by_cases c : i < n
        · rw [if_neg (by rw [bz_t c]; decide), k30_103 H2.2.1 (by rw [H2.2.2.2.2.2.1]; omega), H2.2.2.2.2.2.1, k30_109, at_W H2 (by omega)]
          simp only [oM]
          rw [k30_112, eh2 4 (by omega), bitCount_ok (HK i c)]
          simp only [oM]
          rw [k30_115]
          refine fin2 _ ?_
          rw [owF_W, if_pos c]
        · rw [if_pos (by rw [bz_f c]), k30_118]
          refine fin2 _ ?_
          rw [owF_W, if_neg c]
      by_cases c : i < n
      · rw [if_neg (by rw [bz_t c]; decide), k30_73 H1.2.1 (by rw [H1.2.2.2.2.1]; omega), H1.2.2.2.2.1, k30_79, at_P H1 (by omega)]
        simp only [oM]
        rw [k30_82, eh 3 (by omega)]
        refine fin _ ?_
        rw [owF_P (by omega), if_pos c]
      · rw [if_pos (by rw [bz_f c]), k30_85]
        refine fin _ ?_
        rw [owF_P (by omega), if_neg c]
  have HM1 : MachS (sI M (m + 2) 0 (hI M h 5)) m := HM
  have HM2 : MachS (sI (sI M (m + 2) 0 (hI M h 5)) (m + 2) 1 dn) m := HM
  have HM3 : MachS (sI (sI (sI M (m + 2) 0 (hI M h 5)) (m + 2) 1 dn) (m + 2) 2 lt) m := HM
  have a3 : agr [m + 2] M (sI (sI (sI M (m + 2) 0 (hI M h 5)) (m + 2) 1 dn) (m + 2) 2 lt) := agr_trans (agr_trans (agr_sI (by simp)) (agr_sI (by simp))) (agr_sI (by simp))
  obtain ⟨_, H3, N3, eh3, _, _⟩ := st a3
  have p0 : ∀ (M1 : hp) (v : Int32) (Q : Option Value → hp → Prop), MachS M1 m → Wp none d 147 0 [(0, .ref (m + 2)), (1, .int 0), (2, .int v)] [] M1 Q = Q none (sI M1 (m + 2) 0 v) := fun M1 v Q q => put_w (k := 0) q (by omega)
  have p1 : ∀ (M1 : hp) (v : Int32) (Q : Option Value → hp → Prop), MachS M1 m → Wp none d 147 0 [(0, .ref (m + 2)), (1, .int 1), (2, .int v)] [] M1 Q = Q none (sI M1 (m + 2) 1 v) := fun M1 v Q q => put_w (k := 1) q (by omega)
  have p2 : ∀ (M1 : hp) (v : Int32) (Q : Option Value → hp → Prop), MachS M1 m → Wp none d 147 0 [(0, .ref (m + 2)), (1, .int 2), (2, .int v)] [] M1 Q = Q none (sI M1 (m + 2) 2 v) := fun M1 v Q q => put_w (k := 2) q (by omega)
  have p3 : ∀ (M1 : hp) (v : Int32) (Q : Option Value → hp → Prop), MachS M1 m → Wp none d 147 0 [(0, .ref (m + 2)), (1, .int 3), (2, .int v)] [] M1 Q = Q none (sI M1 (m + 2) 3 v) := fun M1 v Q q => put_w (k := 3) q (by omega)
  rw [k30_0 HM.2.1 rn H.2.1, r1, k30_9, p0 _ _ _ HM]
  simp only [oZ]
  rw [k30_12 HM1.2.1 (show ¬ hR M m 1 = 0 from rn), show hR (sI M (m + 2) 0 (hI M h 5)) m 1 = m + 2 from r1, k30_18, p1 _ _ _ HM1]
  simp only [oZ]
  rw [k30_21 HM2.2.1 (show ¬ hR M m 1 = 0 from rn), show hR (sI (sI M (m + 2) 0 (hI M h 5)) (m + 2) 1 dn) m 1 = m + 2 from r1, k30_27, p2 _ _ _ HM2]
  simp only [oZ]
  rw [k30_30 HM3.2.1 (show ¬ hR M m 1 = 0 from rn), show hR (sI (sI (sI M (m + 2) 0 (hI M h 5)) (m + 2) 1 dn) (m + 2) 2 lt) m 1 = m + 2 from r1, k30_36 H3.2.1, Hall_hungCount H3 N3]
  simp only [oM]
  rw [k30_39, p3 _ _ _ HM3, eh3 3 (by omega)]
  simp only [oZ]
  rw [k30_42, show (0 : Int32) = nI 0 from rfl]
  refine lp 7 0 _ (by omega) (agr_trans a3 (agr_sI (by simp))) (fun j hj => ?_)
  have : j = 0 ∨ j = 1 ∨ j = 2 ∨ j = 3 := by omega
  rcases this with rfl | rfl | rfl | rfl
  · rw [hI_sI_k (by decide), hI_sI_k (by decide), hI_sI_k (by decide), hI_sI_s]; rfl
  · rw [hI_sI_k (by decide), hI_sI_k (by decide), hI_sI_s]; rfl
  · rw [hI_sI_k (by decide), hI_sI_s]; rfl
  · rw [hI_sI_s]; rfl
/-- a clause's stretch of code in the text that was read -/
theorem run_D {i w len : Nat} {D : Den} (HM : MachS M 113) (HT : TextS M 110 111 112 400 96) (hl : hI M 110 2 = nI len) (hlen : len ≤ 400) (hi : 8 * i + w + 1 < 96) (sg : Sg M 18 (8 * i + w) len D)
    (hQ : ∀ M', agr [113, 114] M M' → hI M' 113 3 = hI M 113 3 → hI M' 113 4 = hI M 113 4 → (hI M' 113 2 = if D (msk 18 (gI M 115 18)) = none then 1 else 0) → Q (some (.long ((D (msk 18 (gI M 115 18))).getD 0))) M') : Wp none d 31 0 [(0, .ref 113), (1, .ref 110), (2, .int (nI i)), (3, .int (nI w))] [] M Q := by
  obtain ⟨f, g, q1, q2, q3, q4, q5⟩ := sg
  have e : crun (fun i => gI M 111 400 (nI i)) (gI M 115 18) (g - f) f (nI f) 0 1 (hL M (113 + 1)) = D (msk 18 (gI M 115 18)) := by
    rcases q5 with ⟨rfl, rfl⟩ | ⟨w1, w2, w3⟩
    · rw [Nat.sub_self]; rfl
    · have w4 := SegC_cong (C' := fun i => gI M 111 400 (nI i)) w3 (fun j r1 r2 => by
        unfold gI
        rw [if_neg (by show ¬ nI j < nI 0; rw [n_lt (by omega) (by omega)]; omega), if_neg (by rw [n_le (by omega) (by omega)]; omega), n_cl (by omega)])
      have := w4.2 (gI M 115 18) (nI f, 0, 1, hL M (113 + 1)) (by show ¬ nI f < nI f; rw [n_lt (by omega) (by omega)]; omega) (by show 0 + w1 ≤ 50; omega)
      rw [crun_cst]
      cases hD : D (msk 18 (gI M 115 18)) with
      | none =>
        rw [hD] at this
        rw [show cst (fun i => gI M 111 400 (nI i)) (gI M 115 18) (g - f) f (nI f, 0, 1, hL M (113 + 1)) = none from this]
        rfl
      | some v =>
        rw [hD] at this
        obtain ⟨go, s', t1, t2⟩ := this
        rw [t1]
        rfl
  refine Machine_run (C := fun i => gI M 111 400 (nI i)) (E := gI M 115 18) HM HT (fun _ => rfl) (fun _ => rfl) (by decide) (by decide) (by decide) (by decide) hi q1 q2 hl q3 q4 hlen (fun M' a h3 h4 h2 => ?_)
  rw [e] at h2 ⊢
  exact hQ M' a h3 h4 h2
theorem MachS_agr {E : List Nat} {M' : hp} {m : Nat} (H : MachS M m) (a : agr E M M') : MachS M' m := by
  unfold MachS at *
  rw [agr_K a, agr_R a]
  exact H
theorem TextS_agr {E : List Nat} {M' : hp} {t c r lc lr : Nat} (H : TextS M t c r lc lr) (a : agr E M M') : TextS M' t c r lc lr := by
  unfold TextS at *
  rw [agr_K a, agr_R a]
  exact H
theorem Sg_agr {E : List Nat} {M' : hp} {N k len : Nat} {D : Den} (h : Sg M N k len D) (a : agr E M M') (h1 : E.contains 111 = false) (h2 : E.contains 112 = false) : Sg M' N k len D := Sg_keep h (fun j _ => by rw [agr_I a h1]) (by rw [agr_I a h2]) (by rw [agr_I a h2]) (Nat.le_refl _)
theorem runSums_ok {i len : Nat} {D1 D2 : Den} (HM : MachS M 113) (HT : TextS M 110 111 112 400 96) (hl : hI M 110 2 = nI len) (hlen : len ≤ 400) (hi : i < 12) (s1 : Sg M 18 (8 * i + 2) len D1) (s2 : Sg M 18 (8 * i + 4) len D2)
    (hQ : ∀ M', agr [113, 114] M M' → (∀ v, D1 (msk 18 (gI M 115 18)) = some v → hI M' 113 3 = v.toInt32) → (∀ v, D2 (msk 18 (gI M 115 18)) = some v → hI M' 113 4 = v.toInt32) → Q (some (.int (bz (¬ D1 (msk 18 (gI M 115 18)) = none ∧ ¬ D2 (msk 18 (gI M 115 18)) = none)))) M') : Wp none d 32 0 [(0, .ref 113), (1, .ref 110), (2, .int (nI i))] [] M Q := by
  rw [k32_0, k32_5 HM.2.1, show (2 : Int32) = nI 2 from rfl]
  refine run_D HM HT hl hlen (by omega) s1 (fun M1 a1 e3 e4 e2 => ?_)
  have HM1 := MachS_agr HM a1
  simp only [oM]
  rw [k32_8 HM1.2.1]
  generalize hv : ((D1 (msk 18 (gI M 115 18))).getD 0).toInt32 = x
  have b1 : agr [113, 114] M (sI M1 113 3 x) := agr_trans a1 (agr_sI (by decide))
  have f3 : hI (sI M1 113 3 x) 113 3 = x := hI_sI_s _ _ _ _
  have f2 : hI (sI M1 113 3 x) 113 2 = if D1 (msk 18 (gI M 115 18)) = none then 1 else 0 := (hI_sI_k (by decide)).trans e2
  generalize sI M1 113 3 x = M2 at *
  have HM2 := MachS_agr HM b1
  have HT2 := TextS_agr HT b1
  have tail : ∀ y : Int32, y = bz (¬ D1 (msk 18 (gI M 115 18)) = none) → Wp none d 32 24 [(0, .ref 113), (1, .ref 110), (2, .int (nI i))] [.int y] M2 Q := by
    intro y hy
    rw [k32_24, k32_30 HM2.2.1, show (4 : Int32) = nI 4 from rfl]
    refine run_D HM2 HT2 (by rw [agr_I b1 (a := 110) (by decide)]; exact hl) hlen (by omega) (Sg_agr s2 b1 (by decide) (by decide)) (fun M3 a3 g3 g4 g2 => ?_)
    have ee : gI M2 115 18 = gI M 115 18 := by
      funext x
      unfold gI
      rw [agr_I b1 (a := 115) (by decide)]
    rw [ee] at g2 ⊢
    have HM3 := MachS_agr HM2 a3
    simp only [oM]
    rw [k32_33 HM3.2.1]
    have HM4 : MachS (sI M3 113 4 ((D2 (msk 18 (gI M 115 18))).getD 0).toInt32) 113 := HM3
    have b4 : agr [113, 114] M (sI M3 113 4 ((D2 (msk 18 (gI M 115 18))).getD 0).toInt32) := agr_trans b1 (agr_trans a3 (agr_sI (by decide)))
    have fin : Wp none d 32 53 [(0, .ref 113), (1, .ref 110), (2, .int (nI i)), (3, .int y)] [.int (bz (¬ D1 (msk 18 (gI M 115 18)) = none ∧ ¬ D2 (msk 18 (gI M 115 18)) = none))] (sI M3 113 4 ((D2 (msk 18 (gI M 115 18))).getD 0).toInt32) Q := by
      rw [k32_53 (bz_or _)]
      refine hQ _ b4 (fun v hD => ?_) (fun v hD => ?_)
      · rw [hI_sI_k (by decide), g3, f3, ← hv, hD]; rfl
      · rw [hI_sI_s, hD]; rfl
    rw [k32_37, k32_38, hy]
    by_cases c1 : D1 (msk 18 (gI M 115 18)) = none
    · rw [if_pos (by rw [bz_f (fun z => z c1)]), k32_52]
      rw [bz_f (fun z => z.1 c1), hy] at fin
      exact fin
    · rw [if_neg (by rw [bz_t c1]; decide), k32_41 HM4.2.1, hI_sI_k (by decide), g2, k32_45]
      by_cases c2 : D2 (msk 18 (gI M 115 18)) = none
      · rw [if_pos (by rw [if_pos c2]; decide), k32_52]
        rw [bz_f (fun z => z.2 c2), hy] at fin
        exact fin
      · rw [if_neg (by rw [if_neg c2]; exact fun z => z rfl), k32_48]
        rw [bz_t (show ¬ D1 (msk 18 (gI M 115 18)) = none ∧ ¬ D2 (msk 18 (gI M 115 18)) = none from ⟨c1, c2⟩), hy] at fin
        exact fin
  rw [k32_12 HM2.2.1, f2, k32_16]
  by_cases c1 : D1 (msk 18 (gI M 115 18)) = none
  · rw [if_pos (by rw [if_pos c1]; decide), k32_23]
    exact tail 0 (by rw [bz_f (fun z => z c1)])
  · rw [if_neg (by rw [if_neg c1]; exact fun z => z rfl), k32_19]
    exact tail 1 (by rw [bz_t c1])
