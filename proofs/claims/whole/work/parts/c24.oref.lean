variable {d : Nat} {M : hp} {Q : Option Value → hp → Prop}
/-! orders of the reference: all clauses; what the text promises -/
theorem textP_all {γ : Type} {b : Nat → Nat} {L : Nat} {cl : Nat → Nat → Sum Nat (Nat × Nat × γ)} {R : γ → Prop} (h : ∀ s n s1 n1 c, cl s n = .inr (s1, n1, c) → R c) : ∀ (f i s n : Nat) (cf : Nat → γ), (∀ j, j < i → R (cf j)) → ∀ m cf', textP b L cl f i s n cf = .inr (m, cf') → ∀ j, j < m → R (cf' j) := by
  intro f
  induction f with
  | zero => intro i s n cf _ m cf' e; cases e
  | succ f ih =>
    intro i s n cf hc m cf' e
    unfold textP at e
    cases hp : cl s n with
    | inl q => rw [hp] at e; cases e
    | inr x =>
      obtain ⟨s1, n1, c⟩ := x
      rw [hp] at e
      have hc' : ∀ j, j < i + 1 → R ((fun j => if j = i then c else cf j) j) := by
        intro j hj
        show R (if j = i then c else cf j)
        by_cases q : j = i
        · rw [if_pos q]; exact h _ _ _ _ _ hp
        · rw [if_neg q]; exact hc j (by omega)
      have e : (if L ≤ s1 then .inr (i + 1, fun j => if j = i then c else cf j) else if sg b L s1 59 then textP b L cl f (i + 1) (nx b L s1) n1 (fun j => if j = i then c else cf j) else .inl s1 : Sum Nat (Nat × (Nat → γ))) = .inr (m, cf') := e
      by_cases c1 : L ≤ s1
      · rw [if_pos c1] at e
        cases e
        exact hc'
      · rw [if_neg c1] at e
        by_cases c2 : sg b L s1 59
        · rw [if_pos c2] at e
          exact ih _ _ _ _ hc' m cf' e
        · rw [if_neg c2] at e
          cases e
theorem isBD_one : isBD oneD := fun e v h => by
  cases h
  exact Or.inr rfl
theorem plain_isBD {b : Nat → Nat} {L : Nat} {o : Bool} (g : Nat) : ∀ s n s1 n1 D, pPlain b L o g s n = .inr (s1, n1, D) → isBD D := by
  intro s n s1 n1 D e
  rw [plain_core] at e
  exact turn_BD (fun s2 n2 D2 q => core_BD _ _ _ _ _ _ q) s1 n1 D e
theorem if_isBD {b : Nat → Nat} {L : Nat} {o : Bool} {s n s1 n1 : Nat} {D : Den} (e : ifP b L o s n = .inr (s1, n1, D)) : isBD D := by
  unfold ifP at e
  by_cases c : wrd b L s = kwIf
  · rw [if_pos c] at e
    exact test_BD (plain_isBD 8) _ _ _ _ _ e
  · rw [if_neg c] at e
    cases e
    exact isBD_one
def OclOk (c : Ocl) : Prop := c.1 < 4 ∧ c.2.1 ≤ 20 ∧ isBD c.2.2.2.2
theorem tim_20 {b : Nat → Nat} {L s s1 t : Nat} (e : timP b L s = .inr (s1, t)) : t ≤ 20 := by
  unfold timP at e
  by_cases c : wrd b L s = kwTimes
  · rw [if_pos c] at e
    cases hv : nmI b L (nx b L s) 1 20 with
    | none => rw [hv] at e; cases e
    | some v =>
      rw [hv] at e
      cases e
      exact (nmI_s hv).2.2.2
  · rw [if_neg c] at e
    cases e
    omega
theorem order_ok {b : Nat → Nat} {L s n s1 n1 : Nat} {c : Ocl} (e : orderP b L s n = .inr (s1, n1, c)) : OclOk c := by
  unfold orderP at e
  cases hw : wix kwO (wrd b L s) with
  | none => rw [hw] at e; cases e
  | some k =>
    rw [hw] at e
    have hk : k < 4 := wix_lt _ _ _ hw
    simp only at e
    generalize (if k = 3 then Sum.inr (nx b L s, n, oneD) else sumP b L true (nx b L s) n : PR) = r1 at e
    cases r1 with
    | inl q => cases e
    | inr x =>
      obtain ⟨s2, n2, D1⟩ := x
      simp only at e
      generalize (if k = 0 then behP b L s2 n2 kwOn else if k = 2 then behP b L s2 n2 kwIn else Sum.inr (s2, n2, oneD) : PR) = r2 at e
      cases r2 with
      | inl q => cases e
      | inr y =>
        obtain ⟨s3, n3, D2⟩ := y
        simp only at e
        cases ht : timP b L s3 with
        | inl q => rw [ht] at e; cases e
        | inr z =>
          obtain ⟨s4, t⟩ := z
          rw [ht] at e
          simp only at e
          cases hi : ifP b L true s4 n3 with
          | inl q => rw [hi] at e; cases e
          | inr w =>
            obtain ⟨s5, n5, D3⟩ := w
            rw [hi] at e
            cases e
            exact ⟨hk, tim_20 ht, if_isBD hi⟩
theorem ord_ok {b : Nat → Nat} {L n : Nat} {cf : Nat → Ocl} (e : ordP b L = .inr (n, cf)) : ∀ j, j < n → OclOk (cf j) := textP_all (fun _ _ _ _ _ q => order_ok q) 12 0 _ 0 _ (fun j hj => absurd hj (by omega)) n cf e
theorem ordA_WF {n k : Nat} {D T : Nat → Int32} {rn : Int32} {L : Law} {hat num : Int32} {s s' : OSt} (hn : n ≤ 7) (hk : k < 4) (W : WFa n s.1) (e : ordA n D T rn L k hat num s = some s') : WFa n s'.1 ∧ (s'.2.1 = s.2.1 + 1) := by
  unfold ordA at e
  by_cases c : whyA n (nI k) hat num s.1 = 0
  · rw [if_pos c] at e
    cases e
    exact ⟨doA_WF hn hk W c, rfl⟩
  · rw [if_neg c] at e
    cases e
theorem ord1_WF {n : Nat} {D T : Nat → Int32} {rn : Int32} {L : Law} {c : Ocl} {s s' : OSt} (hn : n ≤ 7) (hk : c.1 < 4) (W : WFa n s.1) (e : ord1 n D T rn L c s = some s') : WFa n s'.1 ∧ (s'.2.1 = s.2.1 ∨ s'.2.1 = s.2.1 + 1) := by
  unfold ord1 at e
  by_cases c0 : (c.2.2.2.2 (oEnv n s)).getD 0 = 0
  · rw [if_pos c0] at e
    cases e
    exact ⟨W, Or.inl rfl⟩
  · rw [if_neg c0] at e
    cases d1 : c.2.2.1 (oEnv n s) with
    | none => rw [d1] at e; cases e
    | some v1 =>
      cases d2 : c.2.2.2.1 (oEnv n s) with
      | none => rw [d1, d2] at e; cases e
      | some v2 =>
        rw [d1, d2] at e
        have := ordA_WF hn hk W e
        exact ⟨this.1, Or.inr this.2⟩
theorem ordT_dn {n : Nat} {D T : Nat → Int32} {rn : Int32} {L : Law} {c : Ocl} (hn : n ≤ 7) (hk : c.1 < 4) : ∀ (k : Nat) (s s' : OSt) (z : Nat), WFa n s.1 → s.2.1 = nI z → ordT n D T rn L c k s = .inr s' → WFa n s'.1 ∧ ∃ w, w ≤ z + k ∧ s'.2.1 = nI w := by
  intro k
  induction k with
  | zero =>
    intro s s' z W hz e
    unfold ordT at e
    cases e
    exact ⟨W, z, by omega, hz⟩
  | succ k ih =>
    intro s s' z W hz e
    unfold ordT at e
    cases e1 : ord1 n D T rn L c s with
    | none => rw [e1] at e; cases e
    | some s2 =>
      rw [e1] at e
      obtain ⟨w1, w2⟩ := ord1_WF hn hk W e1
      rcases w2 with q | q
      · obtain ⟨y, w, w3, w4⟩ := ih s2 s' z w1 (q.trans hz) e
        exact ⟨y, w, by omega, w4⟩
      · obtain ⟨y, w, w3, w4⟩ := ih s2 s' (z + 1) w1 (by rw [q, hz, nI_1]) e
        exact ⟨y, w, by omega, w4⟩
theorem ordC_dn {n : Nat} {D T : Nat → Int32} {rn : Int32} {L : Law} {cf : Nat → Ocl} (hn : n ≤ 7) : ∀ (m i : Nat) (s s' : OSt) (z : Nat), (∀ j, i ≤ j → j < i + m → OclOk (cf j)) → WFa n s.1 → s.2.1 = nI z → ordC n D T rn L cf m i s = .inr s' → ∃ w, w ≤ z + 20 * m ∧ s'.2.1 = nI w := by
  intro m
  induction m with
  | zero =>
    intro i s s' z _ W hz e
    unfold ordC at e
    cases e
    exact ⟨z, by omega, hz⟩
  | succ m ih =>
    intro i s s' z ok W hz e
    unfold ordC at e
    have oi := ok i (by omega) (by omega)
    cases e1 : ordT n D T rn L (cf i) (cf i).2.1 s with
    | inl q => rw [e1] at e; cases e
    | inr s2 =>
      rw [e1] at e
      obtain ⟨w1, w, w2, w3⟩ := ordT_dn hn oi.1 _ _ _ _ W hz e1
      have := oi.2.1
      obtain ⟨y, y1, y2⟩ := ih (i + 1) s2 s' w (fun j q1 q2 => ok j (by omega) (by omega)) w1 w3 e
      exact ⟨y, by omega, y2⟩
theorem mOrdR_cong {M' : hp} {len i : Nat} {x : Ocl} (h : mOrdR M len i x) (e1 : hI M' 152 = hI M 152) (e2 : hI M' 137 = hI M 137) (e3 : hI M' 138 = hI M 138) : mOrdR M' len i x := by
  unfold mOrdR mSegO Rg at *
  rw [e1, e2, e3]
  exact h
theorem segO_ne {M' : hp} {t len : Nat} {D : Den} (h : mSegO M' t len D) (hl : len ≤ 400) : ¬ hI M' 152 t = hI M' 152 (t + 1) := by
  obtain ⟨f, g, s1, s2, s3, s4⟩ := h
  have := s4.1
  rw [s1, s2, n_eq (by omega) (by omega)]
  omega
theorem mRun1 {M0 : hp} {n len i : Nat} {D T : Nat → Int32} {rn lk : Int32} {L : Law} {x : Ocl} {s : OSt} (A : RfO M0 M n D T rn lk L s) (W : WFa n s.1) (hi : i < 12) (hlen : len ≤ 400) (R : mOrdR M len i x) (hb : isBD x.2.2.2.2) (H1 : ∀ s', ord1 n D T rn L x s = some s' → ∀ M', RfO M0 M' n D T rn lk L s' → Q (some (.int 0)) M') (H0 : ord1 n D T rn L x s = none → ∀ M', RfO M0 M' n D T rn lk L s → Q (some (.int (-3))) M') : Wp none d 261 0 [(0, .ref 126), (1, .int (nI (8 * i)))] [] M Q := by
  have Y := A.1
  have F := Y.F
  have n7 := Y.n7
  obtain ⟨r0, rk, r7, r20, rs1, rs2, f3, g3, t1, t2, t3, t4, t5⟩ := R
  have c1 : (1 : Int32).toNatClampNeg = 1 := rfl
  have c2 : (2 : Int32).toNatClampNeg = 2 := rfl
  have c3 : (3 : Int32).toNatClampNeg = 3 := rfl
  have c4 : (4 : Int32).toNatClampNeg = 4 := rfl
  have FA : MF (sL M 145 1 s.1.2.2.1.toInt64) := F
  have FB' : MF (sL (sL M 145 1 s.1.2.2.1.toInt64) 145 2 s.2.1.toInt64) := F
  have FC : MF (sL (sL (sL M 145 1 s.1.2.2.1.toInt64) 145 2 s.2.1.toInt64) 145 3 s.2.2.toInt64) := F
  have YC : RP (sL (sL (sL M 145 1 s.1.2.2.1.toInt64) 145 2 s.2.1.toInt64) 145 3 s.2.2.toInt64) n D T s.1.1 s.1.2.1 s.1.2.2.1 rn L := RP_of Y F rfl Y.o20 Y.o0
  have FD : MF (sL (sL (sL (sL M 145 1 s.1.2.2.1.toInt64) 145 2 s.2.1.toInt64) 145 3 s.2.2.toInt64) 145 4 (mny (hungF s.1.1 n)).toInt64) := F
  have FE' : MF (sI (sL (sL (sL (sL M 145 1 s.1.2.2.1.toInt64) 145 2 s.2.1.toInt64) 145 3 s.2.2.toInt64) 145 4 (mny (hungF s.1.1 n)).toInt64) 126 50 0) := F
  rw [m261_0 F (by decide) (by decide), c1, c4, Y.rh, m261_13 FA (by decide), c2, show hI (sL M 145 1 s.1.2.2.1.toInt64) 126 47 = s.2.1 from A.2.2.2.1, m261_24 FB' (by decide), c3, show hI (sL (sL M 145 1 s.1.2.2.1.toInt64) 145 2 s.2.1.toInt64) 126 48 = s.2.2 from A.2.2.2.2.1, m261_35 FC, m261_41 FC, mHungBits YC]
  simp only [oM]
  rw [k261_44, mMany]
  simp only [oM]
  rw [m261_47 FC (by rw [m_K145 FC]) (by rw [m_K145 FC]; decide), c4, m261_49 FD]
  have a5 : agr [126, 145, 146] M (sI (sL (sL (sL (sL M 145 1 s.1.2.2.1.toInt64) 145 2 s.2.1.toInt64) 145 3 s.2.2.toInt64) 145 4 (mny (hungF s.1.1 n)).toInt64) 126 50 0) := agr_trans (agr_trans (agr_trans (agr_trans (agr_sL (by decide)) (agr_sL (by decide))) (agr_sL (by decide))) (agr_sL (by decide))) (agr_sI (by decide))
  have A5 := RfO_fr A a5 (fun k _ q => by rw [hI_sI_k q]; rfl)
  have h50 : hI (sI (sL (sL (sL (sL M 145 1 s.1.2.2.1.toInt64) 145 2 s.2.1.toInt64) 145 3 s.2.2.toInt64) 145 4 (mny (hungF s.1.1 n)).toInt64) 126 50 0) 126 50 = 0 := hI_sI_s _ _ _ _
  have hset : ∀ k, k < 4 → hL (sI (sL (sL (sL (sL M 145 1 s.1.2.2.1.toInt64) 145 2 s.2.1.toInt64) 145 3 s.2.2.toInt64) 145 4 (mny (hungF s.1.1 n)).toInt64) 126 50 0) 145 (k + 1) = (oEnv n s k).toInt64 := by
    intro k hk
    show hL (sL (sL (sL (sL M 145 1 s.1.2.2.1.toInt64) 145 2 s.2.1.toInt64) 145 3 s.2.2.toInt64) 145 4 (mny (hungF s.1.1 n)).toInt64) 145 (k + 1) = _
    have : k = 0 ∨ k = 1 ∨ k = 2 ∨ k = 3 := by omega
    rcases this with rfl | rfl | rfl | rfl
    · rw [hL_sL_k (by decide), hL_sL_k (by decide), hL_sL_k (by decide), hL_sL_s]; rfl
    · rw [hL_sL_k (by decide), hL_sL_k (by decide), hL_sL_s]; rfl
    · rw [hL_sL_k (by decide), hL_sL_s]; rfl
    · rw [hL_sL_s]; rfl
  generalize sI (sL (sL (sL (sL M 145 1 s.1.2.2.1.toInt64) 145 2 s.2.1.toInt64) 145 3 s.2.2.toInt64) 145 4 (mny (hungF s.1.1 n)).toInt64) 126 50 0 = M5 at *
  have Y5 := A5.1
  have F5 := Y5.F
  have E5 : OEnvH M5 n (oEnv n s) := by
    refine ⟨Y5.o20, hset, Y5.n0, n7, fun j hj => ⟨fun q => ?_, fun q => ?_⟩⟩
    · have e1 : oEnv n s (4 + j) = s.1.1 j := by
        unfold oEnv oenF
        rw [if_pos (by omega), owF_P hj, if_pos q]
      have e2 : oEnv n s (11 + j) = mny (s.1.2.1 j) := by
        unfold oEnv oenF
        rw [if_pos (by omega), owF_W, if_pos q]
      rw [e1, e2, Y5.rP j hj, Y5.rW j hj]
      exact ⟨rfl, rfl⟩
    · constructor
      · unfold oEnv oenF
        rw [if_pos (by omega), owF_P hj, if_neg q]
      · unfold oEnv oenF
        rw [if_pos (by omega), owF_W, if_neg q]
  have o152 : ∀ {M' : hp}, ES M5 M' → hI M' 152 = hI M 152 ∧ hI M' 137 = hI M 137 ∧ hI M' 138 = hI M 138 := fun b => ⟨(agr_I b.1 (by decide)).trans (agr_I a5 (by decide)), (agr_I b.1 (by decide)).trans (agr_I a5 (by decide)), (agr_I b.1 (by decide)).trans (agr_I a5 (by decide))⟩
  have sgM : ∀ {M' : hp} {t : Nat} {D : Den}, ES M5 M' → mSegO M t len D → mSegO M' t len D := by
    intro M' t D b h
    unfold mSegO at *
    rw [(o152 b).1, (o152 b).2.1, (o152 b).2.2]
    exact h
  have e5 : nI (8 * i) + 5 = nI (8 * i + 5) := by rw [show (5 : Int32) = nI 5 from rfl, nI_add]
  have e6 : nI (8 * i) + 6 = nI (8 * i + 6) := by rw [show (6 : Int32) = nI 6 from rfl, nI_add]
  have e1 : nI (8 * i) + 1 = nI (8 * i + 1) := by rw [nI_1]
  have e3 : nI (8 * i) + 3 = nI (8 * i + 3) := by rw [show (3 : Int32) = nI 3 from rfl, nI_add]
  unfold ord1 at H1 H0
  have body : ∀ M6, ES M5 M6 → hI M6 126 50 = 0 → ¬ (x.2.2.2.2 (oEnv n s)).getD 0 = 0 → Wp none d 261 95 [(0, .ref 126), (1, .int (nI (8 * i)))] [] M6 Q := by
    intro M6 b6 z6 hz
    rw [if_neg hz] at H1 H0
    have A6 := RfO_ES A5 b6
    have F6 := A6.1.F
    have E6 := OEnvH_ES E5 b6
    have S1 : SumS M6 (8 * i + 1) len x.2.2.1 := by
      rcases rs1 with ⟨_, q1, q2⟩ | ⟨_, q1⟩
      · exact Or.inl ⟨by rw [(o152 b6).1]; exact q1, q2⟩
      · exact Or.inr (sgM b6 q1)
    rw [k261_95, e1, m261_99 F6]
    refine mSum F6 z6 E6 hlen (by omega) S1 ?_
    cases d1 : x.2.2.1 (oEnv n s) with
    | none =>
      intro M7 w b7 z7
      have A7 := RfO_ES A6 b7
      have F7 := A7.1.F
      simp only [oN]
      rw [k261_102, e3, m261_107 F7, mSum_off F7 z7]
      simp only [oN]
      rw [m261_110 F7, z7, k261_115, if_neg (by decide), k261_118]
      exact H0 (by rw [d1]) M7 A7
    | some v1 =>
      intro M7 w1 b7 z7 hw1
      have b67 := ES_trans b6 b7
      have A7 := RfO_ES A6 b7
      have F7 := A7.1.F
      have E7 := OEnvH_ES E6 b7
      have S2 : SumS M7 (8 * i + 3) len x.2.2.2.1 := by
        rcases rs2 with ⟨_, _, q1, q2⟩ | ⟨_, q1⟩
        · exact Or.inl ⟨by rw [(o152 b67).1]; exact q1, q2⟩
        · exact Or.inr (sgM b67 q1)
      simp only [oN]
      rw [k261_102, e3, m261_107 F7]
      refine mSum F7 z7 E7 hlen (by omega) S2 ?_
      cases d2 : x.2.2.2.1 (oEnv n s) with
      | none =>
        intro M8 w b8 z8
        have A8 := RfO_ES A7 b8
        have F8 := A8.1.F
        simp only [oN]
        rw [m261_110 F8, z8, k261_115, if_neg (by decide), k261_118]
        exact H0 (by rw [d1, d2]) M8 A8
      | some v2 =>
        intro M8 w2 b8 z8 hw2
        have b678 := ES_trans b67 b8
        have A8 := RfO_ES A7 b8
        have F8 := A8.1.F
        simp only [oN]
        rw [m261_110 F8, z8, k261_115, if_pos rfl]
        rw [d1, d2] at H1 H0
        simp only at H1 H0
        have key : ordA n D T rn L x.1 (if x.1 = 2 then w2 else w1) (if x.1 = 2 then w1 else w2) s = ordA n D T rn L x.1 (oHat x.1 v1 v2) (oNum x.1 v1 v2) s := by
          unfold oHat oNum
          have k4 : x.1 = 0 ∨ x.1 = 1 ∨ x.1 = 2 ∨ x.1 = 3 := by omega
          have y1 : ¬ x.1 = 3 → w1 = v1.toInt32 := fun q => by
            rcases rs1 with ⟨z, _⟩ | ⟨_, z⟩
            · exact absurd z q
            · exact hw1 (by rw [(o152 b6).1]; exact segO_ne z hlen)
          have y2 : x.1 = 0 ∨ x.1 = 2 → w2 = v2.toInt32 := fun q => by
            rcases rs2 with ⟨z, z', _⟩ | ⟨_, z⟩
            · exact absurd q (by omega)
            · exact hw2 (by rw [(o152 b67).1]; exact segO_ne z hlen)
          rcases k4 with k | k | k | k
          · rw [y1 (by omega), y2 (Or.inl k)]
          · rw [k, y1 (by omega)]
            exact ordA_1
          · rw [y1 (by omega), y2 (Or.inr k)]
          · rw [k]
            exact ordA_3
        rw [← key] at H1 H0
        exact mRunA A8 W n7 rk hi (by rw [(o152 b678).1]; exact r0) H1 H0
  rw [m261_54 F5 (by rw [e5]; exact v96' (by omega)) (by rw [e6]; exact v96' (by omega)), e5, e6, n_cl (by omega), n_cl (by omega), (o152 (ES_refl M5)).1, t1, t2, k261_71]
  by_cases cf : g3 ≤ f3
  · rw [if_pos (by rw [n_le (by omega) (by omega)]; exact cf)]
    refine body M5 (ES_refl M5) h50 ?_
    rcases t5 with ⟨_, q⟩ | q
    · rw [q]; exact fun z => by cases z
    · have := q.1; omega
  · rw [if_neg (by rw [n_le (by omega) (by omega)]; exact cf), k261_74, e5, m261_78 F5]
    have S3 : SumS M5 (8 * i + 5) len x.2.2.2.2 := by
      rcases t5 with ⟨q, _⟩ | q
      · omega
      · exact Or.inr (sgM (ES_refl M5) ⟨f3, g3, t1, t2, t4, q⟩)
    refine mSum F5 h50 E5 hlen (by omega) S3 ?_
    cases d3 : x.2.2.2.2 (oEnv n s) with
    | none =>
      intro M6 w b6 z6
      have A6 := RfO_ES A5 b6
      have F6 := A6.1.F
      simp only [oN]
      rw [m261_81 F6, z6, k261_86, if_pos (by decide), k261_93]
      exact H1 s (by rw [d3]; rfl) M6 A6
    | some v =>
      intro M6 w b6 z6 hw
      have A6 := RfO_ES A5 b6
      have F6 := A6.1.F
      have ew : w = v.toInt32 := hw (by rw [(o152 (ES_refl M5)).1, t1, show 8 * i + 5 + 1 = 8 * i + 6 by omega, t2, n_eq (by omega) (by omega)]; omega)
      simp only [oN]
      rw [m261_81 F6, z6, k261_86, if_neg (fun z => z rfl), k261_89, k261_90, ew]
      rcases hb _ _ d3 with q | q
      · rw [q, if_neg (fun z => z rfl), k261_93]
        exact H1 s (by rw [d3, q]; rfl) M6 A6
      · rw [q, if_pos (by decide)]
        exact body M6 b6 z6 (by rw [d3, q]; exact fun z => by cases z)
theorem mOrdT {M0 : hp} {n len nc i : Nat} {D T : Nat → Int32} {rn lk x1 : Int32} {L : Law} {cf : Nat → Ocl} {r : Sum OSt OSt} (hn : n ≤ 7) (hlen : len ≤ 400) (hi : i < nc) (hnc : nc ≤ 12) (R : mOrdR M0 len i (cf i)) (B : OclOk (cf i)) (H : match r with
    | .inr s' => WFa n s'.1 → ∀ M' x3, RfO M0 M' n D T rn lk L s' → Wp none d 262 200 [(0, .ref 126), (1, .int x1), (2, .int (nI i)), (3, .int x3)] [] M' Q
    | .inl s' => ∀ M' x3, RfO M0 M' n D T rn lk L s' → Wp none d 262 177 [(0, .ref 126), (1, .int x1), (2, .int (nI i)), (3, .int x3)] [] M' Q) : ∀ (k t : Nat) (s : OSt) (M : hp), t + k = (cf i).2.1 → RfO M0 M n D T rn lk L s → WFa n s.1 → ordT n D T rn L (cf i) k s = r → Wp none d 262 150 [(0, .ref 126), (1, .int x1), (2, .int (nI i)), (3, .int (nI t))] [] M Q := by
  have e8 : 8 * nI i = nI (8 * i) := by rw [show (8 : Int32) = nI 8 from rfl, n_mul]
  have e7 : nI (8 * i) + 7 = nI (8 * i + 7) := by rw [show (7 : Int32) = nI 7 from rfl, nI_add]
  have t20 := B.2.1
  intro k
  induction k with
  | zero =>
    intro t s M e A W hr
    unfold ordT at hr
    subst hr
    have F := A.1.F
    rw [m262_150 F (by rw [e8, e7]; exact v96' (by omega)), e8, e7, n_cl (by omega), agr_I A.2.2.2.2.2.1 (a := 152) (by decide), R.2.2.1, k262_163, if_pos (by rw [n_le (by omega) (by omega)]; omega)]
    exact H W M _ A
  | succ k ih =>
    intro t s M e A W hr
    unfold ordT at hr
    have F := A.1.F
    have aa := A.2.2.2.2.2.1
    rw [m262_150 F (by rw [e8, e7]; exact v96' (by omega)), e8, e7, n_cl (by omega), agr_I aa (a := 152) (by decide), R.2.2.1, k262_163, if_neg (by rw [n_le (by omega) (by omega)]; omega), k262_166, e8, m262_171 F]
    refine mRun1 A W (by omega) hlen (mOrdR_cong R (agr_I aa (by decide)) (agr_I aa (by decide)) (agr_I aa (by decide))) B.2.2 (fun s' es M' A' => ?_) (fun es M' A' => ?_)
    · rw [es] at hr
      simp only [oN]
      rw [k262_174, if_pos (by decide), k262_194, nI_1]
      exact ih (t + 1) s' M' (by omega) A' (ord1_WF hn B.1 W es).1 hr
    · rw [es] at hr
      have hr : (.inl s : Sum OSt OSt) = r := hr
      subst hr
      simp only [oN]
      rw [k262_174, if_neg (by decide)]
      exact H M' _ A'
theorem mOrdC {M0 : hp} {n len nc : Nat} {D T : Nat → Int32} {rn lk x1 : Int32} {L : Law} {cf : Nat → Ocl} {r : Sum (Nat × OSt) OSt} (hn : n ≤ 7) (h21 : hI M0 126 21 = nI nc) (hlen : len ≤ 400) (hnc : nc ≤ 12) (R : ∀ j, j < nc → mOrdR M0 len j (cf j)) (B : ∀ j, j < nc → OclOk (cf j)) (H : match r with
    | .inr s' => ∀ M', RfO M0 M' n D T rn lk L s' → Wp none d 262 206 [(0, .ref 126), (1, .int x1), (2, .int (nI nc))] [] M' Q
    | .inl (i, s') => i < nc → ∀ M' x3, RfO M0 M' n D T rn lk L s' → Wp none d 262 177 [(0, .ref 126), (1, .int x1), (2, .int (nI i)), (3, .int x3)] [] M' Q) : ∀ (m i : Nat) (s : OSt) (M : hp), i + m = nc → RfO M0 M n D T rn lk L s → WFa n s.1 → ordC n D T rn L cf m i s = r → Wp none d 262 140 [(0, .ref 126), (1, .int x1), (2, .int (nI i))] [] M Q := by
  intro m
  induction m with
  | zero =>
    intro i s M e A W hr
    unfold ordC at hr
    subst hr
    have F := A.1.F
    have : i = nc := by omega
    subst this
    rw [m262_140 F, A.2.2.2.2.2.2.1 21 (by decide) (by decide) (by decide) (by decide) (by decide) (by decide), h21, k262_145, if_pos (by rw [n_le (by omega) (by omega)]; omega)]
    exact H M A
  | succ m ih =>
    intro i s M e A W hr
    have hi : i < nc := by omega
    have F := A.1.F
    unfold ordC at hr
    rw [m262_140 F, A.2.2.2.2.2.2.1 21 (by decide) (by decide) (by decide) (by decide) (by decide) (by decide), h21, k262_145, if_neg (by rw [n_le (by omega) (by omega)]; omega), k262_148, show (0 : Int32) = nI 0 from rfl]
    refine mOrdT (r := ordT n D T rn L (cf i) (cf i).2.1 s) hn hlen hi hnc (R i hi) (B i hi) ?_ (cf i).2.1 0 s M (by omega) A W rfl
    cases hT : ordT n D T rn L (cf i) (cf i).2.1 s with
    | inr s' =>
      rw [hT] at hr
      intro W' M' x3 A'
      rw [k262_200, nI_1]
      exact ih (i + 1) s' M' (by omega) A' W' hr
    | inl s' =>
      rw [hT] at hr
      have hr : (.inl (i, s') : Sum (Nat × OSt) OSt) = r := hr
      subst hr
      intro M' x3 A'
      exact H hi M' x3 A'
