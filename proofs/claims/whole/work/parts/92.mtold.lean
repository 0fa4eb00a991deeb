variable {d : Nat} {M : hp} {Q : Option Value → hp → Prop}
/-! what a law tells, in the reference: the last clause that holds -/
theorem mToldL {M0 : hp} {A len nc : Nat} {cf : Nat → Cls} {e : Nat → Int32} {x1 x2 x3 x4 : Int32} {x5 : Int64} (F0 : MF M0) (E0 : EvH M0 A e) (hlen : len ≤ 400) (hnc : nc ≤ 12) (h1 : hI M0 128 (A + 1) = nI nc) (hr : ∀ i, i < nc → rowR M0 A len i (cf i)) (H : ∀ M', EB M0 M' → Q (some (.long ((ansI cf x1 e nc).getD x5))) M') : ∀ (m i : Nat) (M : hp), i + m = nc → EB M0 M → Wp none d 219 171 [(0, .ref 126), (1, .int x1), (2, .int x2), (3, .int x3), (4, .int x4), (5, .long x5), (7, .long ((ansI cf x1 e i).getD x5)), (9, .int (nI i))] [] M Q := by
  have hA := E0.2.2.1
  intro m
  induction m with
  | zero =>
    intro i M hi b
    have F := MF_agr F0 b.1
    have E := EvH_EB E0 b
    have e1 : nI A + 1 = nI (A + 1) := by rw [nI_1]
    have hc : hI M 128 (A + 1) = nI nc := by rw [agr_I b.1 (by decide)]; exact h1
    have : i = nc := by omega
    subst this
    rw [m219_171 F (by rw [E.2.1, e1]; exact v54 (by omega)), E.2.1, e1, n_cl (by omega), hc, k219_184, lei (by omega) (by omega), if_pos (Nat.le_refl _), k219_242]
    exact H M b
  | succ m ih =>
    intro i M hi b
    have F := MF_agr F0 b.1
    have E := EvH_EB E0 b
    have e1 : nI A + 1 = nI (A + 1) := by rw [nI_1]
    have e8 : nI A + 2 + 8 * nI i = nI (A + 2 + 8 * i) := by rw [show (2 : Int32) = nI 2 from rfl, show (8 : Int32) = nI 8 from rfl, n_mul, nI_add, nI_add]
    have hc : hI M 128 (A + 1) = nI nc := by rw [agr_I b.1 (by decide)]; exact h1
    have r := rowR_EB (hr i (by omega)) b
    have nxt : ∀ (M1 : hp) (v : Int64), EB M0 M1 → v = (ansI cf x1 e (i + 1)).getD x5 → Wp none d 219 236 [(0, .ref 126), (1, .int x1), (2, .int x2), (3, .int x3), (4, .int x4), (5, .long x5), (7, .long v), (9, .int (nI i)), (10, .int (nI (A + 2 + 8 * i)))] [] M1 Q := by
      intro M1 v b1 hv
      rw [k219_236, nI_1, hv]
      exact ih (i + 1) M1 (by omega) b1
    rw [m219_171 F (by rw [E.2.1, e1]; exact v54 (by omega)), E.2.1, e1, n_cl (by omega), hc, k219_184, lei (by omega) (by omega), if_neg (by omega), m219_187 F (by rw [E.2.1, e8]; exact v54 (by omega)), E.2.1, e8, n_cl (by omega), r.1, k219_209]
    by_cases c1 : (cf i).1 = x1
    · rw [if_neg (fun z => z c1), k219_212, m219_215 F]
      refine mIsSo F E hlen (by omega) r ?_ ?_
      · intro h M' b1
        simp only [oN]
        rw [k219_218, if_pos rfl]
        refine nxt M' _ (EB_trans b b1) ?_
        show _ = (if (cf i).1 = x1 ∧ ¬ ((cf i).2.2 e).getD 0 = 0 ∧ ¬ (cf i).2.1 e = none then (cf i).2.1 e else ansI cf x1 e i).getD x5
        rw [if_neg]
        intro z
        rcases h with h | h
        · exact z.2.1 h
        · exact z.2.2 h
      · intro w hw hd M' b1 h40
        have F' := MF_agr F b1.1
        have ea : (ansI cf x1 e (i + 1)).getD x5 = w := by
          show (if (cf i).1 = x1 ∧ ¬ ((cf i).2.2 e).getD 0 = 0 ∧ ¬ (cf i).2.1 e = none then (cf i).2.1 e else ansI cf x1 e i).getD x5 = w
          rw [if_pos ⟨c1, hw, by rw [hd]; intro z; cases z⟩, hd]
          rfl
        simp only [oN]
        rw [k219_218, if_neg (by decide), k219_221, k219_223]
        by_cases c2 : x1 = 2
        · rw [if_neg (fun z => z c2), k219_226, k219_234]
          refine nxt M' _ (EB_trans b b1) ?_
          rw [ea]
          rcases r.2.1 with q | q
          · rw [q.2] at hd
            have hd : some (1 : Int64) = some w := hd
            cases hd
            rfl
          · exact absurd (c1.trans c2) q.1
        · rw [if_pos c2, m219_230 F', k219_234]
          refine nxt M' _ (EB_trans b b1) ?_
          rw [ea]
          exact h40 (fun z => c2 (c1.symm.trans z))
    · rw [if_pos c1]
      refine nxt M _ b ?_
      show _ = (if (cf i).1 = x1 ∧ ¬ ((cf i).2.2 e).getD 0 = 0 ∧ ¬ (cf i).2.1 e = none then (cf i).2.1 e else ansI cf x1 e i).getD x5
      rw [if_neg (fun z => c1 z.1)]
