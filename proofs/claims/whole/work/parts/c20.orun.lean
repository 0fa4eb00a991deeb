variable {d : Nat} {M : hp} {Q : Option Value → hp → Prop}
/-! the reference reckons orders' sums and tests -/
theorem mIsHat_n {n : Nat} {i : Int32} (F : MF M) (h0 : hI M 128 0 = nI n) (n7 : n ≤ 7) : Wp none d 165 0 [(0, .ref 126), (1, .int i)] [] M Q = Q (some (.int (bz (¬ i < 0 ∧ ¬ nI n ≤ i)))) M := by
  rw [m165_0 F (by decide), show (0 : Int32).toNatClampNeg = 0 from rfl, h0, k165_12, mIn]
  simp only [oN]
  rw [k165_15 (bz_or _)]
  have e : ((0 : Int64) ≤ i.toInt64 ∧ i.toInt64 ≤ (nI n).toInt64 - 1) ↔ (¬ i < 0 ∧ ¬ nI n ≤ i) := by
    have h1 : ((0 : Int64) ≤ i.toInt64) ↔ (0 : Int32) ≤ i := by rw [← fa_wide_le]; exact Iff.rfl
    have h2 : (nI n).toInt64 - 1 = (nI n - 1).toInt64 := by
      have : n = 0 ∨ n = 1 ∨ n = 2 ∨ n = 3 ∨ n = 4 ∨ n = 5 ∨ n = 6 ∨ n = 7 := by omega
      rcases this with rfl | rfl | rfl | rfl | rfl | rfl | rfl | rfl <;> decide
    have h3 : (nI n - 1).toInt = (n : Int) - 1 := by
      have : n = 0 ∨ n = 1 ∨ n = 2 ∨ n = 3 ∨ n = 4 ∨ n = 5 ∨ n = 6 ∨ n = 7 := by omega
      rcases this with rfl | rfl | rfl | rfl | rfl | rfl | rfl | rfl <;> decide
    have h4 : (nI n).toInt = (n : Int) := by
      have : n = 0 ∨ n = 1 ∨ n = 2 ∨ n = 3 ∨ n = 4 ∨ n = 5 ∨ n = 6 ∨ n = 7 := by omega
      rcases this with rfl | rfl | rfl | rfl | rfl | rfl | rfl | rfl <;> decide
    rw [h1, h2, fa_wide_le, fa_le, fa_le, fa_lt, fa_le, h3, h4, show (0 : Int32).toInt = 0 from rfl]
    omega
  rw [show bz ((0 : Int64) ≤ i.toInt64 ∧ i.toInt64 ≤ (nI n).toInt64 - 1) = bz (¬ i < 0 ∧ ¬ nI n ≤ i) from by unfold bz; simp only [e]]
/-- the loop over orders' code -/
theorem reck_loopT {M0 : hp} {g n0 : Nat} {Op Arg : Nat → Int32} {e : Nat → Int32} {x1 : Int32} (F0 : MF M0) (h20 : hI M0 126 20 = 1) (hO : ∀ i, i < g → hI M0 137 i = Op i ∧ hI M0 138 i = Arg i) (hset : ∀ k, k < 4 → hL M0 145 (k + 1) = (e k).toInt64) (hn0 : hI M0 128 0 = nI n0) (n7 : n0 ≤ 7) (hPW : ∀ j, j < 7 → (j < n0 → hI M0 128 (7 + j) = e (4 + j) ∧ mny (hI M0 128 (14 + j)) = e (11 + j)) ∧ (¬ j < n0 → e (4 + j) = -1 ∧ e (11 + j) = -1)) (hg : g ≤ 400) : ∀ (m k n go : Nat) (M : hp), g ≤ k + m → k < 2147483648 → n ≤ k → go ≤ k → EA M0 M → hI M 126 38 = 0 → RR M0 Q (rst true Op Arg e (g - k) k (go, n, hL M 146)) → Wp none d 217 10 [(0, .ref 126), (1, .int x1), (2, .int (nI g)), (3, .int (nI n)), (4, .int (nI k))] [] M Q := by
  intro m
  induction m with
  | zero =>
    intro k n go M hm hk hn hgo a h38 H
    have F := MF_agr F0 a.1
    rw [show g - k = 0 by omega] at H
    exact reck_end F a h38 (by omega) (by rw [n_le (by omega) hk]; omega) H
  | succ m ih =>
    intro k n go M hm hk hn hgo a h38 H
    have F := MF_agr F0 a.1
    by_cases hkg : g ≤ k
    · rw [show g - k = 0 by omega] at H
      exact reck_end F a h38 (by omega) (by rw [n_le (by omega) hk]; exact hkg) H
    · have o20 : hI M 126 20 = 1 := (a.2.1 20 (by decide)).trans h20
      have o128 : hI M 128 = hI M0 128 := agr_I a.1 (by decide)
      have o145 : hL M 145 = hL M0 145 := agr_L a.1 (by decide)
      have o137 : hI M 137 = hI M0 137 := agr_I a.1 (by decide)
      have o138 : hI M 138 = hI M0 138 := agr_I a.1 (by decide)
      have oO : hI M 137 k = Op k := by rw [o137]; exact (hO k (by omega)).1
      have oG : hI M 138 k = Arg k := by rw [o138]; exact (hO k (by omega)).2
      rw [k217_10, k217_13, lei (by omega) hk, if_neg hkg, m217_16 F, h38, k217_20, if_neg (fun z => z rfl), m217_23 F, o20, k217_27, if_neg (by decide), m217_30 F (v400 (by omega)), n_cl (by omega), oO, m217_57 F, o20, k217_63, if_neg (by decide), m217_66 F (v400 (by omega)), n_cl (by omega), oG, k217_95, nI_1, k217_104]
      rw [show g - k = (g - (k + 1)) + 1 by omega, rst_s] at H
      have u0 : ¬ ubR true Op Arg k n = true := by
        intro u
        have s1 : r1 true Op Arg e k (go, n, hL M 146) = some (1000000000, 0, hL M 146) := by
          unfold r1
          rw [if_neg (by show ¬ k < go; omega), if_pos u]
        rw [s1] at H
        have H : RR M0 Q (rst true Op Arg e (g - (k + 1)) (k + 1) (1000000000, 0, hL M 146)) := H
        rw [rst_skip (g - (k + 1)) (k + 1) (fun j q1 q2 => by show j < 1000000000; omega)] at H
        have : 1 ≤ 0 := H.1
        omega
      rw [r1_ok u0] at H
      unfold r1v at H
      rw [if_neg (by show ¬ k < go; omega)] at H
      unfold ubR at u0
      by_cases c20 : Op k < 20
      · -- a part
        rw [if_pos c20] at u0 H
        have hl : lfB true (Op k) (Arg k) = true := by
          cases q : lfB true (Op k) (Arg k) with
          | true => rfl
          | false => rw [q] at u0; exact absurd rfl u0
        unfold lfB at hl
        rw [Bool.and_eq_true, Bool.and_eq_true, decide_eq_true_iff, decide_eq_true_iff, if_pos rfl] at hl
        have hl3 := hl.2
        have hl := hl.1
        obtain ⟨w1, w2⟩ := cl_nI hl.1
        have w3 : (Op k).toNatClampNeg ≤ 6 := by
          have q : nI (Op k).toNatClampNeg ≤ nI 6 := by rw [← w1]; exact hl.2
          rw [n_le w2 (by omega)] at q
          exact q
        generalize (Op k).toNatClampNeg = w at w1 w2 w3
        rw [w1] at H hl3 ⊢
        have step : ∀ v, v = lvR true e (nI w) (Arg k) → Wp none d 217 205 [(0, .ref 126), (1, .int x1), (2, .int (nI g)), (3, .int (nI n)), (4, .int (nI (k + 1))), (5, .int (nI w)), (6, .int (Arg k))] [.long v, .int (nI n), .ref 146] M Q := by
          intro v hv
          rw [m217_205 F (by rw [m_K146 F]) (by rw [m_K146 F]; exact v400 (by omega)), n_cl (by omega), k217_206, nI_1, k217_351]
          refine ih (k + 1) (n + 1) go _ (by omega) (by omega) (by omega) (by omega) (EA_trans a EA_L) h38 ?_
          rw [upd_L, hv]
          exact H
        rw [if_neg (by show ¬ nI 20 ≤ nI w; rw [n_le (by omega) w2]; omega), m217_107 F, k217_114]
        by_cases cw : w = 0
        · have ew : nI w = 0 := by rw [cw]; rfl
          rw [if_neg (fun z => z ew), k217_117]
          refine step _ ?_
          unfold lvR
          rw [if_pos ew]
        · have ew : ¬ nI w = 0 := by rw [show (0 : Int32) = nI 0 from rfl, n_eq w2 (by omega)]; exact cw
          rw [if_pos ew, m217_123 F, o20, k217_127, if_pos (by decide), k217_140, k217_143]
          by_cases c5 : w < 5
          · rw [if_neg (by show ¬ nI 5 ≤ nI w; rw [n_le (by omega) w2]; omega), m217_146 F (by rw [vin_n w2]; exact decide_eq_true (by omega)), n_cl w2]
            refine step _ ?_
            unfold lvR
            rw [if_neg ew, if_neg (fun z => by
              have z := z.2
              rw [show (5 : Int32) = nI 5 from rfl, n_eq w2 (by omega)] at z
              omega), if_neg (fun z => by
              have z := z.2
              rw [show (6 : Int32) = nI 6 from rfl, n_eq w2 (by omega)] at z
              omega), n_cl w2, o145]
            have := hset (w - 1) (by omega)
            rw [show w - 1 + 1 = w by omega] at this
            exact this
          · have w56 : w = 5 ∨ w = 6 := by omega
            have ha : (0 : Int32) ≤ Arg k ∧ Arg k ≤ 6 := by
              have z : ¬ nI w < 5 := by show ¬ nI w < nI 5; rw [n_lt w2 (by omega)]; omega
              rw [decide_eq_false z, show (!true || false) = false from rfl, Bool.false_or, Bool.and_eq_true, decide_eq_true_iff, decide_eq_true_iff] at hl3
              exact hl3
            obtain ⟨y1, y2⟩ := cl_nI ha.1
            have y3 : (Arg k).toNatClampNeg ≤ 6 := by
              have q : nI (Arg k).toNatClampNeg ≤ nI 6 := by rw [← y1]; exact ha.2
              rw [n_le y2 (by omega)] at q
              exact q
            generalize (Arg k).toNatClampNeg = ag at y1 y2 y3
            rw [y1] at step ⊢
            have hj := hPW ag (by omega)
            have e7 : (7 : Int32) + nI ag = nI (7 + ag) := by rw [show (7 : Int32) = nI 7 from rfl, nI_add]
            have e14 : (14 : Int32) + nI ag = nI (14 + ag) := by rw [show (14 : Int32) = nI 14 from rfl, nI_add]
            have lv : lvR true e (nI w) (nI ag) = if w = 5 then (e (4 + ag)).toInt64 else (e (11 + ag)).toInt64 := by
              unfold lvR
              rw [if_neg ew, n_cl y2]
              rcases w56 with rfl | rfl
              · rw [if_pos ⟨rfl, rfl⟩, if_pos rfl]
              · rw [if_neg (fun z => absurd z.2 (by decide)), if_pos ⟨rfl, rfl⟩, if_neg (by decide)]
            rw [if_pos (by show nI 5 ≤ nI w; rw [n_le (by omega) w2]; omega), k217_156, m217_159 F, mIsHat_n F ((congrFun o128 0).trans hn0) n7]
            simp only [oM]
            rw [k217_162]
            by_cases ch : ag < n0
            · rw [bz_t (show ¬ nI ag < 0 ∧ ¬ nI n0 ≤ nI ag from ⟨nI_pos (by omega), by rw [n_le (by omega) y2]; omega⟩), if_pos (by decide), k217_171, k217_174]
              rcases w56 with rfl | rfl
              · rw [if_neg (fun z => z rfl), m217_177 F (by rw [e7]; exact v54 (by omega)), e7, n_cl (by omega), o128, (hj.1 ch).1]
                refine step _ ?_
                rw [lv, if_pos rfl]
              · rw [if_pos (by decide), m217_191 F (by rw [e14]; exact v54 (by omega)), e14, n_cl (by omega), o128, k217_201, mMany]
                simp only [oM]
                rw [k217_204, (hj.1 ch).2]
                refine step _ ?_
                rw [lv, if_neg (by decide)]
            · rw [bz_f (show ¬ (¬ nI ag < 0 ∧ ¬ nI n0 ≤ nI ag) from fun z => z.2 (by rw [n_le (by omega) y2]; omega)), if_neg (fun z => z rfl), k217_165]
              refine step _ ?_
              rw [lv, (hj.2 ch).1, (hj.2 ch).2]
              split <;> rfl
      · rw [if_neg c20] at u0 H
        have n20 : nI 20 ≤ Op k := by
          show (20 : Int32) ≤ Op k
          rw [fa_le]
          rw [fa_lt] at c20
          omega
        have p0 : (0 : Int32) ≤ Op k := by
          have q : (20 : Int32) ≤ Op k := n20
          rw [fa_le] at q ⊢
          have q1 : (20 : Int32).toInt = 20 := by decide
          have q2 : (0 : Int32).toInt = 0 := by decide
          omega
        rw [if_pos (show (20 : Int32) ≤ Op k from n20), k217_212, k217_216]
        obtain ⟨w1, w2⟩ := cl_nI p0
        by_cases c28 : Op k < 28
        · -- two parts joined
          rw [if_pos c28] at u0 H
          have hn2 : 2 ≤ n := by
            rw [decide_eq_true_iff] at u0
            omega
          generalize (Op k).toNatClampNeg = v at w1 w2
          have hv : 20 ≤ v ∧ v < 28 := by
            constructor
            · have q := n20
              rw [w1, n_le (by omega) w2] at q
              exact q
            · have q : nI v < nI 28 := by rw [← w1]; exact c28
              rw [n_lt w2 (by omega)] at q
              exact q
          have e18 : Op k - 18 = nI (v - 18) := by rw [w1]; show nI v - nI 18 = _; rw [n_sub (by omega)]
          rw [e18] at H
          rw [w1, if_neg (by show ¬ nI 28 ≤ nI v; rw [n_le (by omega) w2]; omega)]
          have em1 : nI n + -1 = nI (n - 1) := by rw [← n_sub (by omega)]; exact (Int32.sub_eq_add_neg _ _).symm
          have em2 : nI (n - 1) - 1 = nI (n - 2) := by rw [show (1 : Int32) = nI 1 from rfl, n_sub (by omega)]; rfl
          rw [m217_219 F (by rw [em1, em2]; exact v400 (by omega)) (by rw [em1]; exact v400 (by omega)), em1, em2, n_cl (by omega), n_cl (by omega), m217_246 F, mReckon F h38 hv]
          have H : RR M0 Q (match (if joinB (nI (v - 18)) (hL M 146 (n - 2)) (hL M 146 (n - 1)) = true then none else some (go, n - 1, upd64 (hL M 146) (n - 2) (joinV (nI (v - 18)) (hL M 146 (n - 2)) (hL M 146 (n - 1)))) : Option rse) with
            | none => none
            | some y => rst true Op Arg e (g - (k + 1)) (k + 1) y) := H
          generalize ea : hL M 146 (n - 2) = A1 at *
          generalize eb : hL M 146 (n - 1) = B1 at *
          have jb := jB (a := A1) (b := B1) hv
          generalize ev : joinV (nI (v - 18)) A1 B1 = V at *
          simp only [oM]
          by_cases cb : (v = 23 ∨ v = 24) ∧ B1 = 0
          · have eM : brk M v B1 = sI M 126 38 1 := if_pos cb
            have Fb : MF (sI M 126 38 1) := F
            have Fc : MF (sL (sI M 126 38 1) 146 (n - 2) V) := F
            rw [if_pos (jb.mpr (Or.inl cb))] at H
            rw [eM, m217_249 Fb (by rw [m_K146 Fb]) (by rw [m_K146 Fb]; exact v400 (by omega)), n_cl (by omega), m217_250 Fc, show hI (sL (sI M 126 38 1) 146 (n - 2) V) 126 38 = 1 from (show hI (sI M 126 38 1) 126 38 = 1 from hI_sI_s _ _ _ _), k217_255, if_pos (by decide), k217_278, m217_283 Fc (Or.inr rfl), k217_351]
            exact reck_bad Fc (EA_trans a (EA_trans EA_38 (EA_trans EA_L EA_38))) (hI_sI_s _ _ _ _) H
          · have eM : brk M v B1 = M := if_neg cb
            have Fc : MF (sL M 146 (n - 2) V) := F
            rw [eM, m217_249 F (by rw [m_K146 F]) (by rw [m_K146 F]; exact v400 (by omega)), n_cl (by omega), m217_250 Fc, show hI (sL M 146 (n - 2) V) 126 38 = 0 from h38, k217_255, if_neg (fun z => z rfl), m217_258 Fc (by rw [em2]; exact v400 (by omega)), em2, n_cl (by omega), hL_sL_s, k217_272, mIn]
            simp only [oM]
            rw [k217_275]
            by_cases cr : -1000000000 ≤ V ∧ V ≤ 1000000000
            · rw [if_neg (fun z => by
                rcases jb.mp z with q | q
                · exact cb q
                · exact q cr)] at H
              rw [bz_t cr, if_pos (by decide), k217_282, m217_283 Fc (Or.inl rfl), sI_38 (M := sL M 146 (n - 2) V) h38, k217_351]
              refine ih (k + 1) (n - 1) go _ (by omega) (by omega) (by omega) (by omega) (EA_trans a EA_L) h38 ?_
              rw [upd_L]
              exact H
            · rw [if_pos (jb.mpr (Or.inr cr))] at H
              rw [bz_f cr, if_neg (fun z => z rfl), k217_278, m217_283 Fc (Or.inr rfl), k217_351]
              exact reck_bad Fc (EA_trans a (EA_trans EA_L EA_38)) (hI_sI_s _ _ _ _) H
        · rw [if_neg c28] at u0 H
          have n28 : (28 : Int32) ≤ Op k := by
            rw [fa_le]
            rw [fa_lt] at c28
            omega
          rw [if_pos n28, k217_289, k217_293]
          by_cases c : Op k = 28
          · rw [if_pos c] at u0 H
            have hn1 : 1 ≤ n := by
              rw [decide_eq_true_iff] at u0
              omega
            have em : nI n - 1 = nI (n - 1) := by rw [show (1 : Int32) = nI 1 from rfl, n_sub (by omega)]
            rw [if_neg (fun z => z c), m217_296 F (by rw [em]; exact v400 (by omega)), em, n_cl (by omega), k217_351]
            refine ih (k + 1) n go _ (by omega) (by omega) (by omega) (by omega) (EA_trans a EA_L) h38 ?_
            rw [upd_L]
            exact H
          · rw [if_neg c] at u0 H
            rw [decide_eq_true_iff] at u0
            have hn1 : 1 ≤ n := by omega
            have ha : k < (Arg k).toNatClampNeg := by omega
            have g0 : (0 : Int32) ≤ Arg k := by
              have q1 : (Arg k).toNatClampNeg = (Arg k).toInt.toNat := rfl
              have q2 : (0 : Int32).toInt = 0 := by decide
              rw [fa_le]
              omega
            obtain ⟨y1, y2⟩ := cl_nI g0
            have em : nI n - 1 = nI (n - 1) := by rw [show (1 : Int32) = nI 1 from rfl, n_sub (by omega)]
            have em1 : nI n + -1 = nI (n - 1) := by rw [← n_sub (by omega)]; exact (Int32.sub_eq_add_neg _ _).symm
            have H : RR M0 Q (match (if hL M 146 (n - 1) = (if Op k = 29 then 0 else 1) then some ((Arg k).toNatClampNeg, n, hL M 146) else some (go, n - 1, hL M 146) : Option rse) with
              | none => none
              | some y => rst true Op Arg e (g - (k + 1)) (k + 1) y) := H
            have fin : ∀ t : Int64, t = (if Op k = 29 then 0 else 1) → Wp none d 217 337 [(0, .ref 126), (1, .int x1), (2, .int (nI g)), (3, .int (nI n)), (4, .int (nI (k + 1))), (5, .int (Op k)), (6, .int (Arg k))] [.long t, .long (hL M 146 (n - 1))] M Q := by
              intro t ht
              rw [← ht] at H
              rw [k217_337, k217_338]
              simp only [lg_cmp_eq]
              by_cases ct : hL M 146 (n - 1) = t
              · rw [if_pos ct] at H
                rw [if_neg (fun z => z ct), k217_341, k217_351, y1]
                have H : RR M0 Q (rst true Op Arg e (g - (k + 1)) (k + 1) ((Arg k).toNatClampNeg, n, hL M 146)) := H
                refine ih (Arg k).toNatClampNeg n (Arg k).toNatClampNeg M (by omega) y2 (by omega) (Nat.le_refl _) a h38 ?_
                by_cases cg : (Arg k).toNatClampNeg ≤ g
                · rw [rst_two (f := k + 1) (m := (Arg k).toNatClampNeg) (g := g) (by omega) cg, rst_skip _ _ (fun j q1 q2 => by show j < (Arg k).toNatClampNeg; omega)] at H
                  exact H
                · rw [rst_skip _ _ (fun j q1 q2 => by show j < (Arg k).toNatClampNeg; omega)] at H
                  rw [show g - (Arg k).toNatClampNeg = 0 by omega]
                  exact H
              · rw [if_neg ct] at H
                rw [if_pos ct, k217_348, em1, k217_351]
                exact ih (k + 1) (n - 1) go M (by omega) (by omega) (by omega) (by omega) a h38 H
            rw [if_pos c, m217_317 F (by rw [em]; exact v400 (by omega)), em, n_cl (by omega), k217_329]
            by_cases c9 : Op k = 29
            · rw [if_neg (fun z => z c9), k217_332]
              exact fin 0 (by rw [if_pos c9])
            · rw [if_pos c9, k217_336]
              exact fin 1 (by rw [if_neg c9])
