variable {d : Nat} {M : hp} {Q : Option Value → hp → Prop}
/-! the reader's code -/
theorem dec_op {v o : Nat} (hv : v < 100000) (ho : o < 16) : ((nI v <<< ((4 : Int32) &&& 31)) ||| nI o) &&& 15 = nI o ∧ ((nI v <<< ((4 : Int32) &&& 31)) ||| nI o) >>> ((4 : Int32) &&& 31) = nI v := by
  have e1 : nI v <<< ((4 : Int32) &&& 31) = nI (v * 2 ^ 4) := pk_shlN ((4 : Int32) &&& 31) 4 (by decide) (by omega)
  have e2 : nI (v * 2 ^ 4) ||| nI o = nI (v * 16 + o) := by
    rw [Nat.mul_comm, fa_or_sum (k := 4) v (by omega)]
  rw [e1, e2]
  constructor
  · show nI (v * 16 + o) &&& nI (2 ^ 4 - 1) = nI o
    rw [fa_mask]
    congr 1
    omega
  · rw [pk_shrN (by omega) ((4 : Int32) &&& 31) 4 (by decide)]
    congr 1
    omega
def eItm (num op : Int32) : Int32 := (num <<< ((4 : Int32) &&& 31)) ||| op
def emM (M : hp) (c : Nat) (x : Int32) : hp := sI (sI M 111 c x) 110 2 (nI (c + 1))
theorem emit_ok {c : Nat} {op num : Int32} (F : RXF M) (hc : hI M 110 2 = nI c) (h4 : c + 1 ≤ 400) : Wp none d 87 0 [(0, .ref 110), (1, .int op), (2, .int num)] [] M Q = Q none (emM M c (eItm num op)) := by
  rw [k87_0 F.2.2.2.2.2.2.1 (by rw [F.2.2.2.2.2.2.2.1]; omega), F.2.2.2.2.2.2.2.1, k87_13, hc, T_put F.2.2.2.2.2.2.2.2.2.1 (by omega) (by omega), pI_n (by omega) (by omega)]
  simp only [oZ]
  rw [k87_16 (M := sI M 111 c _) F.2.2.2.2.2.2.1, hI_sI_a (by omega), hc, nI_1, if_neg (by
    show ¬ nI 400 < nI (c + 1)
    rw [n_lt (by omega) (by omega)]
    omega)]
  rfl
theorem pI_agr {a L : Nat} {i v : Int32} {E : List Nat} (h : E.contains a = true) : agr E M (pI M a L i v) := by
  unfold pI
  split
  · exact agr_refl _ _
  · split
    · exact agr_refl _ _
    · exact agr_sI h
theorem emit_any {op num : Int32} (F : RXF M) (hQ : ∀ M', agr [110, 111] M M' → Q none M') : Wp none d 87 0 [(0, .ref 110), (1, .int op), (2, .int num)] [] M Q := by
  rw [k87_0 F.2.2.2.2.2.2.1 (by rw [F.2.2.2.2.2.2.2.1]; omega), F.2.2.2.2.2.2.2.1, k87_13, T_put F.2.2.2.2.2.2.2.2.2.1 (by omega) (by omega)]
  simp only [oZ]
  have a1 : agr [110, 111] M (pI M 111 400 (hI M 110 2) (num <<< ((4 : Int32) &&& 31) ||| op)) := pI_agr (by decide)
  generalize pI M 111 400 (hI M 110 2) (num <<< ((4 : Int32) &&& 31) ||| op) = M1 at *
  rw [k87_16 (by rw [agr_K a1]; exact F.2.2.2.2.2.2.1)]
  exact hQ _ (agr_trans a1 (agr_sI (by decide)))
theorem jump_ok {p : Nat} {op : Int32} (F : RXF M) (hp : p < 400) : Wp none d 88 0 [(0, .ref 110), (1, .int (nI p)), (2, .int op)] [] M Q = Q none (sI M 111 p (eItm (hI M 110 2) op)) := by
  rw [k88_0 F.2.2.2.2.2.2.1 (by rw [F.2.2.2.2.2.2.2.1]; omega), F.2.2.2.2.2.2.2.1, k88_13, T_put F.2.2.2.2.2.2.2.2.2.1 (by omega) (by omega), pI_n hp (by omega)]
  simp only [oZ]
  rw [k88_16]
  rfl
theorem jump_any {p op : Int32} (F : RXF M) (hQ : ∀ M', agr [110, 111] M M' → Q none M') : Wp none d 88 0 [(0, .ref 110), (1, .int p), (2, .int op)] [] M Q := by
  rw [k88_0 F.2.2.2.2.2.2.1 (by rw [F.2.2.2.2.2.2.2.1]; omega), F.2.2.2.2.2.2.2.1, k88_13, T_put F.2.2.2.2.2.2.2.2.2.1 (by omega) (by omega)]
  simp only [oZ]
  rw [k88_16]
  exact hQ _ (pI_agr (by decide))
/-! what reading comes to -/
def nW (o : Bool) : Nat := if o = true then 18 else 9
def RS (M : hp) (b : Nat → Nat) (L : Nat) (o : Bool) (s n k c : Nat) : Prop := RTk M b L s ∧ hI M 109 4 = nI n ∧ hI M 109 5 = nI k ∧ hI M 109 3 = bz (o = true) ∧ hI M 110 2 = nI c ∧ n ≤ 50 ∧ c ≤ s
def ROk (M0 M' : hp) (b : Nat → Nat) (L : Nat) (o : Bool) (s n k c s1 n1 c1 : Nat) (D : Den) : Prop := agr [109, 110, 111] M0 M' ∧ RS M' b L o s1 n1 k c1 ∧ hI M' 109 2 = hI M0 109 2 ∧ hI M' 110 3 = hI M0 110 3 ∧ (∀ i, i < c → hI M' 111 i = hI M0 111 i) ∧ SegC (nW o) (hI M' 111) c c1 (n1 - n) D ∧ s < s1 ∧ n < n1 ∧ c1 + s ≤ c + s1
def RRes (M0 : hp) (b : Nat → Nat) (L : Nat) (o : Bool) (s n k c : Nat) (Q : Option Value → hp → Prop) (r : PR) : Prop := match r with
  | .inl q => ∀ M', agr [109, 110, 111, 112] M0 M' → hI M' 109 2 = nI q → Q (some (.int 0)) M'
  | .inr (s1, n1, D) => ∀ M' c1, ROk M0 M' b L o s n k c s1 n1 c1 D → Q (some (.int 1)) M'
/-- a method at mi reads what part tells -/
def PartOK (b : Nat → Nat) (L : Nat) (o : Bool) (mi dd k : Nat) (part : Nat → Nat → PR) : Prop := ∀ (M : hp) (s n c : Nat) (Q : Option Value → hp → Prop), RXF M → TB M b L → RS M b L o s n k c → RRes M b L o s n k c Q (part s n) → Wp none dd mi 0 [(0, .ref 109)] [] M Q
theorem E4 {M M' : hp} (h : agr [109, 110, 111] M M') : agr [109, 110, 111, 112] M M' := agr_mono h (by
  intro a q
  simp at q ⊢
  omega)
theorem E42 {M M' : hp} (h : agr [110, 111] M M') : agr [109, 110, 111, 112] M M' := agr_mono h (by
  intro a q
  simp at q ⊢
  omega)
theorem RXF_agr {E : List Nat} {M M' : hp} (F : RXF M) (h : agr E M M') : RXF M' := RXF_of F (agr_K h) (agr_R h)
theorem TB_agr {M M' : hp} {b : Nat → Nat} {L : Nat} (T : TB M b L) (h : agr [109, 110, 111, 112] M M') : TB M' b L := TB_of T (agr_I h (by decide)) (agr_I h (by decide))
theorem aSt_agr (M : hp) (s e : Nat) : agr [109] M (aSt M s e) := agr_trans (agr_sI (by decide)) (agr_sI (by decide))
theorem hI_aSt_a {M : hp} {s e a k : Nat} (h : ¬ a = 109) : hI (aSt M s e) a k = hI M a k := by
  unfold aSt
  rw [hI_sI_a h, hI_sI_a h]
theorem hI_aSt_k {M : hp} {s e k : Nat} (h : ¬ k = 6) (h2 : ¬ k = 7) : hI (aSt M s e) 109 k = hI M 109 k := by
  unfold aSt
  rw [hI_sI_k h2, hI_sI_k h]
theorem RS_adv {b : Nat → Nat} {L s n k c s' : Nat} {o : Bool} (R : RS M b L o s n k c) (h : s ≤ s') (h2 : s' ≤ L) : RS (aSt M s' (tkE b L s')) b L o s' n k c := by
  obtain ⟨r1, r2, r3, r4, r5, r6, r7⟩ := R
  refine ⟨aSt_tk h2, ?_, ?_, ?_, ?_, r6, by omega⟩
  · rw [hI_aSt_k (by decide) (by decide)]; exact r2
  · rw [hI_aSt_k (by decide) (by decide)]; exact r3
  · rw [hI_aSt_k (by decide) (by decide)]; exact r4
  · rw [hI_aSt_a (by decide)]; exact r5
theorem hI_emM_c (M : hp) (c : Nat) (x : Int32) : hI (emM M c x) 111 c = x := by
  unfold emM
  rw [hI_sI_a (by omega), hI_sI_s]
theorem hI_emM_o {M : hp} {c i : Nat} {x : Int32} (h : ¬ i = c) : hI (emM M c x) 111 i = hI M 111 i := by
  unfold emM
  rw [hI_sI_a (by omega), hI_sI_k h]
theorem hI_emM_9 (M : hp) (c : Nat) (x : Int32) : hI (emM M c x) 109 = hI M 109 := by
  funext k
  unfold emM
  rw [hI_sI_a (by omega), hI_sI_a (by omega)]
theorem emM_agr (M : hp) (c : Nat) (x : Int32) : agr [109, 110, 111] M (emM M c x) := agr_trans (agr_sI (by decide)) (agr_sI (by decide))
theorem RS_em {b : Nat → Nat} {L s n k c : Nat} {o : Bool} {x : Int32} (R : RS M b L o s n k c) (h : c + 1 ≤ s) : RS (emM M c x) b L o s n k (c + 1) := by
  obtain ⟨r1, r2, r3, r4, r5, r6, r7⟩ := R
  unfold RS RTk at *
  rw [hI_emM_9]
  exact ⟨r1, r2, r3, r4, by unfold emM; rw [hI_sI_s], r6, h⟩
theorem agr_9 {M M' : hp} (h : agr [109] M M') : agr [109, 110, 111] M M' := agr_mono h (by
  intro a q
  simp at q ⊢
  omega)
/-- two, and the operation behind them -/
theorem ROk_bin {M0 M M2 : hp} {b : Nat → Nat} {L s n k c s1 n1 c1 s' s2 n2 c2 oo : Nat} {o : Bool} {D D1 : Den} (h1 : ROk M0 M b L o s n k c s1 n1 c1 D) (hs : s1 < s') (h2 : ROk (aSt M s' (tkE b L s')) M2 b L o s' n1 k c1 s2 n2 c2 D1) (hoo : 2 ≤ oo ∧ oo ≤ 9) (hL : L ≤ 400) : c2 + 1 ≤ 400 ∧ ROk M0 (emM M2 c2 (eItm 0 (nI oo))) b L o s n k c s2 n2 (c2 + 1) (binD (nI oo) D D1) := by
  obtain ⟨a1, a2, a3, a4, a5, a6, a7, a8, a9⟩ := h1
  obtain ⟨b1, b2, b3, b4, b5, b6, b7, b8, b9⟩ := h2
  have hs2 := b2.1.2.2
  have hc1 := a6.1
  have hcs := a2.2.2.2.2.2.2
  have de := dec_op (v := 0) (o := oo) (by omega) (by omega)
  have ne : ∀ j, j < 16 → ¬ j = oo → ¬ nI oo = nI j := fun j q1 q2 => by rw [n_eq (by omega) (by omega)]; omega
  refine ⟨by omega, agr_trans a1 (agr_trans (agr_9 (aSt_agr _ _ _)) (agr_trans b1 (emM_agr _ _ _))), RS_em b2 (by omega), ?_, ?_, ?_, ?_, by omega, by omega, by omega⟩
  · rw [hI_emM_9, b3, hI_aSt_k (by decide) (by decide), a3]
  · unfold emM
    rw [hI_sI_k (by decide), hI_sI_a (by decide), b4, hI_aSt_a (by decide), a4]
  · intro i hi
    rw [hI_emM_o (by have := b6.1; omega), b5 i (by omega), hI_aSt_a (by decide), a5 i hi]
  · have hA : SegC (nW o) (hI (emM M2 c2 (eItm 0 (nI oo))) 111) c c1 (n1 - n) D := SegC_cong a6 (fun j q1 q2 => by
      rw [hI_emM_o (by have := b6.1; omega), b5 j q2, hI_aSt_a (by decide)])
    have hB : SegC (nW o) (hI (emM M2 c2 (eItm 0 (nI oo))) 111) c1 c2 (n2 - n1) D1 := SegC_cong b6 (fun j q1 q2 => by
      rw [hI_emM_o (by omega)])
    have := SegC_bin hA hB (op := nI oo) (by rw [hI_emM_c]; exact de.1) (ne 0 (by omega) (by omega)) (ne 1 (by omega) (by omega)) (ne 10 (by omega) (by omega)) (ne 11 (by omega) (by omega)) (ne 12 (by omega) (by omega)) (by omega) (by omega)
    rw [show n1 - n + (n2 - n1) = n2 - n by omega] at this
    exact this
theorem sg1 {M : hp} {b : Nat → Nat} {L s c : Nat} (F : RXF M) (T : TB M b L) (K : RTk M b L s) (hc : c = 42 ∨ c = 47 ∨ c = 37 ∨ c = 43 ∨ c = 45 ∨ c = 60 ∨ c = 62 ∨ c = 61 ∨ c = 91 ∨ c = 93 ∨ c = 40 ∨ c = 41 ∨ c = 59) : ∀ (d : Nat) (Q : Option Value → hp → Prop), Wp none d 61 0 [(0, .ref 109), (1, .int (nI c))] [] M Q = Q (some (.int (bz (sg b L s c)))) M := by
  intro d Q
  exact isSign_ok F T K (by omega) (decide_eq_false (by omega)) (decide_eq_false (by omega))
theorem sg_lt {b : Nat → Nat} {L s c : Nat} (h : sg b L s c) : s < L := h.1
/-- a term -/
theorem termOK {b : Nat → Nat} {L : Nat} {o : Bool} {dd k : Nat} {part : Nat → Nat → PR} (hP : PartOK b L o 79 dd k part) : PartOK b L o 78 dd k (pTerm b L part) := by
  intro M0 s0 n0 c0 Q F0 T0 R0 H
  have L4 := T0.2.1
  -- behind a fault
  have bad : ∀ (M : hp) (i q : Nat), agr [109, 110, 111, 112] M0 M → hI M 109 2 = nI q → (∀ M', agr [109, 110, 111, 112] M0 M' → hI M' 109 2 = nI q → Q (some (.int 0)) M') → Wp none dd 78 7 [(0, .ref 109), (1, .int 0), (2, .int (nI i))] [] M Q := by
    intro M i q a1 a2 a3
    rw [k78_7, k78_11, k78_14, k78_15, if_pos rfl, k78_98 (Or.inl rfl)]
    split
    · exact a3 M a1 a2
    · exact a3 M a1 a2
  have loop : ∀ (f i s n c : Nat) (D : Den) (M : hp), f + i = 400 → ROk M0 M b L o s0 n0 k c0 s n c D → RRes M0 b L o s0 n0 k c0 Q (loopP b L (mulF b L) part f s n D) → Wp none dd 78 7 [(0, .ref 109), (1, .int 1), (2, .int (nI i))] [] M Q := by
    intro f
    induction f with
    | zero =>
      intro i s n c D M e ok hr
      have : i = 400 := by omega
      subst this
      rw [k78_7, k78_11, if_pos (by decide), k78_98 (Or.inr rfl)]
      exact hr M c ok
    | succ f ih =>
      intro i s n c D M e ok hr
      have F : RXF M := RXF_agr F0 ok.1
      have T : TB M b L := TB_agr T0 (E4 ok.1)
      have K := ok.2.1.1
      have g : ∀ cc, _ → ∀ (d : Nat) (Q : Option Value → hp → Prop), Wp none d 61 0 [(0, .ref 109), (1, .int (nI cc))] [] M Q = Q (some (.int (bz (sg b L s cc)))) M := fun cc h => sg1 (c := cc) F T K h
      have g42 := g 42 (by omega)
      have g47 := g 47 (by omega)
      have g37 := g 37 (by omega)
      rw [k78_7, k78_11, if_neg (by show ¬ nI 400 ≤ nI i; rw [n_le (by omega) (by omega)]; omega), k78_14, k78_15, if_neg (by decide), k78_18, k78_21 F.1, show (42 : Int32) = nI 42 from rfl, g42]
      simp only [oN]
      rw [k78_24, k78_27, k78_30 F.1, show (47 : Int32) = nI 47 from rfl, g47]
      simp only [oN]
      rw [k78_33, k78_36, k78_39 F.1, show (37 : Int32) = nI 37 from rfl, g37]
      simp only [oN]
      rw [k78_42, k78_45, k78_48 F.1, show (42 : Int32) = nI 42 from rfl, g42]
      simp only [oN]
      rw [k78_51, k78_54, k78_58, k78_61 F.1, show (47 : Int32) = nI 47 from rfl, g47]
      simp only [oN]
      rw [k78_64, k78_67, k78_71, k78_98 (Or.inr rfl)]
      -- an operation
      have go : ∀ oo, 4 ≤ oo → oo ≤ 6 → mulO b L s = some (nI oo) → s < L → Wp none dd 78 73 [(0, .ref 109), (1, .int 1), (2, .int (nI i))] [.int (nI oo)] M Q := by
        intro oo h1 h2 hm hsL
        have hnx := nx_gt (b := b) hsL
        have hnl := nx_le (b := b) (Nat.le_of_lt hsL)
        rw [k78_73, k78_75 F.1, RTk_next F T K]
        simp only [oZ]
        have F1 : RXF (aSt M (nx b L s) (tkE b L (nx b L s))) := RXF_agr F (aSt_agr _ _ _)
        have T1 : TB (aSt M (nx b L s) (tkE b L (nx b L s))) b L := TB_agr T (E4 (agr_9 (aSt_agr _ _ _)))
        rw [k78_78, k78_79 F1.1]
        refine hP _ (nx b L s) n c _ F1 T1 (RS_adv ok.2.1 (by omega) hnl) ?_
        have hr2 : RRes M0 b L o s0 n0 k c0 Q (match part (nx b L s) n with
          | .inl q => .inl q
          | .inr (s1, n1, D1) => loopP b L (mulF b L) part f s1 n1 (binD (nI oo) D D1)) := by
          have : loopP b L (mulF b L) part (f + 1) s n D = (match part (nx b L s) n with
            | .inl q => .inl q
            | .inr (s1, n1, D1) => loopP b L (mulF b L) part f s1 n1 (binD (nI oo) D D1)) := by
            show (match mulF b L s with | none => _ | some f' => _) = _
            unfold mulF
            rw [hm]
            rfl
          rw [← this]
          exact hr
        cases hp : part (nx b L s) n with
        | inl q =>
          rw [hp] at hr2
          intro M' a1 a2
          have F2 := RXF_agr F1 a1
          have a3 : agr [109, 110, 111, 112] M0 M' := agr_trans (E4 ok.1) (agr_trans (E4 (agr_9 (aSt_agr _ _ _))) a1)
          simp only [oN]
          rw [k78_82 F2.1 (by rw [F2.2.2.1]; omega), F2.2.2.1, k78_89 F2.2.2.2.2.2.2.1]
          refine emit_any F2 ?_
          intro M3 a4
          simp only [oZ]
          rw [k78_92, nI_1]
          exact bad M3 (i + 1) q (agr_trans a3 (E42 a4)) (by rw [agr_I a4 (by decide)]; exact a2) hr2
        | inr x =>
          obtain ⟨s1, n1, D1⟩ := x
          rw [hp] at hr2
          intro M' c1 ok1
          have F2 := RXF_agr F1 ok1.1
          obtain ⟨q1, q2⟩ := ROk_bin ok hnx ok1 (oo := oo) (by omega) L4
          simp only [oN]
          rw [k78_82 F2.1 (by rw [F2.2.2.1]; omega), F2.2.2.1, k78_89 F2.2.2.2.2.2.2.1, emit_ok F2 ok1.2.1.2.2.2.2.1 q1]
          simp only [oZ]
          rw [k78_92, nI_1]
          exact ih (i + 1) s1 n1 (c1 + 1) _ _ (by omega) q2 hr2
      by_cases z1 : sg b L s 42
      · rw [bz_t z1, if_pos (by decide), if_neg (by decide)]
        exact go 4 (by omega) (by omega) (by unfold mulO; rw [if_pos z1]; rfl) z1.1
      · rw [bz_f z1, if_neg (by decide), if_pos rfl]
        by_cases z2 : sg b L s 47
        · rw [bz_t z2, if_pos (by decide), if_neg (by decide)]
          exact go 5 (by omega) (by omega) (by unfold mulO; rw [if_neg z1, if_pos z2]; rfl) z2.1
        · rw [bz_f z2, if_neg (by decide), if_pos rfl]
          by_cases z3 : sg b L s 37
          · rw [bz_t z3, if_neg (by decide)]
            exact go 6 (by omega) (by omega) (by unfold mulO; rw [if_neg z1, if_neg z2, if_pos z3]; rfl) z3.1
          · rw [bz_f z3, if_pos rfl]
            have hr2 : RRes M0 b L o s0 n0 k c0 Q (.inr (s, n, D)) := by
              have : loopP b L (mulF b L) part (f + 1) s n D = .inr (s, n, D) := by
                show (match mulF b L s with | none => _ | some f' => _) = _
                unfold mulF mulO
                rw [if_neg z1, if_neg z2, if_neg z3]
                rfl
              rw [← this]
              exact hr
            exact hr2 M c ok
  rw [k78_0, k78_1 F0.1]
  refine hP M0 s0 n0 c0 _ F0 T0 R0 ?_
  have H2 : RRes M0 b L o s0 n0 k c0 Q (match part s0 n0 with
    | .inl q => .inl q
    | .inr (s1, n1, D) => loopP b L (mulF b L) part 400 s1 n1 D) := H
  cases hp : part s0 n0 with
  | inl q =>
    rw [hp] at H2
    intro M' a1 a2
    simp only [oN]
    rw [k78_4]
    exact bad M' 0 q a1 a2 H2
  | inr x =>
    obtain ⟨s1, n1, D⟩ := x
    rw [hp] at H2
    intro M' c1 ok
    simp only [oN]
    rw [k78_4]
    exact loop 400 0 s1 n1 c1 D M' (by omega) ok H2
/-- a sum -/
theorem sumOK {b : Nat → Nat} {L : Nat} {o : Bool} {dd k : Nat} {part : Nat → Nat → PR} (hP : PartOK b L o 78 dd k part) : PartOK b L o 77 dd k (chainP b L (addF b L) part) := by
  intro M0 s0 n0 c0 Q F0 T0 R0 H
  have L4 := T0.2.1
  have bad : ∀ (M : hp) (i q : Nat), agr [109, 110, 111, 112] M0 M → hI M 109 2 = nI q → (∀ M', agr [109, 110, 111, 112] M0 M' → hI M' 109 2 = nI q → Q (some (.int 0)) M') → Wp none dd 77 7 [(0, .ref 109), (1, .int 0), (2, .int (nI i))] [] M Q := by
    intro M i q a1 a2 a3
    rw [k77_7, k77_11, k77_14, k77_15, if_pos rfl, k77_75 (Or.inl rfl)]
    split
    · exact a3 M a1 a2
    · exact a3 M a1 a2
  have loop : ∀ (f i s n c : Nat) (D : Den) (M : hp), f + i = 400 → ROk M0 M b L o s0 n0 k c0 s n c D → RRes M0 b L o s0 n0 k c0 Q (loopP b L (addF b L) part f s n D) → Wp none dd 77 7 [(0, .ref 109), (1, .int 1), (2, .int (nI i))] [] M Q := by
    intro f
    induction f with
    | zero =>
      intro i s n c D M e ok hr
      have : i = 400 := by omega
      subst this
      rw [k77_7, k77_11, if_pos (by decide), k77_75 (Or.inr rfl)]
      exact hr M c ok
    | succ f ih =>
      intro i s n c D M e ok hr
      have F : RXF M := RXF_agr F0 ok.1
      have T : TB M b L := TB_agr T0 (E4 ok.1)
      have K := ok.2.1.1
      have g : ∀ cc, _ → ∀ (d : Nat) (Q : Option Value → hp → Prop), Wp none d 61 0 [(0, .ref 109), (1, .int (nI cc))] [] M Q = Q (some (.int (bz (sg b L s cc)))) M := fun cc h => sg1 (c := cc) F T K h
      have g43 := g 43 (by omega)
      have g45 := g 45 (by omega)
      rw [k77_7, k77_11, if_neg (by show ¬ nI 400 ≤ nI i; rw [n_le (by omega) (by omega)]; omega), k77_14, k77_15, if_neg (by decide), k77_18, k77_21 F.1, show (43 : Int32) = nI 43 from rfl, g43]
      simp only [oN]
      rw [k77_24, k77_27, k77_30 F.1, show (45 : Int32) = nI 45 from rfl, g45]
      simp only [oN]
      rw [k77_33, k77_36, k77_39 F.1, show (43 : Int32) = nI 43 from rfl, g43]
      simp only [oN]
      rw [k77_42, k77_45, k77_49, k77_75 (Or.inr rfl)]
      have go : ∀ oo, 2 ≤ oo → oo ≤ 3 → addO b L s = some (nI oo) → s < L → Wp none dd 77 50 [(0, .ref 109), (1, .int 1), (2, .int (nI i))] [.int (nI oo)] M Q := by
        intro oo h1 h2 hm hsL
        have hnx := nx_gt (b := b) hsL
        have hnl := nx_le (b := b) (Nat.le_of_lt hsL)
        rw [k77_50, k77_52 F.1, RTk_next F T K]
        simp only [oZ]
        have F1 : RXF (aSt M (nx b L s) (tkE b L (nx b L s))) := RXF_agr F (aSt_agr _ _ _)
        have T1 : TB (aSt M (nx b L s) (tkE b L (nx b L s))) b L := TB_agr T (E4 (agr_9 (aSt_agr _ _ _)))
        rw [k77_55, k77_56 F1.1]
        refine hP _ (nx b L s) n c _ F1 T1 (RS_adv ok.2.1 (by omega) hnl) ?_
        have hr2 : RRes M0 b L o s0 n0 k c0 Q (match part (nx b L s) n with
          | .inl q => .inl q
          | .inr (s1, n1, D1) => loopP b L (addF b L) part f s1 n1 (binD (nI oo) D D1)) := by
          have : loopP b L (addF b L) part (f + 1) s n D = (match part (nx b L s) n with
            | .inl q => .inl q
            | .inr (s1, n1, D1) => loopP b L (addF b L) part f s1 n1 (binD (nI oo) D D1)) := by
            show (match addF b L s with | none => _ | some f' => _) = _
            unfold addF
            rw [hm]
            rfl
          rw [← this]
          exact hr
        cases hp : part (nx b L s) n with
        | inl q =>
          rw [hp] at hr2
          intro M' a1 a2
          have F2 := RXF_agr F1 a1
          have a3 : agr [109, 110, 111, 112] M0 M' := agr_trans (E4 ok.1) (agr_trans (E4 (agr_9 (aSt_agr _ _ _))) a1)
          simp only [oN]
          rw [k77_59 F2.1 (by rw [F2.2.2.1]; omega), F2.2.2.1, k77_66 F2.2.2.2.2.2.2.1]
          refine emit_any F2 ?_
          intro M3 a4
          simp only [oZ]
          rw [k77_69, nI_1]
          exact bad M3 (i + 1) q (agr_trans a3 (E42 a4)) (by rw [agr_I a4 (by decide)]; exact a2) hr2
        | inr x =>
          obtain ⟨s1, n1, D1⟩ := x
          rw [hp] at hr2
          intro M' c1 ok1
          have F2 := RXF_agr F1 ok1.1
          obtain ⟨q1, q2⟩ := ROk_bin ok hnx ok1 (oo := oo) (by omega) L4
          simp only [oN]
          rw [k77_59 F2.1 (by rw [F2.2.2.1]; omega), F2.2.2.1, k77_66 F2.2.2.2.2.2.2.1, emit_ok F2 ok1.2.1.2.2.2.2.1 q1]
          simp only [oZ]
          rw [k77_69, nI_1]
          exact ih (i + 1) s1 n1 (c1 + 1) _ _ (by omega) q2 hr2
      by_cases z1 : sg b L s 43
      · rw [bz_t z1, if_pos (by decide), if_neg (by decide)]
        exact go 2 (by omega) (by omega) (by unfold addO; rw [if_pos z1]; rfl) z1.1
      · rw [bz_f z1, if_neg (by decide), if_pos rfl]
        by_cases z2 : sg b L s 45
        · rw [bz_t z2, if_neg (by decide)]
          exact go 3 (by omega) (by omega) (by unfold addO; rw [if_neg z1, if_pos z2]; rfl) z2.1
        · rw [bz_f z2, if_pos rfl]
          have hr2 : RRes M0 b L o s0 n0 k c0 Q (.inr (s, n, D)) := by
            have : loopP b L (addF b L) part (f + 1) s n D = .inr (s, n, D) := by
              show (match addF b L s with | none => _ | some f' => _) = _
              unfold addF addO
              rw [if_neg z1, if_neg z2]
              rfl
            rw [← this]
            exact hr
          exact hr2 M c ok
  rw [k77_0, k77_1 F0.1]
  refine hP M0 s0 n0 c0 _ F0 T0 R0 ?_
  have H2 : RRes M0 b L o s0 n0 k c0 Q (match part s0 n0 with
    | .inl q => .inl q
    | .inr (s1, n1, D) => loopP b L (addF b L) part 400 s1 n1 D) := H
  cases hp : part s0 n0 with
  | inl q =>
    rw [hp] at H2
    intro M' a1 a2
    simp only [oN]
    rw [k77_4]
    exact bad M' 0 q a1 a2 H2
  | inr x =>
    obtain ⟨s1, n1, D⟩ := x
    rw [hp] at H2
    intro M' c1 ok
    simp only [oN]
    rw [k77_4]
    exact loop 400 0 s1 n1 c1 D M' (by omega) ok H2
