variable {d : Nat} {M : hp} {Q : Option Value → hp → Prop}
/-! an hour in the reference -/
def EX (E : List Nat) (M0 M' : hp) : Prop := agr (126 :: 144 :: 146 :: E) M0 M' ∧ (∀ k, ¬ k = 34 → ¬ k = 38 → hI M' 126 k = hI M0 126 k) ∧ (∀ k, ¬ k = 39 → ¬ k = 40 → hL M' 126 k = hL M0 126 k)
theorem EX_refl (E : List Nat) (M : hp) : EX E M M := ⟨agr_refl _ _, fun _ _ _ => rfl, fun _ _ _ => rfl⟩
theorem EX_trans {E : List Nat} {M M1 M2 : hp} (h : EX E M M1) (h2 : EX E M1 M2) : EX E M M2 := ⟨agr_trans h.1 h2.1, fun k q q2 => (h2.2.1 k q q2).trans (h.2.1 k q q2), fun k q q2 => (h2.2.2 k q q2).trans (h.2.2 k q q2)⟩
theorem EX_EC {E : List Nat} {M M1 : hp} (h : EC M M1) : EX E M M1 := ⟨agr_mono h.1 (by intro x q; simp at q ⊢; omega), h.2⟩
theorem EX_mono {E E' : List Nat} {M M1 : hp} (h : EX E M M1) (hs : ∀ a, E.contains a = true → E'.contains a = true) : EX E' M M1 := ⟨agr_mono h.1 (by
  intro x q
  have := hs x
  simp only [List.contains_cons, Bool.or_eq_true] at q ⊢
  rcases q with q | q | q | q
  · exact Or.inl q
  · exact Or.inr (Or.inl q)
  · exact Or.inr (Or.inr (Or.inl q))
  · exact Or.inr (Or.inr (Or.inr (this q)))), h.2⟩
theorem EX_sI {E : List Nat} {M : hp} {a k : Nat} {v : Int32} (ha : E.contains a = true) (h6 : ¬ a = 126) : EX E M (sI M a k v) := ⟨agr_sI (by simp only [List.contains_cons, ha, Bool.or_true]), fun _ _ _ => by rw [hI_sI_a (fun q => h6 q.symm)], fun _ _ _ => rfl⟩
theorem EX_sIs {E : List Nat} {M : hp} {a m n : Nat} {g : Nat → Int32} (ha : E.contains a = true) (h6 : ¬ a = 126) : EX E M (sIs M a m n g) := ⟨agr_sIs (by simp only [List.contains_cons, ha, Bool.or_true]), fun _ _ _ => by rw [hI_sIs_a (fun q => h6 q.symm)], fun _ _ _ => rfl⟩
theorem RP_EX {M0 : hp} {n : Nat} {D T P W : Nat → Int32} {hr rn : Int32} {L : Law} {E : List Nat} (X : RP M0 n D T P W hr rn L) (b : EX E M0 M) (h : E.contains 128 = false) : RP M n D T P W hr rn L :=
  RP_of X (MF_agr X.F b.1) (agr_I b.1 (by simp only [List.contains_cons, h]; decide)) ((b.2.1 20 (by decide) (by decide)).trans X.o20) ((b.2.1 0 (by decide) (by decide)).trans X.o0)
theorem v7 {j : Nat} (h : j < 7) : vin (nI j) 7 = true := by
  rw [vin_n (by omega)]
  exact decide_eq_true h
/-- what comes to a hat from those beside it -/
def nrF (F : Nat → Nat → Int32) (P : Nat → Int32) (o : Nat) (h : Nat) (x : Int32) : Int32 := x ||| (if ¬ h = o ∧ bsd P h o then F h o else 0)
def nrG (F : Nat → Nat → Int32) (P : Nat → Int32) (n o : Nat) : Int32 := fo (nrF F P o) 0 n 0
theorem pi_in {n o : Nat} {D T P W : Nat → Int32} {hr rn : Int32} {L : Law} {M1 : hp} (X1 : RP M1 n D T P W hr rn L) (ho : o < n) (K : ∀ M', EX [147] M1 M' → hI M' 147 o = nrG (toldG L D T W hr rn) P n o → (∀ j, ¬ j = o → hI M' 147 j = hI M1 147 j) → Wp none d 232 70 [(0, .ref 126), (1, .int (nI o)), (2, .int (nI n))] [] M' Q) : ∀ (k h : Nat) (x : Int32) (M : hp), h + k = n → EX [147] M1 M → hI M 147 o = x → (∀ j, ¬ j = o → hI M 147 j = hI M1 147 j) → fo (nrF (toldG L D T W hr rn) P o) h k x = nrG (toldG L D T W hr rn) P n o → Wp none d 232 21 [(0, .ref 126), (1, .int (nI o)), (2, .int (nI h))] [] M Q := by
  have n7 := X1.n7
  intro k
  induction k with
  | zero =>
    intro h x M e b hx hj hf
    have X := RP_EX X1 b rfl
    have : h = n := by omega
    subst this
    rw [m232_21 X.F (by decide), show (0 : Int32).toNatClampNeg = 0 from rfl, X.n0, k232_28, if_pos (by rw [n_le (by omega) (by omega)]; omega)]
    exact K M b (hx.trans hf) hj
  | succ k ih =>
    intro h x M e b hx hj hf
    have X := RP_EX X1 b rfl
    have fin : ∀ (v : Int32) (M2 : hp), EC M M2 → v = (if ¬ h = o ∧ bsd P h o then toldG L D T W hr rn h o else 0) → Wp none d 232 62 [(0, .ref 126), (1, .int (nI o)), (2, .int (nI h))] [.int v, .int x, .int (nI o), .ref 147] M2 Q := by
      intro v M2 b2 hv
      have X2 := RP_EC X b2
      rw [m232_62 X2.F (by rw [m_K147 X2.F]) (by rw [m_K147 X2.F]; exact v7 (by omega)), n_cl (by omega), k232_64, nI_1]
      refine ih (h + 1) (x ||| v) _ (by omega) (EX_trans b (EX_trans (EX_EC b2) (EX_sI (by decide) (by decide)))) (hI_sI_s _ _ _ _) (fun j q => ?_) ?_
      · rw [hI_sI_k q, agr_I b2.1 (by decide)]
        exact hj j q
      · rw [hv]
        exact hf
    rw [m232_21 X.F (by decide), show (0 : Int32).toNatClampNeg = 0 from rfl, X.n0, k232_28, if_neg (by rw [n_le (by omega) (by omega)]; omega), m232_31 X.F (v7 (by omega)), n_cl (by omega), hx, k232_40]
    by_cases c : h = o
    · rw [if_pos (by rw [c]), k232_61]
      exact fin 0 M (EC_refl M) (by rw [if_neg (fun q => q.1 c)])
    · rw [if_neg (by rw [n_eq (by omega) (by omega)]; exact c), k232_43, k232_46 (m_9 X.F), mBeside X (by omega) (by omega)]
      simp only [oM]
      rw [k232_49]
      by_cases c2 : bsd P h o
      · rw [if_neg (by rw [bz_eq0]; exact fun q => q c2), k232_52, k232_55 (m_9 X.F)]
        refine mToldBy X (by omega) (by omega) (fun M2 b2 => ?_)
        simp only [oM]
        rw [k232_58]
        exact fin _ M2 b2 (by rw [if_pos ⟨c, c2⟩])
      · rw [if_pos (by rw [bz_eq0]; exact c2), k232_61]
        exact fin 0 M (EC_refl M) (by rw [if_neg (fun q => c2 q.2)])
theorem pi_out {n : Nat} {D T P W : Nat → Int32} {hr rn : Int32} {L : Law} {M0 : hp} (X0 : RP M0 n D T P W hr rn L) (K : ∀ M', EX [147] M0 M' → (∀ j, j < n → hI M' 147 j = nrG (toldG L D T W hr rn) P n j) → Wp none d 232 76 [(0, .ref 126), (1, .int (nI n))] [] M' Q) : ∀ (k o : Nat) (M : hp), o + k = n → EX [147] M0 M → (∀ j, j < o → hI M 147 j = nrG (toldG L D T W hr rn) P n j) → Wp none d 232 2 [(0, .ref 126), (1, .int (nI o))] [] M Q := by
  have n7 := X0.n7
  intro k
  induction k with
  | zero =>
    intro o M e b hj
    have X := RP_EX X0 b rfl
    have : o = n := by omega
    subst this
    rw [m232_2 X.F (by decide), show (0 : Int32).toNatClampNeg = 0 from rfl, X.n0, k232_9, if_pos (by rw [n_le (by omega) (by omega)]; omega)]
    exact K M b hj
  | succ k ih =>
    intro o M e b hj
    have X := RP_EX X0 b rfl
    rw [m232_2 X.F (by decide), show (0 : Int32).toNatClampNeg = 0 from rfl, X.n0, k232_9, if_neg (by rw [n_le (by omega) (by omega)]; omega), m232_12 X.F (v7 (by omega)), n_cl (by omega), k232_19]
    have b1 : EX [147] M (sI M 147 o 0) := EX_sI (by decide) (by decide)
    refine pi_in (M1 := sI M 147 o 0) (RP_EX X b1 rfl) (by omega) (fun M' b' ho hn => ?_) n 0 0 _ (by omega) (EX_refl _ _) (hI_sI_s _ _ _ _) (fun _ _ => rfl) rfl
    rw [k232_70, nI_1]
    refine ih (o + 1) M' (by omega) (EX_trans b (EX_trans b1 b')) (fun j q => ?_)
    by_cases c : j = o
    · rw [c]; exact ho
    · rw [hn j c, hI_sI_k c]
      exact hj j (by omega)
theorem rowR_47 {M' : hp} {A len i : Nat} {x : Cls} (h : rowR M A len i x) (hA : 47 ≤ A) (e : ∀ l, 47 ≤ l → hI M' 128 l = hI M 128 l) : rowR M' A len i x := by
  have eO : rOp M' A = rOp M A := by funext j; exact e _ (by omega)
  have eA : rArg M' A = rArg M A := by funext j; exact e _ (by omega)
  unfold rowR at h ⊢
  rw [eO, eA, e _ (by omega), e _ (by omega), e _ (by omega), e _ (by omega), e _ (by omega)]
  exact h
theorem MLaw_47 {M' : hp} {L : Law} (h : MLaw M L) (e3 : hI M' 128 3 = hI M 128 3) (e : ∀ l, 47 ≤ l → hI M' 128 l = hI M 128 l) : MLaw M' L := by
  cases L with
  | none => exact e3.trans h
  | some y =>
    obtain ⟨nc, cf⟩ := y
    obtain ⟨n, len, h3, hn6, hlen, hnc, h1, hr⟩ : ∃ n len, hI M 128 3 = nI n ∧ n < 6 ∧ len ≤ 400 ∧ nc ≤ 12 ∧ hI M 128 (47 + 900 * n + 1) = nI nc ∧ ∀ i, i < nc → rowR M (47 + 900 * n) len i (cf i) := h
    exact ⟨n, len, e3.trans h3, hn6, hlen, hnc, (e _ (by omega)).trans h1, fun i hi => rowR_47 (hr i hi) (by omega) e⟩
theorem mPassIt {n : Nat} {D T P W : Nat → Int32} {hr rn : Int32} {L : Law} (X : RP M n D T P W hr rn L) (H : ∀ M', EX [147, 128] M M' → RP M' n D T P (fun j => if j < n then W j ||| nrG (toldG L D T W hr rn) P n j else W j) (hr + 1) rn L → (∀ l, ¬ l = 4 → ¬ (14 ≤ l ∧ l < 21) → hI M' 128 l = hI M 128 l) → Q (some (.int (lrnF (nrG (toldG L D T W hr rn) P n) n))) M') : Wp none d 232 0 [(0, .ref 126)] [] M Q := by
  have n7 := X.n7
  rw [k232_0]
  refine pi_out X (fun M1 b1 h1 => ?_) n 0 M (by omega) (EX_refl _ _) (fun j q => absurd q (by omega))
  have X1 := RP_EX X b1 rfl
  let g : Nat → Int32 := fun j => hI M1 128 (14 + j) ||| hI M1 147 j
  have key := for_up (W := fun i s => Wp none d 232 80 [(0, .ref 126), (1, .int s), (2, .int (nI i))] [] (sIs M1 128 14 i g) Q) (f := fun j s => s + mny (hI M1 147 j)) (n := n) (fun i s hi => by
    have e : (14 : Int32) + nI i = nI (14 + i) := by rw [show (14 : Int32) = nI 14 from rfl, nI_add]
    have F' : MF (sIs M1 128 14 i g) := X1.F
    have F2 : MF (sIs M1 128 14 (i + 1) g) := X1.F
    show Wp none d 232 80 [(0, .ref 126), (1, .int s), (2, .int (nI i))] [] (sIs M1 128 14 i g) Q = Wp none d 232 80 [(0, .ref 126), (1, .int (s + mny (hI M1 147 i))), (2, .int (nI (i + 1)))] [] (sIs M1 128 14 (i + 1) g) Q
    rw [m232_80 F' (by decide), show (0 : Int32).toNatClampNeg = 0 from rfl, hI_sIs_k (by omega), X1.n0, k232_87, if_neg (by rw [n_le (by omega) (by omega)]; omega), m232_90 F' (by rw [e]; exact v54 (by omega)) (v7 (by omega)), e, n_cl (by omega), n_cl (by omega), hI_sIs_k (by omega), hI_sIs_a (a' := 147) (by decide), show hI M1 128 (14 + i) ||| hI M1 147 i = g i from rfl, sIs_1, m232_108 F2 (v7 (by omega)), n_cl (by omega), hI_sIs_a (a' := 147) (by decide), k232_115, mMany]
    simp only [oM]
    rw [k232_118, nI_1]) n 0 0 (by omega)
  have F3 : MF (sIs M1 128 14 n g) := X1.F
  rw [k232_76]
  have key2 : Wp none d 232 80 [(0, .ref 126), (1, .int 0), (2, .int 0)] [] M1 Q = Wp none d 232 80 [(0, .ref 126), (1, .int (fo (fun j s => s + mny (hI M1 147 j)) 0 n 0)), (2, .int (nI n))] [] (sIs M1 128 14 n g) Q := by
    have := key
    simp only [sIs_0] at this
    exact this
  rw [key2, m232_80 F3 (by decide), show (0 : Int32).toNatClampNeg = 0 from rfl, hI_sIs_k (by omega), X1.n0, k232_87, if_pos (by rw [n_le (by omega) (by omega)]; omega), m232_126 F3 (by decide), show (4 : Int32).toNatClampNeg = 4 from rfl, hI_sIs_k (by omega), X1.rh, k232_136]
  have eL : fo (fun j s => s + mny (hI M1 147 j)) 0 n 0 = lrnF (nrG (toldG L D T W hr rn) P n) n := by
    unfold lrnF
    exact fo_cong n 0 0 (fun j a _ q => by rw [h1 j (by omega)])
  rw [eL]
  have eo : ∀ l, ¬ l = 4 → ¬ (14 ≤ l ∧ l < 21) → hI (sI (sIs M1 128 14 n g) 128 4 (hr + 1)) 128 l = hI M1 128 l := by
    intro l q q2
    rw [hI_sI_k q, hI_sIs_k (by omega)]
  have e1 : hI M1 128 = hI M 128 := agr_I b1.1 (by decide)
  refine H _ (EX_trans (EX_mono b1 (by intro a q; simp at q ⊢; omega)) (EX_trans (EX_sIs (by decide) (by decide)) (EX_sI (by decide) (by decide)))) ⟨X1.F, ?_, ?_, ?_, ?_, n7, ?_, ?_, ?_, ?_, ?_, ?_⟩ (fun l q q2 => by rw [eo l q q2, e1])
  · rw [hI_sI_a (by decide), hI_sIs_a (by decide)]; exact X1.o20
  · rw [hI_sI_a (by decide), hI_sIs_a (by decide)]; exact X1.o0
  · exact MLaw_47 X1.law (eo 3 (by decide) (by decide)) (fun l q => eo l (by omega) (by omega))
  · rw [eo 0 (by decide) (by decide)]; exact X1.n0
  · intro j q; rw [eo _ (by omega) (by omega)]; exact X1.rD j q
  · intro j q; rw [eo _ (by omega) (by omega)]; exact X1.rT j q
  · intro j q; rw [eo _ (by omega) (by omega)]; exact X1.rP j q
  · intro j q
    rw [hI_sI_k (by omega)]
    show _ = if j < n then W j ||| nrG (toldG L D T W hr rn) P n j else W j
    by_cases c : j < n
    · rw [if_pos c, hI_sIs_s c]
      show hI M1 128 (14 + j) ||| hI M1 147 j = _
      rw [X1.rW j q, h1 j c]
    · rw [if_neg c, hI_sIs_k (by omega)]
      exact X1.rW j q
  · rw [hI_sI_s]
  · rw [eo _ (by decide) (by decide)]; exact X1.rr
