variable {d : Nat} {M : hp} {Q : Option Value → hp → Prop}
/-! compare() -/
theorem mIsLaw {nl : Nat} {i : Int32} {n : Nat} {D T P W : Nat → Int32} {hr rn : Int32} {L : Law} (Y : RP M n D T P W hr rn L) (h2 : hI M 128 2 = nI nl) (h6 : nl ≤ 6) : Wp none d 214 0 [(0, .ref 126), (1, .int i)] [] M Q = Q (some (.int (bz (¬ i < -1 ∧ ¬ nI nl ≤ i)))) M := by
  rw [k214_0, k214_2]
  by_cases c : i = -1
  · rw [if_pos c, k214_23, k214_28 (by decide), bz_t ⟨by rw [c]; decide, by rw [c, fa_le, show (-1 : Int32).toInt = -1 from by decide]; have := nI_pos (n := nl) (by omega); rw [fa_lt, show (0 : Int32).toInt = 0 from rfl] at this; omega⟩]
  · rw [if_neg c, m214_5 Y.F (by decide), show (2 : Int32).toNatClampNeg = 2 from rfl, h2, k214_17, mIn, in_hat (by omega)]
    simp only [oN]
    rw [k214_20]
    have e : (¬ i < -1 ∧ ¬ nI nl ≤ i) ↔ (¬ i < 0 ∧ ¬ nI nl ≤ i) := by
      rw [fa_lt, fa_lt, show (-1 : Int32).toInt = -1 from by decide, show (0 : Int32).toInt = 0 from rfl]
      rw [fa_eq, show (-1 : Int32).toInt = -1 from by decide] at c
      constructor
      · rintro ⟨z1, z2⟩; exact ⟨by omega, z2⟩
      · rintro ⟨z1, z2⟩; exact ⟨by omega, z2⟩
    by_cases q : ¬ i < 0 ∧ ¬ nI nl ≤ i
    · rw [if_neg (by rw [bz_eq0]; exact fun z => z q), k214_23, k214_28 (by decide), bz_t (e.mpr q)]
    · rw [if_pos (by rw [bz_eq0]; exact q), k214_27, k214_28 (by decide), bz_f (fun z => q (e.mp z))]
/-- a law that there is, or none -/
def lawOk (nl : Nat) (i : Int32) : Prop := i = -1 ∨ ∃ k, k < nl ∧ i = nI k
theorem lawOk_of {nl : Nat} {i : Int32} (h6 : nl ≤ 6) (h : ¬ i < -1 ∧ ¬ nI nl ≤ i) : lawOk nl i := by
  by_cases c : i = -1
  · exact Or.inl c
  · refine Or.inr ?_
    have : ¬ i < 0 := by
      have h1 := h.1
      rw [fa_lt, show (-1 : Int32).toInt = -1 from by decide] at h1
      rw [fa_eq, show (-1 : Int32).toInt = -1 from by decide] at c
      rw [fa_lt, show (0 : Int32).toInt = 0 from rfl]
      omega
    obtain ⟨k, k1, k2⟩ := (vin_of2 this h.2 (by omega)).2
    exact ⟨k, k1, k2⟩
theorem MLaw_put {nl : Nat} {i : Int32} {lw : Nat → Nat × (Nat → Cls)} {h : Nat} {M' : hp} (Lw : LwS M' h (hI M 128) nl lw) (ok : lawOk nl i) : MLaw (sI M 128 3 i) (lawOf i lw) := by
  have n6 := Lw.2.2.1
  rcases ok with z | ⟨k, k1, k2⟩
  · rw [show lawOf i lw = none from if_pos z]
    show hI (sI M 128 3 i) 128 3 = -1
    rw [hI_sI_s]
    exact z
  · rw [show lawOf i lw = some (lw k) from by
      unfold lawOf
      rw [if_neg (by rw [k2, n_m1 (by omega)]; exact id), k2, n_cl (by omega)]]
    exact LwF_MLaw (LwF_reg (Lw.2.2.2.1 k k1).2 (fun l _ _ => hI_sI_k (by omega))) (by omega) (by rw [hI_sI_s]; exact k2)
theorem RP_force {n : Nat} {i : Int32} {D T P W : Nat → Int32} {hr rn : Int32} {L L' : Law} (X : RP M n D T P W hr rn L) (h : MLaw (sI M 128 3 i) L') : RP (sI M 128 3 i) n D T P W hr rn L' :=
  ⟨X.F, by rw [hI_sI_a (by decide)]; exact X.o20, by rw [hI_sI_a (by decide)]; exact X.o0, h, by rw [hI_sI_k (by omega)]; exact X.n0, X.n7, fun i hi => by rw [hI_sI_k (by omega)]; exact X.rD i hi, fun i hi => by rw [hI_sI_k (by omega)]; exact X.rT i hi, fun i hi => by rw [hI_sI_k (by omega)]; exact X.rP i hi, fun i hi => by rw [hI_sI_k (by omega)]; exact X.rW i hi, by rw [hI_sI_k (by omega)]; exact X.rh, by rw [hI_sI_k (by omega)]; exact X.rr⟩
def cmpG (n nl : Nat) (lw : Nat → Nat × (Nat → Cls)) (D T W : Nat → Int32) (hr rn : Int32) (w i o : Int32) : Int32 := if (¬ w < -1 ∧ ¬ nI nl ≤ w) ∧ hatOk n i ∧ hatOk n o ∧ ¬ i = o then ansF (lawOf w lw) 0 (lwF i.toNatClampNeg D T W o (D o.toNatClampNeg) (-1) hr rn) else -1
theorem mCompare {n nl : Nat} {w i o : Int32} {lw : Nat → Nat × (Nat → Cls)} {D T P W : Nat → Int32} {hr rn : Int32} {L : Law} (X : RP M n D T P W hr rn L) (h2 : hI M 128 2 = nI nl) (h6 : nl ≤ 6) (hL' : ∀ w, lawOk nl w → MLaw (sI M 128 3 w) (lawOf w lw)) (H : ∀ M', Qry M M' → Q (some (.int (cmpG n nl lw D T W hr rn w i o))) M') : Wp none d 249 0 [(0, .ref 126), (1, .int w), (2, .int i), (3, .int o)] [] M Q := by
  have n7 := X.n7
  have F := X.F
  unfold cmpG at H
  have bad : ¬ ((¬ w < -1 ∧ ¬ nI nl ≤ w) ∧ hatOk n i ∧ hatOk n o ∧ ¬ i = o) → Wp none d 249 34 [(0, .ref 126), (1, .int w), (2, .int i), (3, .int o)] [] M Q := by
    intro c
    rw [if_neg c] at H
    rw [k249_34]
    exact H M (Qry_refl M)
  rw [k249_0 (m_9 F), o0_id X, k249_5, k249_7 (m_9 F), mIsLaw X h2 h6]
  simp only [oN]
  rw [k249_10]
  by_cases c : ¬ w < -1 ∧ ¬ nI nl ≤ w
  case neg =>
    rw [if_pos (by rw [bz_eq0]; exact c)]
    exact bad (fun q => c q.1)
  rw [if_neg (by rw [bz_eq0]; exact fun q => q c), k249_13, k249_15 (m_9 F), mIsHat X]
  simp only [oN]
  rw [k249_18]
  by_cases c2 : ¬ i < 0 ∧ ¬ nI n ≤ i
  case neg =>
    rw [if_pos (by rw [bz_eq0]; exact c2)]
    exact bad (fun q => c2 q.2.1)
  rw [if_neg (by rw [bz_eq0]; exact fun q => q c2), k249_21, k249_23 (m_9 F), mIsHat X]
  simp only [oN]
  rw [k249_26]
  by_cases c3 : ¬ o < 0 ∧ ¬ nI n ≤ o
  case neg =>
    rw [if_pos (by rw [bz_eq0]; exact c3)]
    exact bad (fun q => c3 q.2.2.1)
  rw [if_neg (by rw [bz_eq0]; exact fun q => q c3), k249_29, k249_31]
  by_cases c4 : i = o
  · rw [if_neg (fun q => q c4)]
    exact bad (fun q => q.2.2.2 c4)
  rw [if_pos ⟨c, c2, c3, c4⟩] at H
  obtain ⟨j, hj, rfl⟩ := hatOk_j n7 c2
  obtain ⟨u, hu, rfl⟩ := hatOk_j n7 c3
  rw [n_cl (by omega), n_cl (by omega)] at H
  have X1 := RP_force X (hL' w (lawOk_of h6 c))
  have v3 : vin 3 5447 = true := by decide
  have c3' : (3 : Int32).toNatClampNeg = 3 := rfl
  rw [if_pos c4, m249_36 F v3, c3', k249_51, k249_54 (m_9 X1.F)]
  refine mTells X1 (by omega) (by omega) (fun M1 b => ?_)
  have F1 := MF_agr X1.F b.1
  simp only [oN]
  rw [m249_57 F1 v3, c3', k249_67]
  refine H _ ⟨EX_trans (EX_sI (by decide) (by decide)) (EX_trans (EX_EC b) (EX_sI (by decide) (by decide))), ?_, fun l _ => ?_⟩
  · funext l
    by_cases c5 : l = 3
    · rw [c5, hI_sI_s]
    · rw [hI_sI_k c5, agr_I b.1 (a := 128) (by decide), hI_sI_k c5]
  · rw [hI_sI_a (by decide), agr_I b.1 (a := 131) (by decide), hI_sI_a (by decide)]
theorem p_compare {w i o : Int32} (S : Sim M) (K : Alk d 249 [(0, .ref 126), (1, .int w), (2, .int i), (3, .int o)] M Q) : Wp none d 123 0 [(0, .ref 64), (1, .int w), (2, .int i), (3, .int o)] [] M Q := by
  have kb : kB = 154 := rfl
  obtain ⟨n, nl, lw, X, H, HO, Y⟩ := Sim_get S
  have n7 := Y.n7
  have Lw := H.2.2.1
  have n6 := Lw.2.2.1
  have fin : ∀ v M1, agq QE [76] M M1 → HallZ M1 71 → v = cmpG n nl lw (hI M 66) (hI M 67) (hI M 69) (hI M 65 5) (hI M 65 7) w i o → Q (some (.int v)) M1 := by
    intro v M1 a z hv
    subst hv
    have e128 : hI M1 128 = hI M 128 := (a.2.2.2.2 128 (by decide)).1
    refine qry_end S a z K (fun Q2 h => mCompare (nl := nl) (lw := lw) (RP_a Y a) (by rw [e128]; exact Lw.2.1) n6 (fun w' ok => ?_) h)
    exact MLaw_put (M := M1) (h := 65) (M' := M) (by rw [e128]; exact Lw) ok
  unfold cmpG at fin
  have bad : ¬ ((¬ w < -1 ∧ ¬ nI nl ≤ w) ∧ hatOk n i ∧ hatOk n o ∧ ¬ i = o) → Wp none d 123 23 [(0, .ref 64), (1, .int w), (2, .int i), (3, .int o)] [] M Q := by
    intro c
    rw [if_neg c] at fin
    rw [k123_23]
    exact fin _ M (q_none M) (q_z S) rfl
  rw [x123_0 X, k123_5 (x_K65 X), Hall_hasLaw X.2.1, Lw.1]
  simp only [oN]
  rw [k123_8]
  by_cases c : ¬ w < -1 ∧ ¬ nI nl ≤ w
  case neg =>
    rw [if_pos (by rw [bz_eq0]; exact c)]
    exact bad (fun q => c q.1)
  rw [if_neg (by rw [bz_eq0]; exact fun q => q c), x123_11 X, k123_17 (x_K65 X), Hall_hasTwo X.2.1 HO.2.1]
  simp only [oN]
  rw [k123_20]
  by_cases c2 : hatOk n i ∧ hatOk n o ∧ ¬ i = o
  case neg =>
    rw [if_neg (by rw [bz_eq0]; exact fun q => q c2)]
    exact bad (fun q => c2 q.2)
  rw [if_pos ⟨c, c2⟩] at fin
  obtain ⟨j, hj, rfl⟩ := hatOk_j n7 c2.1
  obtain ⟨u, hu, rfl⟩ := hatOk_j n7 c2.2.1
  rw [n_cl (by omega), n_cl (by omega)] at fin
  rw [if_pos (by rw [bz_eq0]; exact fun q => q c2), x123_25 X, k123_38 (x_K65 X)]
  rcases lawOk_of n6 c with z | ⟨k, k1, k2⟩
  · rw [Hall_lawAt_n X.2.1 (by rw [z]; decide)]
    simp only [oM]
    rw [k123_41n, k123_45n (x_K116 X)]
    have e : lawOf w lw = none := if_pos z
    rw [e] at fin
    refine answerL (L := none) (ko := hI M 66 u) (x_N X) X.2.1 rfl (by omega) (HO.2.2.2.1 j hj) (Or.inr ⟨u, by omega, rfl, rfl⟩) (by omega) (by omega) (fun M' b => ?_)
    simp only [oN]
    rw [k123_48]
    exact fin _ M' (q_night b) (q_nz S b) rfl
  · have tx := (Lw.2.2.2.1 k k1).1
    have t0 : ¬ hR M (65 + 5) k = 0 := by
      obtain ⟨_, _, _, _, _, t1, _⟩ := tx
      omega
    rw [k2, Hall_lawAt X.2.1 (by omega) rfl t0]
    simp only [oM]
    rw [k123_41r, k123_45r (x_K116 X)]
    have e : lawOf w lw = some (lw k) := by
      unfold lawOf
      rw [if_neg (by rw [k2, n_m1 (by omega)]; exact id), k2, n_cl (by omega)]
    rw [e] at fin
    refine answerL (L := some (lw k)) (ko := hI M 66 u) (x_N X) X.2.1 (TxB_LawV tx) (by omega) (HO.2.2.2.1 j hj) (Or.inr ⟨u, by omega, rfl, rfl⟩) (by omega) (by omega) (fun M' b => ?_)
    simp only [oN]
    rw [k123_48]
    exact fin _ M' (q_night b) (q_nz S b) rfl
