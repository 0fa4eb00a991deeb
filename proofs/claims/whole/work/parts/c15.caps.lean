variable {d : Nat} {M : hp} {Q : Option Value → hp → Prop}
/-! capitals(): the class's loop, the reference's draws -/
def CpE : List Nat := [64, 83, 84, 85, 86, 87, 116, 117, 118, 119, 120, 121]
def CapI (M0 M : hp) (n : Nat) (L : Law) (s : DSt) : Prop := agq CpE [88] M0 M ∧ HallO M 83 n L ∧ hI M 84 = hI M0 66 ∧ hI M 85 = hI M0 67 ∧ hI M 86 = s.1 ∧ hI M 87 = s.2.1 ∧ hI M 83 5 = s.2.2.1 ∧ hI M 83 7 = hI M0 65 7 ∧ s.2.2.2 < 1000003 ∧ hI M 64 15 = 1 ∧ ∀ k, ¬ k = 15 → hI M 64 k = hI M0 64 k
theorem cap_X {M0 : hp} {n : Nat} {L : Law} {s : DSt} (X : XS M0) (C : CapI M0 M n L s) : XS M := XS_same (sameS_agq C.1 (by intro x q; simp at q; exact Or.inr (Or.inr (Or.inr (Or.inl q))))) X
theorem T_capLoop {M0 : hp} {n N : Nat} {L : Law} {x1 : Int32} {f : Int32 × DSt} (X0 : XS M0) (n0 : 0 < n) (hN : N ≤ 60) (fin : ∀ M' x3 x5, CapI M0 M' n L f.2 → Wp none d 124 116 [(0, .ref 64), (1, .int x1), (2, .int (nI N)), (3, .int x3), (4, .int f.1), (5, .int x5)] [] M' Q) : ∀ (k i : Nat) (s : DSt) (v : Int32) (M : hp), i + k = N → CapI M0 M n L s → capF L (hI M0 66) (hI M0 67) n (hI M0 65 7) k s v = f → Wp none d 124 69 [(0, .ref 64), (1, .int x1), (2, .int (nI N)), (3, .int (nI s.2.2.2)), (4, .int v), (5, .int (nI i))] [] M Q := by
  have kb : kB = 154 := rfl
  intro k
  induction k with
  | zero =>
    intro i s v M e C hf
    rw [k124_69, k124_72, if_pos (by rw [n_le (by omega) (by omega)]; omega)]
    unfold capF at hf
    subst hf
    exact fin M _ _ C
  | succ k ih =>
    intro i s v M e C hf
    have X := cap_X X0 C
    obtain ⟨a, O, e1, e2, e3, e4, e5, e6, e7, e8, e9⟩ := C
    unfold capF at hf
    rw [k124_69, k124_72, if_neg (by rw [n_le (by omega) (by omega)]; omega), x124_75 X, e5, k124_85]
    by_cases c : 999 ≤ s.2.2.1
    · rw [if_pos c] at hf
      subst hf
      rw [if_pos c]
      exact fin M _ _ ⟨a, O, e1, e2, e3, e4, e5, e6, e7, e8, e9⟩
    rw [if_neg c] at hf
    have n7 := O.2.1.2
    have m1 : nxD s.2.2.2 % n < n := Nat.mod_lt _ n0
    have m2 : nxD (nxD s.2.2.2) % 10 < 10 := Nat.mod_lt _ (by omega)
    have m3 : nxD (nxD (nxD s.2.2.2)) % 8 < 8 := Nat.mod_lt _ (by omega)
    have HP0 : PegS s.1 n := by have := O.2.2.1; rw [show hI M (83 + 3) = s.1 from e3] at this; exact this
    have HK0 : KnoS s.2.1 n := by have := O.2.2.2.1; rw [show hI M (83 + 4) = s.2.1 from e4] at this; exact this
    have Z3 : ∀ j, 7 ≤ j → s.1 j = 0 := fun j q => by rw [← e3]; exact O.2.2.2.2.2.1 3 (by omega) (by omega) j q
    have Z4 : ∀ j, 7 ≤ j → s.2.1 j = 0 := fun j q => by rw [← e4]; exact O.2.2.2.2.2.1 4 (by omega) (by omega) j q
    rw [if_neg c, k124_88, x124_90 X]
    refine T_drawCapital X O n0 e7 (fun M1 b f3 f4 => ?_)
    rw [e3, e4] at f3 f4
    have f3 : hI M1 86 = (drw n s).1 := by unfold drw; exact f3
    have f4 : hI M1 87 = (drw n s).2 := by unfold drw; exact f4
    have dP : PegS (drw n s).1 n := by unfold drw; exact drw1_peg HP0 n7 m1 m2
    have dK : KnoS (drw n s).2 n := by unfold drw; exact drw1_kno HK0 m1 m3
    have dZ : ∀ j, 7 ≤ j → (drw n s).1 j = 0 ∧ (drw n s).2 j = 0 := by
      intro j q
      unfold drw
      have z := drw1_z (p := nxD (nxD s.2.2.2) % 10) (t := nxD (nxD (nxD s.2.2.2)) % 8) (k := nxD (nxD (nxD (nxD s.2.2.2))) % 4) (P := s.1) (W := s.2.1) n7 m1 j q
      exact ⟨z.1.trans (Z3 j q), z.2.trans (Z4 j q)⟩
    have X1 : XS M1 := XS_same (sameS_agq (agq_of (B := []) b) (by intro x q; simp at q)) X
    have O1 : HallO M1 83 n L := by
      refine HallO_mid O b (by intro x q; simp at q; omega) (by decide) (by decide) (fun k _ => by rw [agr_I b (a := 83) (by decide)]) ?_ ?_ ?_ ?_
      · rw [show hI M1 (83 + 3) = _ from f3]; exact dP
      · rw [show hI M1 (83 + 4) = _ from f4]; exact dK
      · intro j q; rw [show hI M1 (83 + 3) = _ from f3]; exact (dZ j q).1
      · intro j q; rw [show hI M1 (83 + 4) = _ from f4]; exact (dZ j q).2
    simp only [oN]
    rw [x124_93 X1, x124_104 X1 (x_K116 X1)]
    refine hour_ok (x_N X1) O1 (by omega) (by omega) (fun M2 b2 w5 w0 O2 => ?_)
    unfold capS at hf
    generalize drw n s = pw at *
    have ev : hourT L M1 83 n = hourG L (hI M0 66) (hI M0 67) pw.1 n (hI M0 65 7) (pw.2, s.2.2.1) := by
      rw [hourT_G, show hI M1 (83 + 1) = hI M 84 from agr_I b (by decide), show hI M1 (83 + 2) = hI M 85 from agr_I b (by decide), e1, e2, show hI M1 (83 + 3) = pw.1 from f3, show hI M1 (83 + 4) = pw.2 from f4, agr_I b (a := 83) (by decide), e5, e6]
    rw [ev]
    simp only [oM]
    rw [k124_107, nI_1]
    refine ih (i + 1) (capP L (hI M0 66) (hI M0 67) n (hI M0 65 7) pw s.2.2.1 (nxD (nxD (nxD (nxD s.2.2.2))))).2 (v + (capP L (hI M0 66) (hI M0 67) n (hI M0 65 7) pw s.2.2.1 (nxD (nxD (nxD (nxD s.2.2.2))))).1) M2 (by omega) ⟨agq_trans a (agq_trans (agq_of (agr_mono b (by intro x q; simp [CpE] at q ⊢; omega))) (agq_of (agr_mono b2 (by intro x q; simp [hE, nF, CpE] at q ⊢; omega)))), O2, ?_, ?_, ?_, ?_, ?_, ?_, nxD_lt _, ?_, ?_⟩ hf
    · rw [agr_I b2 (hE_not (by omega) (by omega) (by omega)), agr_I b (by decide)]; exact e1
    · rw [agr_I b2 (hE_not (by omega) (by omega) (by omega)), agr_I b (by decide)]; exact e2
    · rw [agr_I b2 (hE_not (by omega) (by omega) (by omega))]; exact f3
    · rw [show hI M2 87 = hI M2 (83 + 4) from rfl, w5]
      unfold hoursF
      rw [show hI M1 (83 + 1) = hI M 84 from agr_I b (by decide), show hI M1 (83 + 2) = hI M 85 from agr_I b (by decide), e1, e2, show hI M1 (83 + 3) = pw.1 from f3, show hI M1 (83 + 4) = pw.2 from f4, agr_I b (a := 83) (by decide), e5, e6]
      rfl
    · rw [w0 5, if_pos rfl, agr_I b (a := 83) (by decide), e5]; rfl
    · rw [w0 7, if_neg (by decide), agr_I b (a := 83) (by decide)]; exact e6
    · rw [agr_I b2 (hE_not (by omega) (by omega) (by omega)), agr_I b (by decide)]; exact e8
    · intro k q
      rw [agr_I b2 (hE_not (by omega) (by omega) (by omega)), agr_I b (by decide)]
      exact e9 k q
/-- the reference -/
theorem lN_div {a b : Nat} (ha : a < 2 ^ 63) (hb : b < 2 ^ 63) : lN a / lN b = lN (a / b) := (Int64.ofNat_div ha hb).symm
theorem lN_mod {a b : Nat} (ha : a < 2 ^ 63) (hb : b < 2 ^ 63) : lN a - lN a / lN b * lN b = lN (a % b) := by
  rw [lN_div ha hb, lN_mul, lN_sub (Nat.div_mul_le_self a b)]
  congr 1
  have := Nat.div_add_mod a b
  rw [Nat.mul_comm] at this
  omega
theorem lN_i32 {a : Nat} (h : a < 2147483648) : (lN a).toInt32 = nI a := i64_i32 (lN_ti62 (by omega)) h
theorem mDraw {s k : Nat} (F : MF M) (h : hL M 126 51 = lN s) (hs : s < 1000003) (hk : 1 ≤ k) (hk2 : k < 1000) : Wp none d 265 0 [(0, .ref 126), (1, .int (nI k))] [] M Q = Q (some (.int (nI (nxD s % k)))) (sL M 126 51 (lN (nxD s))) := by
  have F1 : MF (sL M 126 51 (lN (nxD s))) := F
  have e : (lN s * 1103 + 12345) - (lN s * 1103 + 12345) / 1000003 * 1000003 = lN (nxD s) := by
    rw [show (1103 : Int64) = lN 1103 from rfl, show (12345 : Int64) = lN 12345 from rfl, show (1000003 : Int64) = lN 1000003 from rfl, lN_mul, lN_add, lN_mod (by omega) (by omega)]
    rfl
  have h2 : nxD s < 1000003 := nxD_lt s
  have h3 : nxD s % k < k := Nat.mod_lt _ (by omega)
  rw [m265_0 F, h, e, m265_20 F1 (by rw [nI_l (by omega), show (0 : Int64) = lN 0 from rfl, lN_inj62 (by omega) (by omega)]; omega), hL_sL_s, nI_l (by omega), lN_mod (by omega) (by omega), lN_i32 (by omega)]
theorem RP_sL {n : Nat} {D T P W : Nat → Int32} {hr rn : Int32} {L : Law} {v : Int64} (Y : RP M n D T P W hr rn L) : RP (sL M 126 51 v) n D T P W hr rn L := RP_of Y Y.F rfl Y.o20 Y.o0
theorem mDrawnAct {n h p t k : Nat} {D T P W : Nat → Int32} {hr rn : Int32} {L : Law} (Y : RP M n D T P W hr rn L) (HP : PegS P n) (hh : h < n) (hp : p < 10) (ht : t < 8) (hk : k < 4) (hQ : ∀ M', EX [147, 128] M M' → RP M' n D T (drw1 n h p t k P W).1 (drw1 n h p t k P W).2 hr rn L → (∀ l, ¬ (7 ≤ l ∧ l < 21) → hI M' 128 l = hI M 128 l) → Q none M') : Wp none d 266 0 [(0, .ref 126), (1, .int (nI k)), (2, .int (nI h)), (3, .int (nI p)), (4, .int (nI t))] [] M Q := by
  have n7 := Y.n7
  have F := Y.F
  have e7 : (7 : Int32) + nI h = nI (7 + h) := by rw [show (7 : Int32) = nI 7 from rfl, nI_add]
  have e14 : (14 : Int32) + nI h = nI (14 + h) := by rw [show (14 : Int32) = nI 14 from rfl, nI_add]
  rw [k266_0, k266_1]
  have hk4 : k = 0 ∨ k = 1 ∨ k = 2 ∨ k = 3 := by omega
  rcases hk4 with rfl | rfl | rfl | rfl
  · rw [if_neg (by decide), k266_4, m266_7 F, mCanHang Y HP (by omega) hp]
    simp only [oN]
    rw [k266_10]
    by_cases c : P h = -1 ∧ hatF n P (nI p) = -1
    · rw [if_neg (by rw [bz_eq0]; exact fun q => q c), m266_13 F (by rw [e7]; exact v54 (by omega)), e7, n_cl (by omega), k266_23, k266_25, if_pos (by decide), k266_38, k266_40, if_pos (by decide), k266_59]
      refine hQ _ (EX_sI (by decide) (by decide)) ?_ (fun l q => hI_sI_k (by omega))
      have := RP_peg (v := nI p) Y (show h < 7 by omega)
      unfold drw1
      rw [if_pos rfl, if_pos c]
      exact this
    · rw [if_pos (by rw [bz_eq0]; exact c), k266_23, k266_25, if_pos (by decide), k266_38, k266_40, if_pos (by decide), k266_59]
      refine hQ _ (EX_refl _ _) ?_ (fun _ _ => rfl)
      unfold drw1
      rw [if_pos rfl, if_neg c]
      exact Y
  · rw [if_pos (by decide), k266_23, k266_25, if_neg (by decide), m266_28 F (by rw [e7]; exact v54 (by omega)), e7, n_cl (by omega), k266_38, k266_40, if_pos (by decide), k266_59]
    exact hQ _ (EX_sI (by decide) (by decide)) (RP_peg (v := -1) Y (show h < 7 by omega)) (fun l q => hI_sI_k (by omega))
  · rw [if_pos (by decide), k266_23, k266_25, if_pos (by decide), k266_38, k266_40, if_neg (by decide), m266_43 F (by rw [e14]; exact v54 (by omega)), e14, n_cl (by omega), Y.rW h (by omega), k266_59]
    exact hQ _ (EX_sI (by decide) (by decide)) (RP_know (v := W h ||| ((1 : Int32) <<< (nI t &&& 31))) Y (show h < 7 by omega)) (fun l q => hI_sI_k (by omega))
  · rw [if_pos (by decide), k266_23, k266_25, if_pos (by decide), k266_38, k266_40, if_pos (by decide), k266_59]
    exact hQ _ (EX_refl _ _) Y (fun _ _ => rfl)
def MCap (M0 M : hp) (n : Nat) (D T : Nat → Int32) (rn : Int32) (L : Law) (s : DSt) : Prop := RP M n D T s.1 s.2.1 s.2.2.1 rn L ∧ agr [126, 144, 146, 147, 128, 131] M0 M ∧ (∀ k, ¬ k = 34 → ¬ k = 38 → hI M 126 k = hI M0 126 k) ∧ hL M 126 51 = lN s.2.2.2 ∧ (∀ i, i < 17 → hI M 131 (272 + i) = hI M0 128 (4 + i)) ∧ (∀ l, ¬ (4 ≤ l ∧ l < 21) → hI M 128 l = hI M0 128 l) ∧ (∀ l, l < 272 → hI M 131 l = hI M0 131 l) ∧ s.2.2.2 < 1000003 ∧ PegS s.1 n ∧ KnoS s.2.1 n
theorem MCap_EX {M0 M' : hp} {n : Nat} {D T : Nat → Int32} {rn : Int32} {L : Law} {s s' : DSt} (C : MCap M0 M n D T rn L s) (Y : RP M' n D T s'.1 s'.2.1 s'.2.2.1 rn L) (b : EX [147, 128] M M') (e : s'.2.2.2 = s.2.2.2) (h : ∀ l, ¬ (4 ≤ l ∧ l < 21) → hI M' 128 l = hI M 128 l) (hp : PegS s'.1 n) (hk : KnoS s'.2.1 n) : MCap M0 M' n D T rn L s' := by
  obtain ⟨_, a, e1, e2, e3, e4, e5, e6, _⟩ := C
  have e131 : hI M' 131 = hI M 131 := agr_I b.1 (by decide)
  exact ⟨Y, agr_trans a (agr_mono b.1 (by intro x q; simp at q ⊢; omega)), fun k q1 q2 => (b.2.1 k q1 q2).trans (e1 k q1 q2), by rw [b.2.2 51 (by decide) (by decide), e]; exact e2, fun i hi => by rw [e131]; exact e3 i hi, fun l hl => (h l hl).trans (e4 l hl), fun l hl => by rw [e131]; exact e5 l hl, by rw [e]; exact e6, hp, hk⟩
theorem MCap_sL {M0 : hp} {n v : Nat} {D T : Nat → Int32} {rn : Int32} {L : Law} {s : DSt} (C : MCap M0 M n D T rn L s) (hv : v < 1000003) : MCap M0 (sL M 126 51 (lN v)) n D T rn L (s.1, s.2.1, s.2.2.1, v) := by
  obtain ⟨Y, a, e1, e2, e3, e4, e5, e6, e7, e8⟩ := C
  exact ⟨RP_sL Y, agr_trans a (agr_sL (by decide)), e1, hL_sL_s _ _ _ _, e3, e4, e5, hv, e7, e8⟩
theorem mCapLoop {M0 : hp} {n N : Nat} {D T : Nat → Int32} {rn : Int32} {L : Law} {x1 : Int32} {f : Int32 × DSt} (n0 : 0 < n) (hN : N ≤ 60) (fin : ∀ M' x4, MCap M0 M' n D T rn L f.2 → Wp none d 267 146 [(0, .ref 126), (1, .int x1), (2, .int (nI N)), (3, .int f.1), (4, .int x4)] [] M' Q) : ∀ (k i : Nat) (s : DSt) (v : Int32) (M : hp), i + k = N → MCap M0 M n D T rn L s → capF L D T n rn k s v = f → Wp none d 267 68 [(0, .ref 126), (1, .int x1), (2, .int (nI N)), (3, .int v), (4, .int (nI i))] [] M Q := by
  intro k
  induction k with
  | zero =>
    intro i s v M e C hf
    rw [k267_68, k267_71, if_pos (by rw [n_le (by omega) (by omega)]; omega)]
    unfold capF at hf
    subst hf
    exact fin M _ C
  | succ k ih =>
    intro i s v M e C hf
    have Y := C.1
    have n7 := Y.n7
    unfold capF at hf
    rw [k267_68, k267_71, if_neg (by rw [n_le (by omega) (by omega)]; omega), m267_74 Y.F (by decide), show (4 : Int32).toNatClampNeg = 4 from rfl, Y.rh, k267_83]
    by_cases c : 999 ≤ s.2.2.1
    · rw [if_pos c] at hf
      subst hf
      rw [if_pos c]
      exact fin M _ C
    rw [if_neg c] at hf
    have m1 : nxD s.2.2.2 % n < n := Nat.mod_lt _ n0
    have m2 : nxD (nxD s.2.2.2) % 10 < 10 := Nat.mod_lt _ (by omega)
    have m3 : nxD (nxD (nxD s.2.2.2)) % 8 < 8 := Nat.mod_lt _ (by omega)
    have m4 : nxD (nxD (nxD (nxD s.2.2.2))) % 4 < 4 := Nat.mod_lt _ (by omega)
    have C1 := MCap_sL C (nxD_lt s.2.2.2)
    have C2 := MCap_sL C1 (nxD_lt (nxD s.2.2.2))
    have C3 := MCap_sL C2 (nxD_lt (nxD (nxD s.2.2.2)))
    have C4 := MCap_sL C3 (nxD_lt (nxD (nxD (nxD s.2.2.2))))
    rw [if_neg c, m267_86 Y.F (by decide), show (0 : Int32).toNatClampNeg = 0 from rfl, Y.n0, m267_93 Y.F, mDraw Y.F C.2.2.2.1 C.2.2.2.2.2.2.2.1 (by omega) (by omega)]
    simp only [oN]
    rw [k267_96, m267_101 C1.1.F, show (10 : Int32) = nI 10 from rfl, mDraw (s := nxD s.2.2.2) C1.1.F C1.2.2.2.1 (nxD_lt _) (by omega) (by omega)]
    simp only [oN]
    rw [k267_104, m267_109 C2.1.F, show (8 : Int32) = nI 8 from rfl, mDraw (s := nxD (nxD s.2.2.2)) C2.1.F C2.2.2.2.1 (nxD_lt _) (by omega) (by omega)]
    simp only [oN]
    rw [k267_112, m267_116 C3.1.F, show (4 : Int32) = nI 4 from rfl, mDraw (s := nxD (nxD (nxD s.2.2.2))) C3.1.F C3.2.2.2.1 (nxD_lt _) (by omega) (by omega)]
    simp only [oN]
    rw [k267_119, m267_130 C4.1.F]
    refine mDrawnAct C4.1 C4.2.2.2.2.2.2.2.2.1 m1 m2 m3 m4 (fun M5 b5 Y5 fr5 => ?_)
    have HP5 : PegS (drw n s).1 n := by unfold drw; exact drw1_peg C.2.2.2.2.2.2.2.2.1 n7 m1 m2
    have HK5 : KnoS (drw n s).2 n := by unfold drw; exact drw1_kno C.2.2.2.2.2.2.2.2.2 m1 m3
    have Y5 : RP M5 n D T (drw n s).1 (drw n s).2 s.2.2.1 rn L := by unfold drw; exact Y5
    unfold capS at hf
    generalize drw n s = pw at *
    have C5 : MCap M0 M5 n D T rn L (pw.1, pw.2, s.2.2.1, nxD (nxD (nxD (nxD s.2.2.2)))) := MCap_EX C4 Y5 b5 rfl (fun l q => fr5 l (by omega)) HP5 HK5
    simp only [oZ]
    rw [k267_133, m267_135 Y5.F]
    refine mHour Y5 HP5 (fun M6 b6 Y6 fr6 => ?_)
    simp only [oM]
    rw [k267_138, nI_1]
    exact ih (i + 1) (capP L D T n rn pw s.2.2.1 (nxD (nxD (nxD (nxD s.2.2.2))))).2 (v + (capP L D T n rn pw s.2.2.1 (nxD (nxD (nxD (nxD s.2.2.2))))).1) M6 (by omega) (MCap_EX C5 Y6 b6 rfl (fun l q => fr6 l (by omega) (by omega)) HP5 (stepG_sm HK5)) hf
