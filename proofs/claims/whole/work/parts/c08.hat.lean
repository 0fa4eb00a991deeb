variable {d : Nat} {M : hp} {Q : Option Value → hp → Prop}
/-! hat(), row(): hats that come -/
abbrev HSt : Type := Nat × (Nat → Int32) × (Nat → Int32) × (Nat → Int32) × (Nat → Int32)
def addS (a b w : Int32) (s : HSt) : HSt := (s.1 + 1, updI s.2.1 s.1 a, updI s.2.2.1 s.1 b, updI s.2.2.2.1 s.1 (-1), updI s.2.2.2.2 s.1 w)
def WFs (s : HSt) : Prop := s.1 ≤ 7 ∧ PegS s.2.2.2.1 s.1 ∧ KnoS s.2.2.2.2 s.1 ∧ ∀ k, 7 ≤ k → s.2.1 k = 0 ∧ s.2.2.1 k = 0 ∧ s.2.2.2.1 k = 0 ∧ s.2.2.2.2 k = 0
theorem WF_add {a b w : Int32} {s : HSt} (H : WFs s) (h7 : s.1 < 7) (hw : sm w) : WFs (addS a b w s) := by
  obtain ⟨h1, h2, h3, h4⟩ := H
  have up : ∀ (f : Nat → Int32) (v : Int32) (j : Nat), ¬ j = s.1 → updI f s.1 v j = f j := fun f v j q => by unfold updI; rw [if_neg q]
  have us : ∀ (f : Nat → Int32) (v : Int32), updI f s.1 v s.1 = v := fun f v => by unfold updI; rw [if_pos rfl]
  refine ⟨by show s.1 + 1 ≤ 7; omega, ⟨fun j hj => ?_, fun i j hi hj e ne => ?_⟩, fun j hj => ?_, fun k hk => ?_⟩
  · show updI s.2.2.2.1 s.1 (-1) j = -1 ∨ ∃ q, q < 10 ∧ updI s.2.2.2.1 s.1 (-1) j = nI q
    by_cases c : j = s.1
    · rw [c, us]; exact Or.inl rfl
    · rw [up _ _ _ c]
      have hj : j < s.1 + 1 := hj
      exact h2.1 j (by omega)
  · have hi : i < s.1 + 1 := hi
    have hj : j < s.1 + 1 := hj
    have e : updI s.2.2.2.1 s.1 (-1) i = updI s.2.2.2.1 s.1 (-1) j := e
    have ne : ¬ updI s.2.2.2.1 s.1 (-1) i = -1 := ne
    by_cases c : i = s.1
    · rw [c, us] at ne; exact absurd rfl ne
    · by_cases c2 : j = s.1
      · rw [e, c2, us] at ne; exact absurd rfl ne
      · rw [up _ _ _ c] at e ne
        rw [up _ _ _ c2] at e
        exact h2.2 i j (by omega) (by omega) e ne
  · have hj : j < s.1 + 1 := hj
    show sm (updI s.2.2.2.2 s.1 w j)
    by_cases c : j = s.1
    · rw [c, us]; exact hw
    · rw [up _ _ _ c]; exact h3 j (by omega)
  · show updI s.2.1 s.1 a k = 0 ∧ updI s.2.2.1 s.1 b k = 0 ∧ updI s.2.2.2.1 s.1 (-1) k = 0 ∧ updI s.2.2.2.2 s.1 w k = 0
    rw [up _ _ _ (by omega), up _ _ _ (by omega), up _ _ _ (by omega), up _ _ _ (by omega)]
    exact h4 k hk
/-- the class's hall holds s -/
def ClS (M0 M : hp) (s : HSt) : Prop := agr [64, 65, 66, 67, 68, 69, 103, 107] M0 M ∧ hI M 65 8 = nI s.1 ∧ (∀ k, ¬ k = 8 → hI M 65 k = hI M0 65 k) ∧ hI M 66 = s.2.1 ∧ hI M 67 = s.2.2.1 ∧ hI M 68 = s.2.2.2.1 ∧ hI M 69 = s.2.2.2.2
/-- the reference's row holds s -/
def RfS (M0 M : hp) (s : HSt) : Prop := agr [126, 128] M0 M ∧ hI M 128 0 = nI s.1 ∧ (∀ j, j < 7 → hI M 128 (21 + j) = s.2.1 j ∧ hI M 128 (28 + j) = s.2.2.1 j ∧ hI M 128 (7 + j) = s.2.2.2.1 j ∧ hI M 128 (14 + j) = s.2.2.2.2 j) ∧ ∀ l, (1 ≤ l ∧ l < 7) ∨ 35 ≤ l → hI M 128 l = hI M0 128 l
theorem upd_sI {M0 : hp} {a n : Nat} {v : Int32} {f : Nat → Int32} (h : hI M0 a = f) : hI (sI M0 a n v) a = updI f n v := by
  funext j
  unfold updI
  by_cases c : j = n
  · rw [c, if_pos rfl, hI_sI_s]
  · rw [if_neg c, hI_sI_k c, h]
theorem cl_add {M0 : hp} {a b w : Int32} {s : HSt} (X : XS M) (C : ClS M0 M s) (h7 : s.1 < 7) (H : ∀ M', ClS M0 M' (addS a b w s) → hI M' 64 = hI M 64 → hI M' 107 = hI M 107 → hI M' 103 = hI M 103 → Q none M') : Wp none d 5 0 [(0, .ref 65), (1, .int a), (2, .int b), (3, .int w)] [] M Q := by
  obtain ⟨c1, c2, c3, c4, c5, c6, c7⟩ := C
  rw [Hall_addHat X.2.1 c2 h7]
  refine H _ ⟨agr_trans c1 (agr_trans (agr_trans (agr_trans (agr_trans (agr_sI (by decide)) (agr_sI (by decide))) (agr_sI (by decide))) (agr_sI (by decide))) (agr_sI (by decide))), hI_sI_s _ _ _ _, fun k q => ?_, ?_, ?_, ?_, ?_⟩ ?_ ?_ ?_
  · rw [hI_sI_k q, hI_sI_a (by decide), hI_sI_a (by decide), hI_sI_a (by decide), hI_sI_a (by decide)]
    exact c3 k q
  · show hI _ 66 = _
    funext j
    rw [hI_sI_a (by decide), hI_sI_a (by decide), hI_sI_a (by decide), hI_sI_a (by decide), show (65 + 1 : Nat) = 66 from rfl, upd_sI c4]
    rfl
  · show hI _ 67 = _
    funext j
    rw [hI_sI_a (by decide), hI_sI_a (by decide), hI_sI_a (by decide), show (65 + 2 : Nat) = 67 from rfl, upd_sI (f := s.2.2.1) (by funext i; rw [hI_sI_a (by decide), c5])]
    rfl
  · show hI _ 68 = _
    funext j
    rw [hI_sI_a (by decide), hI_sI_a (by decide), show (65 + 3 : Nat) = 68 from rfl, upd_sI (f := s.2.2.2.1) (by funext i; rw [hI_sI_a (by decide), hI_sI_a (by decide), c6])]
    rfl
  · show hI _ 69 = _
    funext j
    rw [hI_sI_a (by decide), show (65 + 4 : Nat) = 69 from rfl, upd_sI (f := s.2.2.2.2) (by funext i; rw [hI_sI_a (by decide), hI_sI_a (by decide), hI_sI_a (by decide), c7])]
    rfl
  · funext k; rw [hI_sI_a (by decide), hI_sI_a (by decide), hI_sI_a (by decide), hI_sI_a (by decide), hI_sI_a (by decide)]
  · funext k; rw [hI_sI_a (by decide), hI_sI_a (by decide), hI_sI_a (by decide), hI_sI_a (by decide), hI_sI_a (by decide)]
  · funext k; rw [hI_sI_a (by decide), hI_sI_a (by decide), hI_sI_a (by decide), hI_sI_a (by decide), hI_sI_a (by decide)]
abbrev htOk (a b : Int32) : Prop := (0 ≤ a ∧ a ≤ 3) ∧ 0 ≤ b ∧ b ≤ 9
theorem mComes {M0 : hp} {a b w : Int32} {s : HSt} (F : MF M) (C : RfS M0 M s) (h7 : s.1 ≤ 7) (H1 : ¬ htOk a b → Q (some (.int (-1))) M) (H2 : htOk a b → s.1 = 7 → Q (some (.int (-5))) M) (H3 : ∀ M', htOk a b → s.1 < 7 → MF M' → RfS M0 M' (addS a b w s) → hI M' 126 = hI M 126 → Q (some (.int (nI s.1))) M') : Wp none d 174 0 [(0, .ref 126), (1, .int a), (2, .int b), (3, .int w)] [] M Q := by
  obtain ⟨c1, c2, c3, c4⟩ := C
  have bad : ¬ htOk a b → Wp none d 174 24 [(0, .ref 126), (1, .int a), (2, .int b), (3, .int w)] [] M Q := by
    intro c
    rw [k174_24]
    exact H1 c
  have z0 : (0 : Int32).toNatClampNeg = 0 := rfl
  rw [k174_0, k174_6, mIn, in_lit (x := 0) (y := 3) (a := 0) (b := 3) rfl rfl]
  simp only [oN]
  rw [k174_9]
  by_cases q1 : 0 ≤ a ∧ a ≤ 3
  case neg =>
    rw [if_pos (by rw [bz_eq0]; exact q1)]
    exact bad (fun q => q1 q.1)
  rw [if_neg (by rw [bz_eq0]; exact fun q => q q1), k174_12, k174_18, mIn, in_lit (x := 0) (y := 9) (a := 0) (b := 9) rfl rfl]
  simp only [oN]
  rw [k174_21]
  by_cases q2 : 0 ≤ b ∧ b ≤ 9
  case neg =>
    rw [if_neg (by rw [bz_eq0]; exact fun q => q q2)]
    exact bad (fun q => q2 q.2)
  rw [if_pos (by rw [bz_eq0]; exact fun q => q q2), m174_26 F (by decide), z0, c2, k174_38]
  by_cases q3 : s.1 = 7
  · rw [if_neg (by rw [q3]; decide), k174_41]
    exact H2 ⟨q1, q2⟩ q3
  have e21 : (21 : Int32) + nI s.1 = nI (21 + s.1) := by rw [show (21 : Int32) = nI 21 from rfl, nI_add]
  have e28 : (28 : Int32) + nI s.1 = nI (28 + s.1) := by rw [show (28 : Int32) = nI 28 from rfl, nI_add]
  have e7 : (7 : Int32) + nI s.1 = nI (7 + s.1) := by rw [show (7 : Int32) = nI 7 from rfl, nI_add]
  have e14 : (14 : Int32) + nI s.1 = nI (14 + s.1) := by rw [show (14 : Int32) = nI 14 from rfl, nI_add]
  have F1 : MF (sI M 128 (21 + s.1) a) := F
  have F2 : MF (sI (sI M 128 (21 + s.1) a) 128 (28 + s.1) b) := F
  have F3 : MF (sI (sI (sI M 128 (21 + s.1) a) 128 (28 + s.1) b) 128 (7 + s.1) (-1)) := F
  have F4 : MF (sI (sI (sI (sI M 128 (21 + s.1) a) 128 (28 + s.1) b) 128 (7 + s.1) (-1)) 128 (14 + s.1) w) := F
  rw [if_pos (by show ¬ nI s.1 = nI 7; rw [n_eq (by omega) (by omega)]; exact q3), m174_44 F (by rw [e21]; exact v54 (by omega)), e21, n_cl (by omega), m174_55 F1 (by rw [e28]; exact v54 (by omega)), e28, n_cl (by omega), m174_66 F2 (by rw [e7]; exact v54 (by omega)), e7, n_cl (by omega), m174_77 F3 (by rw [e14]; exact v54 (by omega)), e14, n_cl (by omega), m174_88 F4 (by decide), z0, hI_sI_k (by omega), hI_sI_k (by omega), hI_sI_k (by omega), hI_sI_k (by omega), c2, nI_1, k174_98]
  refine H3 _ ⟨q1, q2⟩ (by omega) F4 ⟨agr_trans c1 (agr_trans (agr_trans (agr_trans (agr_trans (agr_sI (by decide)) (agr_sI (by decide))) (agr_sI (by decide))) (agr_sI (by decide))) (agr_sI (by decide))), hI_sI_s _ _ _ _, fun j hj => ?_, fun l hl => ?_⟩ ?_
  · show hI _ 128 (21 + j) = updI s.2.1 s.1 a j ∧ hI _ 128 (28 + j) = updI s.2.2.1 s.1 b j ∧ hI _ 128 (7 + j) = updI s.2.2.2.1 s.1 (-1) j ∧ hI _ 128 (14 + j) = updI s.2.2.2.2 s.1 w j
    unfold updI
    by_cases c : j = s.1
    · rw [if_pos c, if_pos c, if_pos c, if_pos c, c]
      refine ⟨?_, ?_, ?_, ?_⟩
      · rw [hI_sI_k (by omega), hI_sI_k (by omega), hI_sI_k (by omega), hI_sI_k (by omega), hI_sI_s]
      · rw [hI_sI_k (by omega), hI_sI_k (by omega), hI_sI_k (by omega), hI_sI_s]
      · rw [hI_sI_k (by omega), hI_sI_k (by omega), hI_sI_s]
      · rw [hI_sI_k (by omega), hI_sI_s]
    · rw [if_neg c, if_neg c, if_neg c, if_neg c]
      have := c3 j hj
      refine ⟨?_, ?_, ?_, ?_⟩
      · rw [hI_sI_k (by omega), hI_sI_k (by omega), hI_sI_k (by omega), hI_sI_k (by omega), hI_sI_k (by omega)]; exact this.1
      · rw [hI_sI_k (by omega), hI_sI_k (by omega), hI_sI_k (by omega), hI_sI_k (by omega), hI_sI_k (by omega)]; exact this.2.1
      · rw [hI_sI_k (by omega), hI_sI_k (by omega), hI_sI_k (by omega), hI_sI_k (by omega), hI_sI_k (by omega)]; exact this.2.2.1
      · rw [hI_sI_k (by omega), hI_sI_k (by omega), hI_sI_k (by omega), hI_sI_k (by omega), hI_sI_k (by omega)]; exact this.2.2.2
  · rw [hI_sI_k (by omega), hI_sI_k (by omega), hI_sI_k (by omega), hI_sI_k (by omega), hI_sI_k (by omega)]
    exact c4 l hl
  · funext k
    rw [hI_sI_a (by decide), hI_sI_a (by decide), hI_sI_a (by decide), hI_sI_a (by decide), hI_sI_a (by decide)]
/-- hats have come to both -/
theorem Sim_come {M2 : hp} {s : HSt} (S : Sim M) (W : WFs s) (a : agr [64, 65, 66, 67, 68, 69, 103, 107, 126, 128] M M2) (c2 : hI M2 65 8 = nI s.1) (c3 : ∀ k, ¬ k = 8 → hI M2 65 k = hI M 65 k) (c4 : hI M2 66 = s.2.1) (c5 : hI M2 67 = s.2.2.1) (c6 : hI M2 68 = s.2.2.2.1) (c7 : hI M2 69 = s.2.2.2.2) (r0 : hI M2 128 0 = nI s.1) (r1 : ∀ j, j < 7 → hI M2 128 (21 + j) = s.2.1 j ∧ hI M2 128 (28 + j) = s.2.2.1 j ∧ hI M2 128 (7 + j) = s.2.2.2.1 j ∧ hI M2 128 (14 + j) = s.2.2.2.2 j) (r2 : ∀ l, (1 ≤ l ∧ l < 7) ∨ 35 ≤ l → hI M2 128 l = hI M 128 l) (u1 : hI M2 103 2 = 0) (u2 : hI M2 103 1 = hI M 103 1) (u3 : hI M2 126 8 = 0) (e64 : hI M2 64 15 = hI M 64 15) (e126 : ∀ k, k = 20 ∨ k = 0 ∨ k = 53 → hI M2 126 k = hI M 126 k) (T : Tpe M2) (C : Scl M2) : Sim M2 := by
  have kb : kB = 154 := rfl
  obtain ⟨B, Z, I, _, _, D, n, nl, lw, ⟨HZ, P, Lw, Hd⟩, U⟩ := S
  have lo : low [64, 65, 66, 67, 68, 69, 103, 107, 126, 128] := by intro x q; simp at q; omega
  obtain ⟨w1, w2, w3, w4⟩ := W
  obtain ⟨p1, p2, p3, p4, p5, p6, p7, p8, p9⟩ := P
  obtain ⟨cu, xu, y1, y2, y3, y4, y5, y6⟩ := U
  refine ⟨SimB_E B a (by decide) (e126 20 (by omega)) (e126 0 (by omega)), Scr_E Z a (by decide), Img_E I a lo (by decide), T, C, Drw_E D a (by decide) e64 (e126 53 (by omega)), s.1, nl, lw, ⟨?_, ⟨c2, r0, w1, fun j hj => ?_, ⟨?_, ?_, ?_⟩, ?_, ?_, ?_, ?_⟩, LwS_c Lw (upk_agr a lo) (fun k q => c3 k (by omega)) (by rw [agr_R a]) (fun l q => r2 l (by omega)), HdS_c Hd (fun k q => c3 k (by omega)) (fun l q => r2 l (by omega))⟩, 0, xu, by omega, y2, u1, u2.trans y4, u3, fun k q => absurd q (by omega)⟩
  · intro r q1 q2 k hk
    have : r = 1 ∨ r = 2 ∨ r = 3 ∨ r = 4 := by omega
    have wk := w4 k hk
    rcases this with rfl | rfl | rfl | rfl
    · show hI M2 66 k = 0; rw [c4]; exact wk.1
    · show hI M2 67 k = 0; rw [c5]; exact wk.2.1
    · show hI M2 68 k = 0; rw [c6]; exact wk.2.2.1
    · show hI M2 69 k = 0; rw [c7]; exact wk.2.2.2
  · show hI M2 128 (21 + j) = hI M2 66 j ∧ hI M2 128 (28 + j) = hI M2 67 j ∧ hI M2 128 (7 + j) = hI M2 68 j ∧ hI M2 128 (14 + j) = hI M2 69 j
    rw [c4, c5, c6, c7]
    exact r1 j hj
  · rw [r2 4 (by omega), c3 5 (by decide)]; exact p5.1
  · rw [r2 5 (by omega), c3 6 (by decide)]; exact p5.2.1
  · rw [r2 6 (by omega), c3 7 (by decide)]; exact p5.2.2
  · show PegS (hI M2 68) s.1; rw [c6]; exact w2
  · show KnoS (hI M2 69) s.1; rw [c7]; exact w3
  · rw [c3 5 (by decide)]; exact p8
  · rw [c3 6 (by decide)]; exact p9
def hst (M : hp) (n : Nat) : HSt := (n, hI M 66, hI M 67, hI M 68, hI M 69)
theorem hst_WF {n nl : Nat} {lw : Nat → Nat × (Nat → Cls)} {R : Nat → Int32} (H : HC M 65 R n nl lw) : WFs (hst M n) :=
  ⟨H.2.1.2.2.1, H.2.1.2.2.2.2.2.1, H.2.1.2.2.2.2.2.2.1, fun k hk => ⟨H.1 1 (by omega) (by omega) k hk, H.1 2 (by omega) (by omega) k hk, H.1 3 (by omega) (by omega) k hk, H.1 4 (by omega) (by omega) k hk⟩⟩
theorem hst_Rf {n nl : Nat} {lw : Nat → Nat × (Nat → Cls)} (H : HC M 65 (hI M 128) n nl lw) : RfS M M (hst M n) := ⟨agr_refl _ _, H.2.1.2.1, H.2.1.2.2.2.1, fun _ _ => rfl⟩
theorem T_isHat_b {a b : Int32} : bz (¬ a < 0 ∧ ¬ 3 < a ∧ ¬ b < 0 ∧ ¬ 9 < b) = 0 ↔ ¬ htOk a b := by
  rw [bz_eq0]
  unfold htOk
  simp only [i_le]
  constructor
  · intro h q; exact h ⟨q.1.1, q.1.2, q.2.1, q.2.2⟩
  · intro h q; exact h ⟨⟨q.1, q.2.1⟩, q.2.2.1, q.2.2.2⟩
theorem p_hat {a b : Int32} (S : Sim M) (K : Alk d 175 [(0, .ref 126), (1, .int a), (2, .int b)] M Q) : Wp none d 91 0 [(0, .ref 64), (1, .int a), (2, .int b)] [] M Q := by
  obtain ⟨n, nl, lw, X, H, HO, Y⟩ := Sim_get S
  have n7 := Y.n7
  have ref : ∀ (M1 : hp) (Q2 : Option Value → hp → Prop) (n' : Nat) (D T P W : Nat → Int32) (hr rn : Int32) (L : Law), RP M1 n' D T P W hr rn L → (Wp none d 174 0 [(0, .ref 126), (1, .int a), (2, .int b), (3, .int 0)] [] M1 (fun r M2 => Wp none d 175 13 [(0, .ref 126), (1, .int a), (2, .int b)] (r.toList ++ [.ref 126]) M2 Q2)) → Wp none d 175 0 [(0, .ref 126), (1, .int a), (2, .int b)] [] M1 Q2 := by
    intro M1 Q2 n' D T P W hr rn L Y1 h
    rw [k175_0 (m_9 Y1.F), o0_id Y1, k175_5, k175_10 (m_9 Y1.F)]
    exact h
  rw [k91_0, k91_2, T_isHat]
  simp only [oN]
  rw [k91_5]
  by_cases c : htOk a b
  case neg =>
    rw [if_neg (fun q => q (T_isHat_b.mpr c)), k91_8, k91_10 (x_K64 X), T_refused X]
    simp only [oN]
    rw [k91_13]
    refine p_refused (v := 1) (Or.inl rfl) S K (fun Q2 ag h => ?_)
    have Y1 := RP_64 Y ag (by decide)
    have R1 : RfS (refM M (-(nI 1))) (refM M (-(nI 1))) (hst M n) := by
      have e : hI (refM M (-(nI 1))) 128 = hI M 128 := agr_I ag (by decide)
      have := hst_Rf H
      exact ⟨agr_refl _ _, by rw [e]; exact this.2.1, by rw [e]; exact this.2.2.1, fun _ _ => rfl⟩
    refine ref _ Q2 _ _ _ _ _ _ _ _ Y1 (mComes Y1.F R1 n7 (fun _ => ?_) (fun q => absurd q c) (fun _ q => absurd q c))
    simp only [oM]
    rw [k175_13 (m_9 Y1.F), show (-1 : Int32) = -(nI 1) from by decide, mLast_n Y1.F (by omega) (by omega)]
    simp only [oN]
    rw [k175_16]
    exact h
  rw [if_pos (fun q => (T_isHat_b.mp q) c), x91_14 X, HO.2.1.1, k91_23]
  by_cases c7 : n = 7
  · rw [if_neg (by rw [c7]; decide), k91_26, k91_29 (x_K64 X), T_refused X]
    simp only [oN]
    rw [k91_32]
    refine p_refused (v := 5) (Or.inr (Or.inr (Or.inr (Or.inl rfl)))) S K (fun Q2 ag h => ?_)
    have Y1 := RP_64 Y ag (by decide)
    have R1 : RfS (refM M (-(nI 5))) (refM M (-(nI 5))) (hst M n) := by
      have e : hI (refM M (-(nI 5))) 128 = hI M 128 := agr_I ag (by decide)
      have := hst_Rf H
      exact ⟨agr_refl _ _, by rw [e]; exact this.2.1, by rw [e]; exact this.2.2.1, fun _ _ => rfl⟩
    refine ref _ Q2 _ _ _ _ _ _ _ _ Y1 (mComes Y1.F R1 n7 (fun q => absurd c q) (fun _ _ => ?_) (fun _ _ q => absurd q (by show ¬ n < 7; omega)))
    simp only [oM]
    rw [k175_13 (m_9 Y1.F), show (-5 : Int32) = -(nI 5) from by decide, mLast_n Y1.F (by omega) (by omega)]
    simp only [oN]
    rw [k175_16]
    exact h
  have hn : n < 7 := by omega
  have X1 : XS (sI M 103 2 0) := X
  rw [if_pos (by show nI n < nI 7; rw [n_lt (by omega) (by omega)]; exact hn), x91_33 X, k91_37 (x_K103 X), Past_clear X.2.2.2.2.2.2.2.1]
  simp only [oZ]
  rw [x91_40 X1, k91_47 (x_K65 X1)]
  have C0 : ClS M (sI M 103 2 0) (hst M n) := ⟨agr_sI (by decide), by rw [hI_sI_a (by decide)]; exact HO.2.1.1, fun k _ => hI_sI_a (by decide), by funext k; exact hI_sI_a (by decide), by funext k; exact hI_sI_a (by decide), by funext k; exact hI_sI_a (by decide), by funext k; exact hI_sI_a (by decide)⟩
  refine cl_add X1 C0 hn (fun M1 C1 f1 f2 f3 => ?_)
  have X2 : XS M1 := XS_same (sameS_agq (agq_of (B := []) C1.1) (by intro x q; simp at q)) X
  simp only [oZ]
  have e8 : hI M1 65 8 - 1 = nI n := by
    rw [C1.2.1]
    exact n_subl (n := 1) (by show 1 ≤ n + 1; omega)
  rw [x91_50 X2, e8, k91_60 (x_K64 X2), T_accepted X2]
  simp only [oN]
  rw [k91_63]
  refine K _ _ (fun Q2 h => ?_)
  have a2 : agr [64, 65, 66, 67, 68, 69, 103, 107] M (sI M1 64 19 0) := agr_trans C1.1 (agr_sI (by decide))
  have Y2 := RP_64 Y a2 (by decide)
  have R2 : RfS (sI M1 64 19 0) (sI M1 64 19 0) (hst M n) := by
    have e : hI (sI M1 64 19 0) 128 = hI M 128 := agr_I a2 (by decide)
    have := hst_Rf H
    exact ⟨agr_refl _ _, by rw [e]; exact this.2.1, by rw [e]; exact this.2.2.1, fun _ _ => rfl⟩
  refine ref _ Q2 _ _ _ _ _ _ _ _ Y2 (mComes Y2.F R2 n7 (fun q => absurd c q) (fun _ q => absurd q (by show ¬ n = 7; exact c7)) (fun M3 _ _ F3 R3 e126 => ?_))
  simp only [oM]
  rw [k175_13 (m_9 F3), mLast_p F3 (by show nI 0 ≤ nI n; rw [n_le (by omega) (by omega)]; omega)]
  simp only [oN]
  rw [k175_16]
  have b3 : agr [126, 128] (sI M1 64 19 0) (sI (sI M3 126 8 0) 126 1 0) := agr_trans R3.1 (agr_trans (agr_sI (by decide)) (agr_sI (by decide)))
  have aa : agr [64, 65, 66, 67, 68, 69, 103, 107, 126, 128] M (sI (sI M3 126 8 0) 126 1 0) := agr_trans (agr_mono a2 (by intro x q; simp at q ⊢; omega)) (agr_mono b3 (by intro x q; simp at q ⊢; omega))
  have g128 : hI (sI (sI M3 126 8 0) 126 1 0) 128 = hI M3 128 := by funext k; rw [hI_sI_a (by decide), hI_sI_a (by decide)]
  have gc : ∀ x, ¬ x = 126 → ¬ x = 128 → ¬ x = 64 → hI (sI (sI M3 126 8 0) 126 1 0) x = hI M1 x := by
    intro x q q2 q3
    rw [agr_I b3 (by simp; omega)]
    funext k
    exact hI_sI_a q3
  have g64 : ∀ k, ¬ k = 19 → hI (sI (sI M3 126 8 0) 126 1 0) 64 k = hI M 64 k := fun k q => by rw [agr_I b3 (a := 64) (by decide), hI_sI_k q, f1, hI_sI_a (by decide)]
  have g126 : ∀ k, ¬ k = 1 → ¬ k = 8 → hI (sI (sI M3 126 8 0) 126 1 0) 126 k = hI M 126 k := fun k q q2 => by rw [hI_sI_k q, hI_sI_k q2, e126, agr_I a2 (a := 126) (by decide)]
  refine h _ (Sim_come S (WF_add (a := a) (b := b) (hst_WF H) hn sm_0) aa (by rw [gc 65 (by decide) (by decide) (by decide)]; exact C1.2.1) (fun k q => by rw [gc 65 (by decide) (by decide) (by decide)]; exact C1.2.2.1 k q) (by rw [gc 66 (by decide) (by decide) (by decide)]; exact C1.2.2.2.1) (by rw [gc 67 (by decide) (by decide) (by decide)]; exact C1.2.2.2.2.1) (by rw [gc 68 (by decide) (by decide) (by decide)]; exact C1.2.2.2.2.2.1) (by rw [gc 69 (by decide) (by decide) (by decide)]; exact C1.2.2.2.2.2.2) (by rw [g128]; exact R3.2.1) (by rw [g128]; exact R3.2.2.1) (fun l hl => by rw [g128, R3.2.2.2 l hl, agr_I a2 (a := 128) (by decide)]) (by rw [gc 103 (by decide) (by decide) (by decide), f3, hI_sI_s]) (by rw [gc 103 (by decide) (by decide) (by decide), f3, hI_sI_k (by decide)]) (by rw [hI_sI_k (by decide), hI_sI_s]) (g64 15 (by decide)) (fun k q => g126 k (by omega) (by omega)) ?_ ?_) (by rw [aa.1]; omega) (by rw [aa.2.1]; omega)
  · refine Tpe_fr S.2.2.2.1 ?_ (agr_I aa (by decide)) (agr_I aa (by decide)) (g126 13 (by decide) (by decide))
    rw [gc 107 (by decide) (by decide) (by decide), f2]
    funext k
    exact hI_sI_a (by decide)
  · exact Scl_acc S.2.2.2.2.1 ⟨g64 16 (by decide), g64 17 (by decide), g64 18 (by decide), by rw [agr_I b3 (a := 64) (by decide), hI_sI_s]⟩ (agr_I aa (by decide)) ⟨g126 11 (by decide) (by decide), g126 18 (by decide) (by decide), g126 49 (by decide) (by decide), hI_sI_s _ _ _ _⟩ (agr_I aa (by decide))
