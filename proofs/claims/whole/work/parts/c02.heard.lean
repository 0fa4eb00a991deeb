variable {d : Nat} {M : hp} {Q : Option Value → hp → Prop}
/-! heard(), forget(), force() -/
theorem PiS_c {M' : hp} {h n : Nat} {R R' : Nat → Int32} (H : PiS M h R n) (e : ∀ k, k = 5 ∨ k = 6 ∨ k = 7 ∨ k = 8 → hI M' h k = hI M h k) (ea : ∀ r, 1 ≤ r → r ≤ 4 → hI M' (h + r) = hI M (h + r)) (eR : ∀ l, l = 0 ∨ (4 ≤ l ∧ l < 35) → R' l = R l) : PiS M' h R' n := by
  unfold PiS at *
  rw [e 5 (by omega), e 6 (by omega), e 7 (by omega), e 8 (by omega), ea 1 (by omega) (by omega), ea 2 (by omega) (by omega), ea 3 (by omega) (by omega), ea 4 (by omega) (by omega), eR 0 (by omega), eR 4 (by omega), eR 5 (by omega), eR 6 (by omega)]
  refine ⟨H.1, H.2.1, H.2.2.1, fun j hj => ?_, H.2.2.2.2⟩
  rw [eR _ (by omega), eR _ (by omega), eR _ (by omega), eR _ (by omega)]
  exact H.2.2.2.1 j hj
theorem HdS_c {M' : hp} {h : Nat} {R R' : Nat → Int32} (H : HdS M h R) (e : ∀ k, k = 11 ∨ k = 12 ∨ k = 13 → hI M' h k = hI M h k) (eR : ∀ l, l = 1 ∨ (35 ≤ l ∧ l < 47) → R' l = R l) : HdS M' h R' := by
  obtain ⟨hc, hk, hb, H1, H2⟩ := H
  refine ⟨hc, hk, hb, ⟨(eR 1 (by omega)).trans H1.1, H1.2.1, fun k q => ?_⟩, by rw [e 11 (by omega), e 12 (by omega), e 13 (by omega)]; exact H2⟩
  have := H1.2.2 k q
  have h6 := H1.2.1
  exact ⟨(eR _ (by omega)).trans this.1, this.2.1, (eR _ (by omega)).trans this.2.2⟩
theorem LwS_c {M' : hp} {h nl : Nat} {lw : Nat → Nat × (Nat → Cls)} {R R' : Nat → Int32} (H : LwS M h R nl lw) (u : upk M M') (e : ∀ k, k = 9 ∨ k = 10 → hI M' h k = hI M h k) (e5 : hR M' (h + 5) = hR M (h + 5)) (eR : ∀ l, l = 2 ∨ l = 3 ∨ (47 ≤ l ∧ l < 5447) → R' l = R l) : LwS M' h R' nl lw := by
  obtain ⟨h1, h2, h3, h4, h5, h6, h7⟩ := H
  have un := u.1
  refine ⟨by rw [e 9 (by omega)]; exact h1, (eR 2 (by omega)).trans h2, h3, fun i hi => ?_, fun i hi => ?_, by rw [e 10 (by omega), eR 3 (by omega)]; exact h6, by rw [eR 3 (by omega)]; exact h7⟩
  · rw [e5]
    exact ⟨TxB_up (h4 i hi).1 u, LwF_reg (h4 i hi).2 (fun l q1 q2 => eR l (by omega))⟩
  · rw [e5]
    rcases h5 i hi with z | z
    · exact Or.inl z
    · exact Or.inr ⟨by rw [u.2.1 _ z.2]; exact z.1, by have := z.2; omega⟩
theorem HallZ_c {M' : hp} {h : Nat} (H : HallZ M h) (e : ∀ r, 1 ≤ r → r ≤ 4 → hI M' (h + r) = hI M (h + r)) : HallZ M' h := by
  intro r r1 r2 k hk
  rw [e r r1 r2]
  exact H r r1 r2 k hk
theorem Scl_acc {M1 : hp} (C : Scl M) (e1 : hI M1 64 16 = hI M 64 16 ∧ hI M1 64 17 = hI M 64 17 ∧ hI M1 64 18 = hI M 64 18 ∧ hI M1 64 19 = 0) (e2 : hI M1 125 = hI M 125) (e3 : hI M1 126 11 = hI M 126 11 ∧ hI M1 126 18 = hI M 126 18 ∧ hI M1 126 49 = hI M 126 49 ∧ hI M1 126 1 = 0) (e4 : hI M1 127 = hI M 127) : Scl M1 := by
  obtain ⟨c1, c2, c3, c4, c5⟩ := C
  refine ⟨e1.1.trans (c1.trans e3.1.symm), e1.2.1.trans (c2.trans e3.2.1.symm), e1.2.2.1.trans (c3.trans e3.2.2.1.symm), e1.2.2.2.trans e3.2.2.2.symm, ?_⟩
  rw [e2, e4]
  exact c5
/-- the hall's own numbers, status and the row change -/
theorem Sim_hall {M2 : hp} (S : Sim M) (a : agr [64, 65, 126, 128] M M2) (e64 : ∀ k, ¬ k = 19 → hI M2 64 k = hI M 64 k) (e126 : ∀ k, ¬ k = 1 → hI M2 126 k = hI M 126 k) (s1 : hI M2 64 19 = 0) (s2 : hI M2 126 1 = 0) (H : ∀ n nl lw, HC M 65 (hI M 128) n nl lw → Und M n → ∃ n nl lw, HC M2 65 (hI M2 128) n nl lw ∧ Und M2 n) : Sim M2 := by
  obtain ⟨B, Z, I, T, C, D, n, nl, lw, H0, U⟩ := S
  have lo : low [64, 65, 126, 128] := by intro x q; simp at q; have : kB = 154 := rfl; omega
  exact ⟨SimB_E B a (by decide) (e126 20 (by decide)) (e126 0 (by decide)), Scr_E Z a (by decide), Img_E I a lo (by decide), Tpe_E T a (by decide) (e126 13 (by decide)), Scl_acc C ⟨e64 16 (by decide), e64 17 (by decide), e64 18 (by decide), s1⟩ (agr_I a (by decide)) ⟨e126 11 (by decide), e126 18 (by decide), e126 49 (by decide), s2⟩ (agr_I a (by decide)), Drw_E D a (by decide) (e64 15 (by decide)) (e126 53 (by decide)), H n nl lw H0 U⟩
theorem kMask_s (hk : Nat → Nat) (hb : Nat → Bool) (v b : Bool) (hc t : Nat) : kMask (fun k => if k = hc then t else hk k) (fun k => if k = hc then b else hb k) v (hc + 1) = if b = v then kMask hk hb v hc ||| ((1 : Int32) <<< (nI t &&& 31)) else kMask hk hb v hc := by
  unfold kMask
  rw [fo_end, Nat.zero_add]
  have e : fo (fun k x => if (if k = hc then b else hb k) = v then x ||| ((1 : Int32) <<< (nI (if k = hc then t else hk k) &&& 31)) else x) 0 hc 0 = fo (fun k x => if hb k = v then x ||| ((1 : Int32) <<< (nI (hk k) &&& 31)) else x) 0 hc 0 := fo_cong hc 0 0 (fun k x _ q => by rw [if_neg (show ¬ k = hc by omega), if_neg (show ¬ k = hc by omega)])
  rw [e]
  simp
theorem p_heard {t w : Int32} (S : Sim M) (K : Alk d 250 [(0, .ref 126), (1, .int t), (2, .int w)] M Q) : Wp none d 118 0 [(0, .ref 64), (1, .int t), (2, .int w)] [] M Q := by
  have kb : kB = 154 := rfl
  obtain ⟨n, nl, lw, X, H, HO, Y⟩ := Sim_get S
  obtain ⟨hc, hk, hb, R, r11, r12, r13⟩ := HC_RH H
  have h6 := R.2.1
  have bad : ¬ ((¬ t < 0 ∧ ¬ 8 ≤ t) ∧ 0 ≤ w ∧ w ≤ 1) → Wp none d 118 16 [(0, .ref 64), (1, .int t), (2, .int w)] [] M Q := by
    intro c
    rw [k118_16, k118_18 (x_K64 X), T_refused X]
    simp only [oN]
    rw [k118_21]
    refine p_refused (v := 1) (Or.inl rfl) S K (fun Q2 a h => ?_)
    have Y1 := RP_64 Y a (by decide)
    rw [k250_0 (m_9 Y1.F), o0_id Y1, k250_5, k250_6, mIsThought]
    simp only [oN]
    rw [k250_9]
    have fin : Wp none d 250 22 [(0, .ref 126), (1, .int t), (2, .int w)] [] (refM M (-(nI 1))) Q2 := by
      rw [k250_22, k250_24 (m_9 Y1.F), show (-1 : Int32) = -(nI 1) from by decide, mTell_n Y1.F (by omega) (by omega)]
      simp only [oN]
      rw [k250_27]
      exact h
    by_cases c1 : ¬ t < 0 ∧ ¬ 8 ≤ t
    · rw [if_neg (by rw [bz_eq0]; exact fun q => q c1), k250_12, k250_16, mIn, in_lit (x := 0) (y := 1) (a := 0) (b := 1) rfl rfl]
      simp only [oN]
      rw [k250_19, if_neg (by rw [bz_eq0]; exact fun q => q (fun z => c ⟨c1, z⟩))]
      exact fin
    · rw [if_pos (by rw [bz_eq0]; exact c1)]
      exact fin
  rw [k118_0, k118_1, T_isThought]
  simp only [oN]
  rw [k118_4]
  by_cases c1 : ¬ t < 0 ∧ ¬ 8 ≤ t
  case neg =>
    rw [if_pos (by rw [bz_eq0]; exact c1)]
    exact bad (fun q => c1 q.1)
  rw [if_neg (by rw [bz_eq0]; exact fun q => q c1), k118_7, k118_8]
  by_cases c2 : w < 0
  · rw [if_pos c2]
    exact bad (fun q => i_le.mp q.2.1 c2)
  rw [if_neg c2, k118_11, k118_13]
  by_cases c3 : w ≤ 1
  case neg =>
    rw [if_neg c3]
    exact bad (fun q => c3 q.2.2)
  have ch : 0 ≤ w ∧ w ≤ 1 := ⟨i_le.mpr c2, c3⟩
  -- the reference's way past its two questions
  have go : ∀ (M1 : hp) (Q2 : Option Value → hp → Prop), RP M1 n (hI M 66) (hI M 67) (hI M 68) (hI M 69) (hI M 65 5) (hI M 65 7) (lawOf (hI M 128 3) lw) → hI M1 128 1 = nI hc → (Wp none d 250 38 [(0, .ref 126), (1, .int t), (2, .int w), (3, .int (nI hc))] [.int 6, .int (nI hc)] M1 Q2) → Wp none d 250 0 [(0, .ref 126), (1, .int t), (2, .int w)] [] M1 Q2 := by
    intro M1 Q2 Y1 e1 h
    rw [k250_0 (m_9 Y1.F), o0_id Y1, k250_5, k250_6, mIsThought]
    simp only [oN]
    rw [k250_9, if_neg (by rw [bz_eq0]; exact fun q => q c1), k250_12, k250_16, mIn, in_lit (x := 0) (y := 1) (a := 0) (b := 1) rfl rfl]
    simp only [oN]
    rw [k250_19, if_pos (by rw [bz_eq0]; exact fun q => q ch), m250_28 Y1.F (by decide), show (1 : Int32).toNatClampNeg = 1 from rfl, e1]
    exact h
  rw [if_pos c3, x118_22 X, r11, k118_31]
  by_cases c4 : hc = 6
  · rw [if_neg (by rw [c4]; decide), k118_34, k118_37 (x_K64 X), T_refused X]
    simp only [oN]
    rw [k118_40]
    refine p_refused (v := 5) (Or.inr (Or.inr (Or.inr (Or.inl rfl)))) S K (fun Q2 a h => ?_)
    have Y1 := RP_64 Y a (by decide)
    refine go _ Q2 Y1 (by rw [agr_I a (a := 128) (by decide)]; exact R.1) ?_
    rw [k250_38, if_neg (by rw [c4]; decide), k250_41, k250_44 (m_9 Y1.F), show (-5 : Int32) = -(nI 5) from by decide, mTell_n Y1.F (by omega) (by omega)]
    simp only [oN]
    rw [k250_47]
    exact h
  obtain ⟨tt, t8, rfl⟩ : ∃ tt, tt < 8 ∧ t = nI tt := by
    obtain ⟨j, j1, j2⟩ := (vin_of2 (n := 8) c1.1 c1.2 (by omega)).2
    exact ⟨j, j1, j2⟩
  have hw : w = 0 ∨ w = 1 := by
    have z1 := ch.1
    have z2 := ch.2
    rw [fa_le, show (0 : Int32).toInt = 0 from rfl] at z1
    rw [fa_le, show (1 : Int32).toInt = 1 from rfl] at z2
    rw [fa_eq, fa_eq, show (0 : Int32).toInt = 0 from rfl, show (1 : Int32).toInt = 1 from rfl]
    omega
  rw [if_pos (by rw [show (6 : Int32) = nI 6 from rfl, n_lt (by omega) (by omega)]; omega), x118_41 X, k118_47 (x_K65 X), Hall_hear X.2.1]
  simp only [oZ]
  have main : ∀ (Mh : hp) (b : Bool), agr [65] M Mh → hI Mh 65 11 = nI (hc + 1) → hI Mh 65 12 = kMask (fun k => if k = hc then tt else hk k) (fun k => if k = hc then b else hb k) true (hc + 1) → hI Mh 65 13 = kMask (fun k => if k = hc then tt else hk k) (fun k => if k = hc then b else hb k) false (hc + 1) → (∀ k, k < 11 → hI Mh 65 k = hI M 65 k) → w = (if b = true then 1 else 0) → Wp none d 118 50 [(0, .ref 64), (1, .int (nI tt)), (2, .int w)] [] Mh Q := by
    intro Mh b ah h11 h12 h13 hlt hwb
    have Xh : XS Mh := XS_same (sameS_agq (agq_of (B := []) ah) (by intro x q; simp at q)) X
    rw [x118_50 Xh, h11, k118_58 (x_K64 Xh), T_accepted Xh]
    simp only [oN]
    rw [k118_61]
    have a1 : agr [64, 65] M (sI Mh 64 19 0) := agr_trans (agr_mono ah (by intro x q; simp at q ⊢; omega)) (agr_sI (by decide))
    refine K _ _ (fun Q2 h => ?_)
    have Y1 := RP_64 Y a1 (by decide)
    have F1 := Y1.F
    have e128 : hI (sI Mh 64 19 0) 128 = hI M 128 := agr_I a1 (by decide)
    refine go _ Q2 Y1 (by rw [e128]; exact R.1) ?_
    have e35 : (35 : Int32) + 2 * nI hc = nI (35 + 2 * hc) := by rw [show (35 : Int32) = nI 35 from rfl, show (2 : Int32) = nI 2 from rfl, n_mul, nI_add]
    generalize hM1 : sI Mh 64 19 0 = M1 at a1 F1 e128 h
    have s19 : hI M1 64 19 = 0 := by rw [← hM1, hI_sI_s]
    have s64 : ∀ k, ¬ k = 19 → hI M1 64 k = hI M 64 k := by
      intro k hk'
      rw [← hM1, hI_sI_k hk', agr_I ah (a := 64) (by decide)]
    have s65 : hI M1 65 = hI Mh 65 := by rw [← hM1]; funext k; exact hI_sI_a (by decide)
    have F2 : MF (sI M1 128 (35 + 2 * hc) (nI tt)) := F1
    have F3 : MF (sI (sI M1 128 (35 + 2 * hc) (nI tt)) 128 (35 + 2 * hc + 1) w) := F1
    have F4 : MF (sI (sI (sI M1 128 (35 + 2 * hc) (nI tt)) 128 (35 + 2 * hc + 1) w) 128 1 (nI (hc + 1))) := F1
    rw [k250_38, if_pos (by rw [show (6 : Int32) = nI 6 from rfl, n_eq (by omega) (by omega)]; exact c4), m250_48 F1 (by rw [e35]; exact v54 (by omega)), e35, n_cl (by omega), m250_60 F2 (by rw [e35, nI_1]; exact v54 (by omega)), e35, nI_1, n_cl (by omega), m250_74 F3 (by decide), show (1 : Int32).toNatClampNeg = 1 from rfl, hI_sI_k (by omega), hI_sI_k (by omega), e128, show hI M 128 1 = nI hc from R.1, nI_1, k250_84, nI_1, k250_88 (m_9 F4), mTell_p F4 (by show nI 0 ≤ nI (hc + 1); rw [n_le (by omega) (by omega)]; omega)]
    simp only [oN]
    rw [k250_91]
    have aa : agr [64, 65, 126, 128] M (sI (sI (sI (sI M1 128 (35 + 2 * hc) (nI tt)) 128 (35 + 2 * hc + 1) w) 128 1 (nI (hc + 1))) 126 1 0) := agr_trans (agr_mono a1 (by intro x q; simp at q ⊢; omega)) (agr_trans (agr_trans (agr_trans (agr_sI (by decide)) (agr_sI (by decide))) (agr_sI (by decide))) (agr_sI (by decide)))
    have r128 : ∀ l, ¬ l = 1 → ¬ l = 35 + 2 * hc → ¬ l = 35 + 2 * hc + 1 → hI (sI (sI (sI (sI M1 128 (35 + 2 * hc) (nI tt)) 128 (35 + 2 * hc + 1) w) 128 1 (nI (hc + 1))) 126 1 0) 128 l = hI M 128 l := by
      intro l q1 q2 q3
      rw [hI_sI_a (by decide), hI_sI_k q1, hI_sI_k q3, hI_sI_k q2, e128]
    have r64 : ∀ x, ¬ x = 126 → ¬ x = 128 → hI (sI (sI (sI (sI M1 128 (35 + 2 * hc) (nI tt)) 128 (35 + 2 * hc + 1) w) 128 1 (nI (hc + 1))) 126 1 0) x = hI M1 x := by
      intro x q1 q2
      funext k
      rw [hI_sI_a q1, hI_sI_a q2, hI_sI_a q2, hI_sI_a q2]
    refine h _ (Sim_hall S aa (fun k q => by rw [r64 64 (by decide) (by decide)]; exact s64 k q) (fun k q => by rw [hI_sI_k q, hI_sI_a (by decide), hI_sI_a (by decide), hI_sI_a (by decide), agr_I a1 (a := 126) (by decide)]) (by rw [r64 64 (by decide) (by decide)]; exact s19) (hI_sI_s _ _ _ _) (fun n' nl' lw' H' U' => ?_)) (by rw [show hN (sI (sI (sI (sI M1 128 (35 + 2 * hc) (nI tt)) 128 (35 + 2 * hc + 1) w) 128 1 (nI (hc + 1))) 126 1 0) = hN M from aa.1]; omega) (by rw [show hS (sI (sI (sI (sI M1 128 (35 + 2 * hc) (nI tt)) 128 (35 + 2 * hc + 1) w) 128 1 (nI (hc + 1))) 126 1 0) = hS M from aa.2.1]; omega)
    have e65 : ∀ k, k < 11 → hI (sI (sI (sI (sI M1 128 (35 + 2 * hc) (nI tt)) 128 (35 + 2 * hc + 1) w) 128 1 (nI (hc + 1))) 126 1 0) 65 k = hI M 65 k := fun k q => by rw [r64 65 (by decide) (by decide), s65]; exact hlt k q
    have ear : ∀ r, 1 ≤ r → r ≤ 4 → hI (sI (sI (sI (sI M1 128 (35 + 2 * hc) (nI tt)) 128 (35 + 2 * hc + 1) w) 128 1 (nI (hc + 1))) 126 1 0) (65 + r) = hI M (65 + r) := by
      intro r r1 r2
      have : r = 1 ∨ r = 2 ∨ r = 3 ∨ r = 4 := by omega
      rcases this with rfl | rfl | rfl | rfl <;> exact agr_I aa (by decide)
    refine ⟨n', nl', lw', ⟨HallZ_c H'.1 ear, PiS_c H'.2.1 (fun k q => e65 k (by omega)) ear (fun l q => r128 l (by omega) (by omega) (by omega)), LwS_c H'.2.2.1 (upk_agr aa (by intro x q; simp at q; omega)) (fun k q => e65 k (by omega)) (by rw [agr_R aa]) (fun l q => r128 l (by omega) (by omega) (by omega)), hc + 1, fun k => if k = hc then tt else hk k, fun k => if k = hc then b else hb k, ⟨?_, by omega, fun k hk' => ?_⟩, ?_, ?_, ?_⟩, Und_E U' aa (by decide) (e65 6 (by omega)) (e65 7 (by omega)) ?_⟩
    · show hI (sI (sI (sI (sI M1 128 (35 + 2 * hc) (nI tt)) 128 (35 + 2 * hc + 1) w) 128 1 (nI (hc + 1))) 126 1 0) 128 1 = _
      rw [hI_sI_a (by decide), hI_sI_s]
    · show hI (sI (sI (sI (sI M1 128 (35 + 2 * hc) (nI tt)) 128 (35 + 2 * hc + 1) w) 128 1 (nI (hc + 1))) 126 1 0) 128 (35 + 2 * k) = nI (if k = hc then tt else hk k) ∧ (if k = hc then tt else hk k) < 8 ∧ hI (sI (sI (sI (sI M1 128 (35 + 2 * hc) (nI tt)) 128 (35 + 2 * hc + 1) w) 128 1 (nI (hc + 1))) 126 1 0) 128 (35 + 2 * k + 1) = (if (if k = hc then b else hb k) = true then 1 else 0)
      by_cases c5 : k = hc
      · rw [if_pos c5, if_pos c5, c5]
        refine ⟨?_, t8, ?_⟩
        · rw [hI_sI_a (by decide), hI_sI_k (by omega), hI_sI_k (by omega), hI_sI_s]
        · rw [hI_sI_a (by decide), hI_sI_k (by omega), hI_sI_s]
          exact hwb
      · rw [if_neg c5, if_neg c5, r128 _ (by omega) (by omega) (by omega), r128 _ (by omega) (by omega) (by omega)]
        exact R.2.2 k (by omega)
    · rw [r64 65 (by decide) (by decide), s65]; exact h11
    · rw [r64 65 (by decide) (by decide), s65]; exact h12
    · rw [r64 65 (by decide) (by decide), s65]; exact h13
    · rw [hI_sI_k (by decide), hI_sI_a (by decide), hI_sI_a (by decide), hI_sI_a (by decide), agr_I a1 (a := 126) (by decide)]
  rcases hw with hw | hw
  · rw [if_neg (by rw [hw]; decide)]
    refine main _ false (agr_trans (agr_sI (by decide)) (agr_sI (by decide))) ?_ ?_ ?_ (fun k q => ?_) (by rw [hw]; rfl)
    · rw [hI_sI_k (by decide), hI_sI_s, r11, nI_1]
    · rw [hI_sI_k (by decide), hI_sI_k (by decide), r12, kMask_s, if_neg (by decide)]
    · rw [hI_sI_s, r13, kMask_s, if_pos rfl]
    · rw [hI_sI_k (by omega), hI_sI_k (by omega)]
  · rw [if_pos hw]
    refine main _ true (agr_trans (agr_sI (by decide)) (agr_sI (by decide))) ?_ ?_ ?_ (fun k q => ?_) (by rw [hw]; rfl)
    · rw [hI_sI_k (by decide), hI_sI_s, r11, nI_1]
    · rw [hI_sI_s, r12, kMask_s, if_pos rfl]
    · rw [hI_sI_k (by decide), hI_sI_k (by decide), r13, kMask_s, if_neg (by decide)]
    · rw [hI_sI_k (by omega), hI_sI_k (by omega)]
