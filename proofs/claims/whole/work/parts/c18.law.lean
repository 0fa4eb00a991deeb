variable {d : Nat} {M : hp} {Q : Option Value → hp → Prop}
/-! law(): a text that is refused; a law that is added -/
def TxE : List Nat := [64, 107, 109, 110, 111, 112, 125, 126, 127, 136, 137, 138, 139, 140, 152]
theorem Sim_bad {Mx My : hp} {v : Nat} (hv : rsnOk v) (S : Sim M) (a : agr [64, 107, 109, 110, 111, 112] M Mx) (e64 : ∀ k, ¬ k = 17 → ¬ k = 18 → hI Mx 64 k = hI M 64 k) (e107 : hI Mx 107 1 = 0) (b : agr [126, 136, 137, 138, 139, 140, 152] (refM Mx (-(nI v))) My) (e126 : ∀ k, tf k = false → ¬ k = 49 → hI My 126 k = hI M 126 k) (e20 : hI My 126 20 = 0) (e13 : hI My 126 13 = 0) (ef : hI Mx 64 17 = hI My 126 18) (es : hI Mx 64 18 = hI My 126 49) : Sim (mRef My v) ∧ hN (mRef My v) = hN M ∧ hS (mRef My v) = hS M := by
  have kb : kB = 154 := rfl
  have ar : agr [64, 125] Mx (refM Mx (-(nI v))) := agr_trans (agr_sI (by decide)) (agr_sI (by decide))
  have aa : agr TxE M (mRef My v) := agr_trans (agr_mono a (by intro x q; simp [TxE] at q ⊢; omega)) (agr_trans (agr_mono ar (by intro x q; simp [TxE] at q ⊢; omega)) (agr_trans (agr_mono b (by intro x q; simp [TxE] at q ⊢; omega)) (agr_trans (agr_sI (by decide)) (agr_sI (by decide)))))
  have lo : low TxE := by intro x q; simp [TxE] at q; omega
  obtain ⟨B, Z, I, T, C, D, n, nl, lw, H, U⟩ := S
  have q126 : ∀ k, ¬ k = 1 → hI (mRef My v) 126 k = hI My 126 k := fun k q => by
    unfold mRef; rw [hI_sI_a (by decide), hI_sI_k q]
  have q1 : hI (mRef My v) 126 1 = -(nI v) := by unfold mRef; rw [hI_sI_a (by decide), hI_sI_s]
  have q64 : ∀ k, ¬ k = 19 → hI (mRef My v) 64 k = hI Mx 64 k := fun k q => by
    unfold mRef; rw [hI_sI_a (by decide), hI_sI_a (by decide), agr_I b (by decide)]
    unfold refM; rw [hI_sI_a (by decide), hI_sI_k q]
  have q19 : hI (mRef My v) 64 19 = -(nI v) := by
    unfold mRef; rw [hI_sI_a (by decide), hI_sI_a (by decide), agr_I b (by decide)]
    unfold refM; rw [hI_sI_a (by decide), hI_sI_s]
  have q107 : hI (mRef My v) 107 1 = 0 := by
    unfold mRef; rw [hI_sI_a (by decide), hI_sI_a (by decide), agr_I b (by decide), agr_I ar (by decide)]; exact e107
  have q125 : ∀ k, hI (mRef My v) 125 k = if k = plcF (-(nI v)) then hI M 125 k + 1 else hI M 125 k := fun k => by
    have e0 : hI Mx 125 = hI M 125 := agr_I a (by decide)
    unfold mRef; rw [hI_sI_a (by decide), hI_sI_a (by decide), agr_I b (by decide)]
    unfold refM
    by_cases c : k = plcF (-(nI v))
    · rw [c, hI_sI_s, if_pos rfl, e0]
    · rw [hI_sI_k c, hI_sI_a (by decide), if_neg c, e0]
  have q127 : ∀ k, hI (mRef My v) 127 k = if k = v then hI M 127 k + 1 else hI M 127 k := fun k => by
    have e0 : hI My 127 = hI M 127 := (agr_I b (by decide)).trans ((agr_I ar (by decide)).trans (agr_I a (by decide)))
    unfold mRef
    by_cases c : k = v
    · rw [c, hI_sI_s, if_pos rfl, e0]
    · rw [hI_sI_k c, hI_sI_a (by decide), e0, if_neg c]
  have C2 : Scl (mRef My v) := by
    obtain ⟨c1, c2, c3, c4, c5, c6, c7, c8, c9⟩ := C
    refine ⟨?_, ?_, ?_, q19.trans q1.symm, ?_, ?_, ?_, ?_, ?_⟩
    · rw [q64 16 (by decide), q126 11 (by decide), e64 16 (by decide) (by decide), e126 11 (by decide) (by decide)]; exact c1
    · rw [q64 17 (by decide), q126 18 (by decide)]; exact ef
    · rw [q64 18 (by decide), q126 49 (by decide)]; exact es
    all_goals (rw [q125, q127]; rcases hv with rfl | rfl | rfl | rfl | rfl <;> simp_all [plcF, show (-(nI 1)) = (-1 : Int32) from by decide, show (-(nI 2)) = (-2 : Int32) from by decide, show (-(nI 3)) = (-3 : Int32) from by decide, show (-(nI 5)) = (-5 : Int32) from by decide, show (-(nI 6)) = (-6 : Int32) from by decide])
  have e65 : hI (mRef My v) 65 = hI M 65 := agr_I aa (by decide)
  exact ⟨⟨SimB_E B aa (by decide) (by rw [q126 20 (by decide), e20]; exact B.2.2.2.2.1.symm) (by rw [q126 0 (by decide)]; exact e126 0 (by decide) (by decide)), Scr_E Z aa (by decide), Img_E I aa lo (by decide), ⟨fun _ => 0, 0, by omega, q107, (q126 13 (by decide)).trans e13, fun i hi => absurd hi (by omega), fun _ => by show 0 < 256; omega⟩, C2, Drw_E D aa (by decide) (by rw [q64 15 (by decide)]; exact e64 15 (by decide) (by decide)) (by rw [q126 53 (by decide)]; exact e126 53 (by decide) (by decide)), n, nl, lw, HC_E H aa lo (by decide), Und_E U aa (by decide) (by rw [e65]) (by rw [e65]) (by rw [q126 8 (by decide)]; exact e126 8 (by decide) (by decide))⟩, aa.1, aa.2.1⟩
theorem XS_RXF (X : XS M) : RXF M := by
  have r := X.2.2.2.2.2.2.2.2.2.2.1
  have t := X.2.2.2.2.2.2.2.2.2.1
  exact ⟨r.1, r.2.1, r.2.2.1, t.2.1, t.2.2.1, t.2.2.2, r.2.2.2.1, r.2.2.2.2.1, r.2.2.2.2.2.1, r.2.2.2.2.2.2.1, r.2.2.2.2.2.2.2.1⟩
/-- the class's memory when a law was added -/
def LwC (M M1 : hp) (nl len n : Nat) (cf : Nat → Cls) : Prop := hN M1 = hN M + 3 ∧ hS M1 = hS M + 4 + len + 8 * n ∧ (∀ a, a < 64 + hN M → hK M1 a = hK M a) ∧ (∀ a, a < 64 + hN M → [64, 65, 107, 109, 110, 111, 112].contains a = false → hI M1 a = hI M a ∧ hL M1 a = hL M a) ∧ (∀ a, a < 64 + hN M → ¬ a = 70 → hR M1 a = hR M a) ∧ (∀ i, hR M1 70 i = if i = nl then 64 + hN M else hR M 70 i) ∧ (∀ k, hI M1 65 k = if k = 9 then nI (nl + 1) else hI M 65 k) ∧ (∀ k, ¬ k = 17 → ¬ k = 19 → hI M1 64 k = hI M 64 k) ∧ hI M1 64 17 = -1 ∧ hI M1 64 19 = 0 ∧ hI M1 107 1 = 0 ∧ TxB M1 (64 + hN M) (n, cf)
theorem law_tail {M' : hp} {nl len n : Nat} {cf : Nat → Cls} {x1 : Int32} (X : XS M) (h90 : 90 ≤ hN M) (h6 : nl < 6) (h9 : hI M 65 9 = nI nl) (a : agr [109, 110, 111, 112] M M') (f2 : hI M' 109 2 = -1) (f3 : hI M' 110 3 = nI n) (f4 : hI M' 110 2 = nI len) (hlen : len ≤ 400) (hn : n ≤ 12) (hc : ∀ j, j < n → ClsR M' len j (cf j)) (hx : ¬ x1 = 0) (hQ : ∀ M1, LwC M M1 nl len n cf → Q (some (.int (nI nl))) M1) : Wp none d 100 37 [(0, .ref 64), (1, .int x1)] [.ref 64] M' Q := by
  have kb : kB = 154 := rfl
  have X' : XS M' := XS_same (sameS_agq (agq_of (B := []) a) (by intro x q; simp at q)) X
  have Xa : XS (sI M' 64 17 (-1)) := X'
  have Xb : XS (sI (sI M' 64 17 (-1)) 107 1 0) := X'
  rw [x100_37 X', x138_0 X', f2, x138_11 Xa]
  simp only [oZ]
  rw [k100_40, k100_41, if_pos hx]
  have bI : ∀ x, ¬ x = 64 → ¬ x = 107 → hI (sI (sI M' 64 17 (-1)) 107 1 0) x = hI M' x := fun x q1 q2 => by funext j; rw [hI_sI_a q2, hI_sI_a q1]
  have b64 : ∀ k, hI (sI (sI M' 64 17 (-1)) 107 1 0) 64 k = if k = 17 then -1 else hI M 64 k := fun k => by
    rw [hI_sI_a (by decide)]
    by_cases c : k = 17
    · rw [c, hI_sI_s, if_pos rfl]
    · rw [hI_sI_k c, if_neg c, agr_I a (by decide)]
  have b107 : hI (sI (sI M' 64 17 (-1)) 107 1 0) 107 1 = 0 := hI_sI_s _ _ _ _
  have bN : hN (sI (sI M' 64 17 (-1)) 107 1 0) = hN M := a.1
  have bS : hS (sI (sI M' 64 17 (-1)) 107 1 0) = hS M := a.2.1
  have bK : hK (sI (sI M' 64 17 (-1)) 107 1 0) = hK M := a.2.2.1
  have bR : hR (sI (sI M' 64 17 (-1)) 107 1 0) = hR M := a.2.2.2.1
  have bL : hL (sI (sI M' 64 17 (-1)) 107 1 0) = hL M' := rfl
  generalize sI (sI M' 64 17 (-1)) 107 1 0 = Mb at *
  have s64 : ∀ x, x < 154 → hR (sNew Mb 7 0 (kNF 7)) x = hR M x := fun x q => by rw [hR_sNew_o (by rw [bN]; omega), bR]
  have k64 : ∀ x, x < 154 → hK (sNew Mb 7 0 (kNF 7)) x = hK M x := fun x q => by rw [hK_sNew_o (by rw [bN]; omega), bK]
  rw [k100_51 (x_K64 Xb) (by rw [bR, x_R64_0 X]; decide) (by rw [k64 64 (by decide)]; exact x_K64 X) (by rw [s64 64 (by decide), x_R64_9 X]; decide) (by rw [s64 64 (by decide), x_R64_9 X, k64 109 (by decide)]; exact x_K109 X) (by rw [s64 64 (by decide), x_R64_9 X, s64 109 (by decide), x_R109_1 X]; decide), s64 64 (by decide), x_R64_9 X, s64 109 (by decide), x_R109_1 X, bR, x_R64_0 X, bN, k100_66]
  have kn : kNF 7 = 4 := by decide
  have cN : hN (sNew Mb 7 0 (kNF 7)) = hN M + 1 := by rw [hN_sNew, bN]
  have cS : hS (sNew Mb 7 0 (kNF 7)) = hS M + 4 := by rw [hS_sNew, bS, kn]
  have cKt : hK (sNew Mb 7 0 (kNF 7)) (64 + hN M) = (7, 0) := by rw [hK_sNew, if_pos (by rw [bN])]
  have cI : ∀ x, x < 64 + hN M → hI (sNew Mb 7 0 (kNF 7)) x = hI Mb x := fun x q => hI_sNew_o (by rw [bN]; exact q)
  have cL : ∀ x, x < 64 + hN M → hL (sNew Mb 7 0 (kNF 7)) x = hL M' x := fun x q => by rw [hL_sNew_o (by rw [bN]; exact q), bL]
  have cK : ∀ x, x < 64 + hN M → hK (sNew Mb 7 0 (kNF 7)) x = hK M x := fun x q => by rw [hK_sNew_o (by rw [bN]; exact q), bK]
  have cR : ∀ x, x < 64 + hN M → hR (sNew Mb 7 0 (kNF 7)) x = hR M x := fun x q => by rw [hR_sNew_o (by rw [bN]; exact q), bR]
  have rs := X.2.2.2.2.2.2.2.2.2.2.1.2.2.2
  generalize sNew Mb 7 0 (kNF 7) = Mc at *
  refine Text_init (len := len) (n := n) (by rw [cKt]) (by rw [cN]; omega) (by omega) ?_ (by rw [cI 110 (by omega), bI 110 (by decide) (by decide)]; exact f4) hlen (by rw [cI 110 (by omega), bI 110 (by decide) (by decide)]; exact f3) hn (fun Md t => ?_)
  · unfold TextS at *
    rw [cK 110 (by omega), cK 111 (by omega), cK 112 (by omega), cR 110 (by omega)]
    exact rs
  obtain ⟨t1, t2, t3, t4, t5, t6, t7, t8, t9, t10, t11, t12⟩ := t
  rw [cN] at t1 t3 t4 t5 t6 t7 t8 t11 t12
  have e65 : 64 + (hN M + 1) = 65 + hN M := by omega
  have e66 : 65 + (hN M + 1) = 66 + hN M := by omega
  rw [e65] at t3 t4 t5 t7 t11
  rw [e66] at t6 t8 t12
  have dI : ∀ x, x < 64 + hN M → hI Md x = hI Mb x := fun x q => ((t4 x (by omega) (by omega)).1).trans (cI x q)
  have dL : ∀ x, x < 64 + hN M → hL Md x = hL M' x := fun x q => ((t4 x (by omega) (by omega)).2.1).trans (cL x q)
  have dR : ∀ x, x < 64 + hN M → hR Md x = hR M x := fun x q => ((t4 x (by omega) (by omega)).2.2).trans (cR x q)
  have dK : ∀ x, x < 64 + hN M → hK Md x = hK M x := fun x q => (t3 x (by omega)).trans (cK x q)
  have Xd : XS Md := XS_same ⟨fun x q => dK x (by omega), fun x q _ => dR x (by omega)⟩ X
  have d9 : hI Md 65 9 = nI nl := by rw [dI 65 (by omega), bI 65 (by decide) (by decide), agr_I a (by decide)]; exact h9
  have dKt : hK Md (64 + hN M) = (7, 0) := (t3 _ (by omega)).trans cKt
  simp only [oZ]
  rw [x100_69 Xd (x_K65 Xd), Hall_addLaw Xd.2.1 d9 h6 (by rw [dKt])]
  simp only [oZ]
  have Xe : XS (sI (sR Md (65 + 5) nl (64 + hN M)) 65 9 (nI (nl + 1))) := XS_same ⟨fun _ _ => rfl, fun x q z => by
    funext j
    rw [hR_sI, hR_sR, if_neg (fun w => z (by rw [w.1]; exact Or.inl rfl))]⟩ Xd
  have Xf : XS (sI (sI (sR Md (65 + 5) nl (64 + hN M)) 65 9 (nI (nl + 1))) 64 19 0) := Xe
  rw [x100_72 Xe, hI_sI_s, n_subl (show 1 ≤ nl + 1 by omega), Nat.add_sub_cancel, x100_82 Xe, T_accepted Xe]
  simp only [oN]
  rw [k100_85]
  have gI : ∀ x, ¬ x = 64 → ¬ x = 65 → hI (sI (sI (sR Md (65 + 5) nl (64 + hN M)) 65 9 (nI (nl + 1))) 64 19 0) x = hI Md x := fun x q1 q2 => by
    funext j
    rw [hI_sI_a q1, hI_sI_a q2, hI_sR]
  refine hQ _ ⟨?_, ?_, fun x q => ?_, fun x q1 q2 => ⟨?_, ?_⟩, fun x q1 q2 => ?_, fun i => ?_, fun k => ?_, fun k q1 q2 => ?_, ?_, hI_sI_s _ _ _ _, ?_, ?_⟩
  · show hN Md = _; rw [t1]
  · show hS Md = _; rw [t2, cS]
  · exact dK x q
  · have q2' : ¬ x = 64 ∧ ¬ x = 65 ∧ ¬ x = 107 ∧ ¬ x = 109 ∧ ¬ x = 110 ∧ ¬ x = 111 ∧ ¬ x = 112 := by simp at q2; omega
    rw [gI x q2'.1 q2'.2.1, dI x q1, bI x q2'.1 q2'.2.2.1]
    exact agr_I a (by simp; omega)
  · have q2' : ¬ x = 109 ∧ ¬ x = 110 ∧ ¬ x = 111 ∧ ¬ x = 112 := by simp at q2; omega
    show hL Md x = _
    rw [dL x q1]
    exact agr_L a (by simp; omega)
  · rw [← dR x q1]
    funext j
    show hR (sR Md (65 + 5) nl (64 + hN M)) x j = _
    rw [hR_sR, if_neg (fun z => q2 z.1)]
  · show hR (sR Md (65 + 5) nl (64 + hN M)) 70 i = _
    rw [hR_sR, show (65 + 5 : Nat) = 70 from rfl, dR 70 (by omega)]
    by_cases c : i = nl
    · rw [if_pos ⟨rfl, c⟩, if_pos c]
    · rw [if_neg (fun z => c z.2), if_neg c]
  · rw [hI_sI_a (by decide)]
    by_cases c : k = 9
    · rw [c, hI_sI_s, if_pos rfl]
    · rw [hI_sI_k c, if_neg c, hI_sR, dI 65 (by omega), bI 65 (by decide) (by decide), agr_I a (by decide)]
  · rw [hI_sI_k q2, hI_sI_a (by decide), hI_sR, dI 64 (by omega), b64, if_neg q1]
  · rw [hI_sI_k (by decide), hI_sI_a (by decide), hI_sR, dI 64 (by omega), b64, if_pos rfl]
  · rw [gI 107 (by decide) (by decide), dI 107 (by omega)]; exact b107
  · have gK : ∀ x, hK (sI (sI (sR Md (65 + 5) nl (64 + hN M)) 65 9 (nI (nl + 1))) 64 19 0) x = hK Md x := fun _ => rfl
    have gR : ∀ x, ¬ x = 70 → hR (sI (sI (sR Md (65 + 5) nl (64 + hN M)) 65 9 (nI (nl + 1))) 64 19 0) x = hR Md x := fun x q => by
      funext j
      show hR (sR Md (65 + 5) nl (64 + hN M)) x j = _
      rw [hR_sR, if_neg (fun z => q z.1)]
    have gN : hN (sI (sI (sR Md (65 + 5) nl (64 + hN M)) 65 9 (nI (nl + 1))) 64 19 0) = hN M + 3 := by show hN Md = _; rw [t1]
    have cc : ∀ k, k < len → hI (sI (sI (sR Md (65 + 5) nl (64 + hN M)) 65 9 (nI (nl + 1))) 64 19 0) (65 + hN M) k = hI M' 111 k := fun k hk => by
      rw [gI _ (by omega) (by omega), t11 k hk, cI 111 (by omega), bI 111 (by decide) (by decide)]
    have cr : ∀ k, k < 8 * n → hI (sI (sI (sR Md (65 + 5) nl (64 + hN M)) 65 9 (nI (nl + 1))) 64 19 0) (66 + hN M) k = hI M' 112 k := fun k hk => by
      rw [gI _ (by omega) (by omega), t12 k hk, cI 112 (by omega), bI 112 (by decide) (by decide)]
    refine ⟨65 + hN M, 66 + hN M, len, 8 * n, len, by omega, by omega, by omega, by omega, by omega, by omega, ⟨by rw [gK, dKt], ?_, ?_, by rw [gK]; exact t5, by rw [gK]; exact t6, by omega, by omega, hlen, by omega⟩, ?_, hlen, ?_, hn, rfl, fun i hi => ?_⟩
    · rw [gR _ (by omega)]; exact t7
    · rw [gR _ (by omega)]; exact t8
    · rw [gI _ (by omega) (by omega)]; exact t9
    · rw [gI _ (by omega) (by omega)]; exact t10
    · obtain ⟨h1, h2, h3⟩ := hc i hi
      have hi : i < n := hi
      exact ⟨(cr _ (by omega)).trans h1, seg_of h2 (Nat.le_refl _) hlen cc (cr _ (by omega)) (cr _ (by omega)), seg_of h3 (Nat.le_refl _) hlen cc (cr _ (by omega)) (cr _ (by omega))⟩
