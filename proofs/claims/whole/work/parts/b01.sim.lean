variable {d : Nat} {M : hp} {Q : Option Value → hp → Prop}
/-! the class and the reference beside one another -/
theorem rowR_reg {M' : hp} {A len i : Nat} {x : Cls} (h : rowR M A len i x) (hlen : len ≤ 400) (hi : i < 12) (e : ∀ l, A ≤ l → l < A + 900 → hI M' 128 l = hI M 128 l) : rowR M' A len i x := by
  obtain ⟨h1, h2, f, g, h3, h4, h5, h6, h7⟩ := h
  have cg : ∀ f g D, g ≤ len → SegR false (rOp M A) (rArg M A) f g D → SegR false (rOp M' A) (rArg M' A) f g D := fun f g D hg s => SegR_cong s (fun j q1 q2 => ⟨(e _ (by omega) (by omega)).symm, (e _ (by omega) (by omega)).symm⟩)
  refine ⟨(e _ (by omega) (by omega)).trans h1, ?_, f, g, (e _ (by omega) (by omega)).trans h3, (e _ (by omega) (by omega)).trans h4, h5, h6, ?_⟩
  · rcases h2 with z | ⟨z, f', g', z1, z2, z3, z4⟩
    · exact Or.inl z
    · exact Or.inr ⟨z, f', g', (e _ (by omega) (by omega)).trans z1, (e _ (by omega) (by omega)).trans z2, z3, cg _ _ _ z3 z4⟩
  · rcases h7 with z | z
    · exact Or.inl z
    · exact Or.inr (cg _ _ _ h6 z)
/-- a memory that holds a row alone -/
def rM (R : Nat → Int32) : hp := (0, 0, fun _ => (0, 0), fun _ k => R k, fun _ _ => 0, fun _ _ => 0)
theorem rM_R (R : Nat → Int32) : hI (rM R) 128 = R := rfl
/-- a law's place in a row -/
def LwF (R : Nat → Int32) (i : Nat) (y : Nat × (Nat → Cls)) : Prop := ∃ len, len ≤ 400 ∧ y.1 ≤ 12 ∧ R (47 + 900 * i + 1) = nI y.1 ∧ ∀ c, c < y.1 → rowR (rM R) (47 + 900 * i) len c (y.2 c)
theorem LwF_reg {R R' : Nat → Int32} {i : Nat} {y : Nat × (Nat → Cls)} (h : LwF R i y) (e : ∀ l, 47 + 900 * i ≤ l → l < 947 + 900 * i → R' l = R l) : LwF R' i y := by
  obtain ⟨len, h1, h2, h3, h4⟩ := h
  exact ⟨len, h1, h2, (e _ (by omega) (by omega)).trans h3, fun c hc => rowR_reg (h4 c hc) h1 (by omega) (fun l q1 q2 => e l (by omega) (by omega))⟩
theorem LwF_MLaw {i : Nat} {y : Nat × (Nat → Cls)} (h : LwF (hI M 128) i y) (hi : i < 6) (h3 : hI M 128 3 = nI i) : MLaw M (some y) := by
  obtain ⟨len, h1, h2, h4, h5⟩ := h
  exact ⟨i, len, h3, hi, h1, h2, h4, fun c hc => rowR_128 (h5 c hc) rfl⟩
/-- a text that was made of a law -/
def TxB (M : hp) (t : Nat) (y : Nat × (Nat → Cls)) : Prop := ∃ tc tr lc lr len, kB ≤ t ∧ kB ≤ tc ∧ kB ≤ tr ∧ t < 64 + hN M ∧ tc < 64 + hN M ∧ tr < 64 + hN M ∧ TextD M t tc tr lc lr len y.1 y.2
/-- what was made stays -/
def upk (M M' : hp) : Prop := hN M ≤ hN M' ∧ (∀ a, a < 64 + hN M → hK M' a = hK M a) ∧ ∀ a, kB ≤ a → a < 64 + hN M → hI M' a = hI M a ∧ hR M' a = hR M a
theorem upk_agq {E B : List Nat} {M M' : hp} (h : agq E B M M') (hl : low E) (hb : low B) : upk M M' := ⟨by rw [h.1]; exact Nat.le_refl _, fun a _ => by rw [h.2.2.1], fun a ha _ => ⟨(h.2.2.2.2 a (low_not hl ha)).1, h.2.2.2.1 a (low_not hb ha)⟩⟩
theorem upk_trans {M M1 M2 : hp} (h : upk M M1) (h2 : upk M1 M2) : upk M M2 := ⟨Nat.le_trans h.1 h2.1, fun a q => (h2.2.1 a (by have := h.1; omega)).trans (h.2.1 a q), fun a q q2 => ⟨((h2.2.2 a q (by have := h.1; omega)).1).trans (h.2.2 a q q2).1, ((h2.2.2 a q (by have := h.1; omega)).2).trans (h.2.2 a q q2).2⟩⟩
theorem TxB_up {M' : hp} {t : Nat} {y : Nat × (Nat → Cls)} (h : TxB M t y) (u : upk M M') : TxB M' t y := by
  obtain ⟨tc, tr, lc, lr, len, h1, h2, h3, h4, h5, h6, HT⟩ := h
  have un := u.1
  refine ⟨tc, tr, lc, lr, len, h1, h2, h3, by omega, by omega, by omega, ?_⟩
  unfold TextD TextS SegD gI at *
  rw [u.2.1 t h4, u.2.1 tc h5, u.2.1 tr h6, (u.2.2 t h1 h4).1, (u.2.2 t h1 h4).2, (u.2.2 tc h2 h5).1, (u.2.2 tr h3 h6).1]
  exact HT
theorem TxB_LawV {t : Nat} {y : Nat × (Nat → Cls)} (h : TxB M t y) : LawV M (.ref t) (some y) := by
  obtain ⟨tc, tr, lc, lr, len, h1, h2, h3, _, _, _, HT⟩ := h
  exact ⟨t, tc, tr, lc, lr, len, rfl, h1, h2, h3, HT⟩
theorem TxB_7 {t : Nat} {y : Nat × (Nat → Cls)} (h : TxB M t y) : (hK M t).1 = 7 := by
  obtain ⟨tc, tr, lc, lr, len, _, _, _, _, _, _, HT⟩ := h
  exact HT.1.1
/-- the laws of a hall and of a row -/
def LwS (M : hp) (h : Nat) (R : Nat → Int32) (nl : Nat) (lw : Nat → Nat × (Nat → Cls)) : Prop := hI M h 9 = nI nl ∧ R 2 = nI nl ∧ nl ≤ 6 ∧ (∀ i, i < nl → TxB M (hR M (h + 5) i) (lw i) ∧ LwF R i (lw i)) ∧ (∀ i, i < 6 → hR M (h + 5) i = 0 ∨ (hK M (hR M (h + 5) i)).1 = 7 ∧ hR M (h + 5) i < 64 + hN M) ∧ hI M h 10 = R 3 ∧ (R 3 = -1 ∨ ∃ i, i < nl ∧ R 3 = nI i)
/-- what was heard, of a hall and of a row -/
def HdS (M : hp) (h : Nat) (R : Nat → Int32) : Prop := ∃ hc hk hb, RH (rM R) hc hk hb ∧ hI M h 11 = nI hc ∧ hI M h 12 = kMask hk hb true hc ∧ hI M h 13 = kMask hk hb false hc
/-- hats, pegs, thoughts and terms of a hall and of a row -/
def PiS (M : hp) (h : Nat) (R : Nat → Int32) (n : Nat) : Prop := hI M h 8 = nI n ∧ R 0 = nI n ∧ n ≤ 7 ∧ (∀ j, j < 7 → R (21 + j) = hI M (h + 1) j ∧ R (28 + j) = hI M (h + 2) j ∧ R (7 + j) = hI M (h + 3) j ∧ R (14 + j) = hI M (h + 4) j) ∧ (R 4 = hI M h 5 ∧ R 5 = hI M h 6 ∧ R 6 = hI M h 7) ∧ PegS (hI M (h + 3)) n ∧ KnoS (hI M (h + 4)) n ∧ (∃ x, x ≤ 999 ∧ hI M h 5 = nI x) ∧ ∃ x, x ≤ 10 ∧ hI M h 6 = nI x
def HC (M : hp) (h : Nat) (R : Nat → Int32) (n nl : Nat) (lw : Nat → Nat × (Nat → Cls)) : Prop := HallZ M h ∧ PiS M h R n ∧ LwS M h R nl lw ∧ HdS M h R
theorem PiS_fr {M' : hp} {h n : Nat} {R R' : Nat → Int32} (H : PiS M h R n) (e : ∀ r, r ≤ 4 → hI M' (h + r) = hI M (h + r)) (eR : ∀ l, l < 5447 → R' l = R l) : PiS M' h R' n := by
  have e0 : hI M' h = hI M h := e 0 (by omega)
  unfold PiS at *
  rw [e0, e 1 (by omega), e 2 (by omega), e 3 (by omega), e 4 (by omega), eR 0 (by omega), eR 4 (by omega), eR 5 (by omega), eR 6 (by omega)]
  refine ⟨H.1, H.2.1, H.2.2.1, fun j hj => ?_, H.2.2.2.2⟩
  rw [eR _ (by omega), eR _ (by omega), eR _ (by omega), eR _ (by omega)]
  exact H.2.2.2.1 j hj
theorem HdS_fr {M' : hp} {h : Nat} {R R' : Nat → Int32} (H : HdS M h R) (e : hI M' h = hI M h) (eR : ∀ l, l < 5447 → R' l = R l) : HdS M' h R' := by
  obtain ⟨hc, hk, hb, H1, H2⟩ := H
  refine ⟨hc, hk, hb, ⟨(eR 1 (by omega)).trans H1.1, H1.2.1, fun k q => ?_⟩, by rw [e]; exact H2⟩
  have := H1.2.2 k q
  have h6 := H1.2.1
  exact ⟨(eR _ (by omega)).trans this.1, this.2.1, (eR _ (by omega)).trans this.2.2⟩
theorem LwS_fr {M' : hp} {h nl : Nat} {lw : Nat → Nat × (Nat → Cls)} {R R' : Nat → Int32} (H : LwS M h R nl lw) (u : upk M M') (e : hI M' h = hI M h) (e5 : hR M' (h + 5) = hR M (h + 5)) (eR : ∀ l, l < 5447 → R' l = R l) : LwS M' h R' nl lw := by
  obtain ⟨h1, h2, h3, h4, h5, h6, h7⟩ := H
  have un := u.1
  refine ⟨by rw [e]; exact h1, (eR 2 (by omega)).trans h2, h3, fun i hi => ?_, fun i hi => ?_, by rw [e, eR 3 (by omega)]; exact h6, by rw [eR 3 (by omega)]; exact h7⟩
  · rw [e5]
    exact ⟨TxB_up (h4 i hi).1 u, LwF_reg (h4 i hi).2 (fun l q1 q2 => eR l (by omega))⟩
  · rw [e5]
    rcases h5 i hi with z | z
    · exact Or.inl z
    · exact Or.inr ⟨by rw [u.2.1 _ z.2]; exact z.1, by have := z.2; omega⟩
theorem HallZ_fr {M' : hp} {h : Nat} (H : HallZ M h) (e : ∀ r, r ≤ 4 → hI M' (h + r) = hI M (h + r)) : HallZ M' h := by
  intro r r1 r2 k hk
  rw [e r r2]
  exact H r r1 r2 k hk
theorem HC_fr {M' : hp} {h n nl : Nat} {lw : Nat → Nat × (Nat → Cls)} {R R' : Nat → Int32} (H : HC M h R n nl lw) (u : upk M M') (e : ∀ r, r ≤ 4 → hI M' (h + r) = hI M (h + r)) (e5 : hR M' (h + 5) = hR M (h + 5)) (eR : ∀ l, l < 5447 → R' l = R l) : HC M' h R' n nl lw :=
  ⟨HallZ_fr H.1 e, PiS_fr H.2.1 e eR, LwS_fr H.2.2.1 u (e 0 (by omega)) e5 eR, HdS_fr H.2.2.2 (e 0 (by omega)) eR⟩
/-- the law in force -/
def lawOf (x : Int32) (lw : Nat → Nat × (Nat → Cls)) : Law := if x = -1 then none else some (lw x.toNatClampNeg)
theorem HC_O {h n nl : Nat} {lw : Nat → Nat × (Nat → Cls)} {R : Nat → Int32} (H : HC M h R n nl lw) (HS : HallS M h) (hb : h + 5 < kB) : HallO M h n (lawOf (R 3) lw) := by
  obtain ⟨Z, P, Lw, _⟩ := H
  refine ⟨HS, ⟨P.1, P.2.2.1⟩, P.2.2.2.2.2.1, P.2.2.2.2.2.2.1, ?_, Z, fun i hi => ?_, hb⟩
  · rcases Lw.2.2.2.2.2.2 with z | ⟨i, i1, i2⟩
    · exact Or.inl ⟨Lw.2.2.2.2.2.1.trans z, if_pos z⟩
    · have n6 := Lw.2.2.1
      have tx := (Lw.2.2.2.1 i i1).1
      have e : lawOf (R 3) lw = some (lw i) := by
        unfold lawOf
        rw [if_neg (by rw [i2, n_m1 (by omega)]; exact id), i2, n_cl (by omega)]
      refine Or.inr ⟨i, by omega, Lw.2.2.2.2.2.1.trans i2, ?_, by rw [e]; exact TxB_LawV tx, by rw [e]; intro z; cases z⟩
      obtain ⟨_, _, _, _, _, t1, _⟩ := tx
      have : kB = 154 := rfl
      omega
  · rcases Lw.2.2.2.2.1 i hi with z | z
    · exact Or.inl z
    · exact Or.inr z.1
theorem HC_RP {n nl : Nat} {lw : Nat → Nat × (Nat → Cls)} (H : HC M 65 (hI M 128) n nl lw) (F : MF M) (o20 : hI M 126 20 = 0) (o0 : hI M 126 0 = 0) : RP M n (hI M 66) (hI M 67) (hI M 68) (hI M 69) (hI M 65 5) (hI M 65 7) (lawOf (hI M 128 3) lw) := by
  obtain ⟨_, P, Lw, _⟩ := H
  have n6 := Lw.2.2.1
  refine ⟨F, o20, o0, ?_, P.2.1, P.2.2.1, fun j q => (P.2.2.2.1 j q).1, fun j q => (P.2.2.2.1 j q).2.1, fun j q => (P.2.2.2.1 j q).2.2.1, fun j q => (P.2.2.2.1 j q).2.2.2, P.2.2.2.2.1.1, P.2.2.2.2.1.2.2⟩
  rcases Lw.2.2.2.2.2.2 with z | ⟨i, i1, i2⟩
  · rw [show lawOf (hI M 128 3) lw = none from if_pos z]
    exact z
  · rw [show lawOf (hI M 128 3) lw = some (lw i) from by
      unfold lawOf
      rw [if_neg (by rw [i2, n_m1 (by omega)]; exact id), i2, n_cl (by omega)]]
    exact LwF_MLaw (Lw.2.2.2.1 i i1).2 (by omega) i2
/-- images -/
def Im1 (M : hp) (k h : Nat) : Prop := (hI M 102 k = 0 ∧ hI M 130 k = 0) ∨ (hI M 102 k = 1 ∧ hI M 130 k = 1 ∧ ∃ n nl lw, HC M h (fun i => hI M 129 (5447 * k + i)) n nl lw)
def Img (M : hp) : Prop := Im1 M 0 90 ∧ Im1 M 1 96
/-- what can be undone -/
def Un1 (M : hp) (n k y : Nat) : Prop := (∀ j, j < 7 → hI M 131 (17 * k + 3 + j) = hI M 104 (16 * y + j) ∧ hI M 131 (17 * k + 10 + j) = hI M 104 (16 * y + 7 + j)) ∧ hI M 131 (17 * k) = hI M 104 (16 * y + 14) ∧ hI M 131 (17 * k + 1) = hI M 65 6 ∧ hI M 131 (17 * k + 2) = hI M 65 7 ∧ hI M 132 k = hI M 104 (16 * y + 15) ∧ PegS (fun j => hI M 104 (16 * y + j)) n ∧ KnoS (fun j => hI M 104 (16 * y + 7 + j)) n ∧ (∃ x, x ≤ 999 ∧ hI M 104 (16 * y + 14) = nI x) ∧ ∃ u, u < 4 ∧ hI M 104 (16 * y + 15) = nI u
def Und (M : hp) (n : Nat) : Prop := ∃ c x, c ≤ 16 ∧ x < 16 ∧ hI M 103 2 = nI c ∧ hI M 103 1 = nI x ∧ hI M 126 8 = nI c ∧ ∀ k, k < c → Un1 M n k ((x + 16 - c + k) % 16)
/-- the tape -/
def Tpe (M : hp) : Prop := ∃ (b : Nat → Nat) (L : Nat), L ≤ 400 ∧ hI M 107 1 = nI L ∧ hI M 126 13 = nI L ∧ (∀ i, i < L → hI M 108 i = nI (b i) ∧ hI M 135 i = nI (b i)) ∧ ∀ i, b i < 256
/-- answers that are kept -/
def Scl (M : hp) : Prop := hI M 64 16 = hI M 126 11 ∧ hI M 64 17 = hI M 126 18 ∧ hI M 64 18 = hI M 126 49 ∧ hI M 64 19 = hI M 126 1 ∧ hI M 125 0 = hI M 127 1 ∧ hI M 125 1 = hI M 127 2 ∧ hI M 125 2 = hI M 127 3 ∧ hI M 125 3 = hI M 127 5 ∧ hI M 125 4 = hI M 127 6
/-- the hall of the capitals -/
def Drw (M : hp) : Prop := (hI M 64 15 = 0 ∧ hI M 126 53 = -1) ∨ (hI M 64 15 = 1 ∧ ∃ n, n ≤ 7 ∧ hI M 83 8 = nI n ∧ hI M 126 53 = nI n ∧ ∀ j, j < 7 → hI M 153 (3 + j) = hI M 86 j ∧ hI M 153 (10 + j) = hI M 87 j)
/-- paper that halls are copied to -/
def Scr (M : hp) : Prop := HallZ M 71 ∧ HallZ M 77 ∧ HallZ M 83 ∧ HallZ M 90 ∧ HallZ M 96
def SimB (M : hp) : Prop := 90 ≤ hN M ∧ XS M ∧ MF M ∧ MWd M ∧ hI M 126 20 = 0 ∧ hI M 126 0 = 0
def Sim (M : hp) : Prop := SimB M ∧ Scr M ∧ Img M ∧ Tpe M ∧ Scl M ∧ Drw M ∧ ∃ n nl lw, HC M 65 (hI M 128) n nl lw ∧ Und M n
