variable {d : Nat} {M : hp} {Q : Option Value → hp → Prop}
/-! what is only asked leaves the relation as it is -/
theorem MF_126 {M' : hp} (F : MF M) (ek : ∀ a, a < kB → hK M' a = hK M a) (er : hR M' 126 = hR M 126) : MF M' := by
  have kb : kB = 154 := rfl
  unfold MF at *
  rw [er, ek 126 (by omega), ek 127 (by omega), ek 128 (by omega), ek 129 (by omega), ek 130 (by omega), ek 131 (by omega), ek 132 (by omega), ek 133 (by omega), ek 134 (by omega), ek 135 (by omega), ek 136 (by omega), ek 137 (by omega), ek 138 (by omega), ek 139 (by omega), ek 140 (by omega), ek 141 (by omega), ek 142 (by omega), ek 143 (by omega), ek 144 (by omega), ek 145 (by omega), ek 146 (by omega), ek 147 (by omega), ek 148 (by omega), ek 149 (by omega), ek 150 (by omega), ek 151 (by omega), ek 152 (by omega), ek 153 (by omega)]
  exact F
theorem SimB_fr {M' : hp} (B : SimB M) (hn : hN M ≤ hN M') (ek : ∀ a, a < kB → hK M' a = hK M a) (er : ∀ a, a < kB → ¬ lawRow a → hR M' a = hR M a) (e1 : hL M' 141 = hL M 141) (e2 : hL M' 142 = hL M 142) (e3 : hL M' 143 = hL M 143) (e4 : hL M' 151 = hL M 151) (e20 : hI M' 126 20 = hI M 126 20) (e0 : hI M' 126 0 = hI M 126 0) : SimB M' := by
  have kb : kB = 154 := rfl
  obtain ⟨b1, b2, b3, b4, b5, b6⟩ := B
  exact ⟨by omega, XS_same ⟨ek, er⟩ b2, MF_126 b3 ek (er 126 (by omega) (nlr (by omega) (by omega) (by omega) (by omega) (by omega) (by omega))), MWd_of b4 e1 e2 e3 e4, e20.trans b5, e0.trans b6⟩
theorem Tpe_fr {M' : hp} (T : Tpe M) (e1 : hI M' 107 = hI M 107) (e2 : hI M' 108 = hI M 108) (e3 : hI M' 135 = hI M 135) (e4 : hI M' 126 13 = hI M 126 13) : Tpe M' := by
  unfold Tpe at *
  rw [e1, e2, e3, e4]
  exact T
theorem Scl_fr {M' : hp} (T : Scl M) (e1 : hI M' 64 = hI M 64) (e2 : hI M' 125 = hI M 125) (e3 : hI M' 127 = hI M 127) (e4 : ∀ k, k = 11 ∨ k = 18 ∨ k = 49 ∨ k = 1 → hI M' 126 k = hI M 126 k) : Scl M' := by
  unfold Scl at *
  rw [e1, e2, e3, e4 11 (by omega), e4 18 (by omega), e4 49 (by omega), e4 1 (by omega)]
  exact T
theorem Drw_fr {M' : hp} (T : Drw M) (e1 : hI M' 64 15 = hI M 64 15) (e2 : hI M' 83 8 = hI M 83 8) (e3 : hI M' 126 53 = hI M 126 53) (e4 : hI M' 153 = hI M 153) (e5 : hI M' 86 = hI M 86) (e6 : hI M' 87 = hI M 87) : Drw M' := by
  unfold Drw at *
  rw [e1, e2, e3, e4, e5, e6]
  exact T
theorem Und_fr {M' : hp} {n : Nat} (U : Und M n) (e1 : hI M' 103 = hI M 103) (e2 : hI M' 104 = hI M 104) (e3 : hI M' 65 6 = hI M 65 6) (e7 : hI M' 65 7 = hI M 65 7) (e4 : hI M' 126 8 = hI M 126 8) (e5 : ∀ l, l < 272 → hI M' 131 l = hI M 131 l) (e6 : hI M' 132 = hI M 132) : Und M' n := by
  obtain ⟨c, x, h1, h2, h3, h4, h5, h6⟩ := U
  refine ⟨c, x, h1, h2, by rw [e1]; exact h3, by rw [e1]; exact h4, e4.trans h5, fun k hk => ?_⟩
  have := h6 k hk
  unfold Un1 at *
  rw [e2, e3, e7, e6, e5 _ (by omega), e5 _ (by omega), e5 _ (by omega)]
  refine ⟨fun j hj => ?_, this.2⟩
  rw [e5 _ (by omega), e5 _ (by omega)]
  exact this.1 j hj
theorem Im1_fr {M' : hp} {k h : Nat} (I : Im1 M k h) (u : upk M M') (e1 : hI M' 102 = hI M 102) (e2 : hI M' 130 = hI M 130) (e3 : hI M' 129 = hI M 129) (e : ∀ r, r ≤ 4 → hI M' (h + r) = hI M (h + r)) (e5 : hR M' (h + 5) = hR M (h + 5)) : Im1 M' k h := by
  unfold Im1 at *
  rw [e1, e2, e3]
  rcases I with z | ⟨z1, z2, n, nl, lw, z3⟩
  · exact Or.inl z
  · exact Or.inr ⟨z1, z2, n, nl, lw, HC_fr z3 u e e5 (fun _ _ => rfl)⟩
/-- the class's cells for what is only asked -/
def QE : List Nat := [71, 72, 73, 74, 75, 116, 117, 118, 119, 120, 121, 122, 123, 124]
def RE : List Nat := [126, 144, 146, 147, 128, 131, 148, 149, 150]
theorem Sim_q {M1 M2 : hp} (S : Sim M) (a : agq QE [76] M M1) (z : HallZ M1 71) (b : Qry M1 M2) : Sim M2 ∧ hN M2 = hN M ∧ hS M2 = hS M := by
  have kb : kB = 154 := rfl
  obtain ⟨B, ⟨s1, s2, s3, s4, s5⟩, ⟨i1, i2⟩, T, C, D, n, nl, lw, H, U⟩ := S
  obtain ⟨⟨b1, b2, b3⟩, b4, b5⟩ := b
  have gI : ∀ x, QE.contains x = false → RE.contains x = false → hI M2 x = hI M x := fun x q1 q2 => (agr_I b1 q2).trans (a.2.2.2.2 x q1).1
  have gL : ∀ x, QE.contains x = false → RE.contains x = false → hL M2 x = hL M x := fun x q1 q2 => (agr_L b1 q2).trans (a.2.2.2.2 x q1).2
  have gK : hK M2 = hK M := (agr_K b1).trans a.2.2.1
  have gR : ∀ x, ¬ x = 76 → hR M2 x = hR M x := fun x q => by
    rw [agr_R b1]
    exact a.2.2.2.1 x (by simp [q])
  have g6 : ∀ k, ¬ k = 34 → ¬ k = 38 → hI M2 126 k = hI M 126 k := fun k q1 q2 => (b2 k q1 q2).trans (by rw [(a.2.2.2.2 126 (by decide)).1])
  have u : upk M M2 := upk_trans (upk_agq a (by intro x q; simp [QE] at q; omega) (by intro x q; simp at q; omega)) (upk_agq (agq_of (B := []) b1) (by intro x q; simp at q; omega) (by intro x q; simp at q))
  have g128 : hI M2 128 = hI M 128 := b4.trans (a.2.2.2.2 128 (by decide)).1
  have hh : ∀ h, (∀ r, r ≤ 4 → QE.contains (h + r) = false ∧ RE.contains (h + r) = false) → ∀ r, r ≤ 4 → hI M2 (h + r) = hI M (h + r) := fun h q r hr => gI _ (q r hr).1 (q r hr).2
  have r5 : ∀ r, r ≤ 4 → r = 0 ∨ r = 1 ∨ r = 2 ∨ r = 3 ∨ r = 4 := by omega
  have e65 := hh 65 (fun r hr => by rcases r5 r hr with rfl | rfl | rfl | rfl | rfl <;> decide)
  have e77 := hh 77 (fun r hr => by rcases r5 r hr with rfl | rfl | rfl | rfl | rfl <;> decide)
  have e83 := hh 83 (fun r hr => by rcases r5 r hr with rfl | rfl | rfl | rfl | rfl <;> decide)
  have e90 := hh 90 (fun r hr => by rcases r5 r hr with rfl | rfl | rfl | rfl | rfl <;> decide)
  have e96 := hh 96 (fun r hr => by rcases r5 r hr with rfl | rfl | rfl | rfl | rfl <;> decide)
  refine ⟨⟨?_, ⟨?_, HallZ_fr s2 e77, HallZ_fr s3 e83, HallZ_fr s4 e90, HallZ_fr s5 e96⟩, ⟨Im1_fr i1 u (gI 102 (by decide) (by decide)) (gI 130 (by decide) (by decide)) (gI 129 (by decide) (by decide)) e90 (gR _ (by omega)), Im1_fr i2 u (gI 102 (by decide) (by decide)) (gI 130 (by decide) (by decide)) (gI 129 (by decide) (by decide)) e96 (gR _ (by omega))⟩, ?_, ?_, ?_, n, nl, lw, ?_, ?_⟩, b1.1.trans a.1, b1.2.1.trans a.2.1⟩
  · exact SimB_fr B u.1 (fun x _ => by rw [gK]) (fun x _ q => gR x (fun e => q (by rw [e]; exact Or.inr (Or.inl rfl)))) (gL 141 (by decide) (by decide)) (gL 142 (by decide) (by decide)) (gL 143 (by decide) (by decide)) (gL 151 (by decide) (by decide)) (g6 20 (by decide) (by decide)) (g6 0 (by decide) (by decide))
  · refine HallZ_fr z (fun r hr => agr_I b1 ?_)
    rcases r5 r hr with rfl | rfl | rfl | rfl | rfl <;> decide
  · exact Tpe_fr T (gI 107 (by decide) (by decide)) (gI 108 (by decide) (by decide)) (gI 135 (by decide) (by decide)) (g6 13 (by decide) (by decide))
  · exact Scl_fr C (gI 64 (by decide) (by decide)) (gI 125 (by decide) (by decide)) (gI 127 (by decide) (by decide)) (fun k q => g6 k (by omega) (by omega))
  · exact Drw_fr D (by rw [gI 64 (by decide) (by decide)]) (by rw [gI 83 (by decide) (by decide)]) (g6 53 (by decide) (by decide)) (gI 153 (by decide) (by decide)) (gI 86 (by decide) (by decide)) (gI 87 (by decide) (by decide))
  · exact HC_fr H u e65 (gR _ (by omega)) (fun l _ => by rw [g128])
  · exact Und_fr U (gI 103 (by decide) (by decide)) (gI 104 (by decide) (by decide)) (by rw [gI 65 (by decide) (by decide)]) (by rw [gI 65 (by decide) (by decide)]) (g6 8 (by decide) (by decide)) (fun l hl => (b5 l hl).trans (by rw [(a.2.2.2.2 131 (by decide)).1])) (gI 132 (by decide) (by decide))
/-- what class and reference answer alike, and what it leaves -/
def Alk (d : Nat) (mi : Nat) (L2 : List (Nat × Value)) (M : hp) (Q : Option Value → hp → Prop) : Prop := ∀ v M1, (∀ (Q2 : Option Value → hp → Prop), (∀ M2, Sim M2 → hN M2 ≤ hN M + 3 → hS M2 ≤ hS M + 500 → Q2 (some v) M2) → Wp none d mi 0 L2 [] M1 Q2) → Q (some v) M1
