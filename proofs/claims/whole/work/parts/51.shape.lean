variable {d : Nat} {M : hp} {Q : Option Value → hp → Prop}
/-- the class's object and what it holds, at the places where its constructor lays them -/
def XF (M : hp) : Prop := (hK M 64).1 = 8 ∧ hR M 64 0 = 65 ∧ hR M 64 1 = 71 ∧ hR M 64 2 = 77 ∧ hR M 64 3 = 83 ∧ hR M 64 4 = 89 ∧ hR M 64 5 = 102 ∧ hR M 64 6 = 103 ∧ hR M 64 7 = 105 ∧ hR M 64 8 = 107 ∧ hR M 64 9 = 109 ∧ hR M 64 10 = 113 ∧ hR M 64 11 = 116 ∧ hR M 64 12 = 122 ∧ hR M 64 13 = 124 ∧ hR M 64 14 = 125
def ReadS (M : hp) : Prop := (hK M 109).1 = 5 ∧ hR M 109 0 = 107 ∧ hR M 109 1 = 110 ∧ TextS M 110 111 112 400 96
def XS (M : hp) : Prop := XF M ∧ HallS M 65 ∧ HallS M 71 ∧ HallS M 77 ∧ HallS M 83 ∧ HallS M 90 ∧ HallS M 96 ∧ PastS M 103 ∧ PastS M 105 ∧ TapeS M 107 ∧ ReadS M ∧ MachS M 113 ∧ NightS M 116 ∧ PlanS M 122 116 71 ∧ hK M 124 = (21, 20) ∧ hK M 125 = (20, 5) ∧ hK M 102 = (22, 2) ∧ hK M 89 = (24, 2) ∧ hR M 89 0 = 90 ∧ hR M 89 1 = 96
/-- kinds and references of what is made once, but for the rows of laws -/
def lawRow (a : Nat) : Prop := a = 70 ∨ a = 76 ∨ a = 82 ∨ a = 88 ∨ a = 95 ∨ a = 101
def sameS (M M' : hp) : Prop := (∀ a, a < kB → hK M' a = hK M a) ∧ ∀ a, a < kB → ¬ lawRow a → hR M' a = hR M a
theorem sameS_trans {M M1 M2 : hp} (h : sameS M M1) (h2 : sameS M1 M2) : sameS M M2 := ⟨fun a q => (h2.1 a q).trans (h.1 a q), fun a q w => (h2.2 a q w).trans (h.2 a q w)⟩
theorem sameS_agq {E B : List Nat} {M M' : hp} (h : agq E B M M') (hb : ∀ a, B.contains a = true → lawRow a) : sameS M M' := ⟨fun a _ => by rw [h.2.2.1], fun a _ w => h.2.2.2.1 a (by
  cases e : B.contains a with
  | false => rfl
  | true => exact absurd (hb a e) w)⟩
theorem nlr {a : Nat} (h : ¬ a = 70) (h1 : ¬ a = 76) (h2 : ¬ a = 82) (h3 : ¬ a = 88) (h4 : ¬ a = 95) (h5 : ¬ a = 101) : ¬ lawRow a := by
  unfold lawRow
  omega
theorem HallS_same {M M' : hp} {h : Nat} (s : sameS M M') (h5 : h + 5 < kB) (hl : ¬ lawRow h) (H : HallS M h) : HallS M' h := by
  unfold HallS at *
  rw [s.1 h (by omega), s.1 (h + 1) (by omega), s.1 (h + 2) (by omega), s.1 (h + 3) (by omega), s.1 (h + 4) (by omega), s.1 (h + 5) (by omega), s.2 h (by omega) hl]
  exact H
theorem PastS_same {M M' : hp} {h : Nat} (s : sameS M M') (h5 : h + 1 < kB) (hl : ¬ lawRow h) (H : PastS M h) : PastS M' h := by
  unfold PastS at *
  rw [s.1 h (by omega), s.1 (h + 1) (by omega), s.2 h (by omega) hl]
  exact H
theorem XS_same {M M' : hp} (s : sameS M M') (H : XS M) : XS M' := by
  have kb : kB = 154 := rfl
  obtain ⟨H1, H2, H3, H4, H5, H6, H7, H8, H9, H10, H11, H12, H13, H14, H15, H16, H17, H18, H19, H20⟩ := H
  have l : ∀ a, ¬ a = 70 → ¬ a = 76 → ¬ a = 82 → ¬ a = 88 → ¬ a = 95 → ¬ a = 101 → ¬ lawRow a := fun a => nlr
  refine ⟨?_, HallS_same s (by omega) (l _ (by omega) (by omega) (by omega) (by omega) (by omega) (by omega)) H2, HallS_same s (by omega) (l _ (by omega) (by omega) (by omega) (by omega) (by omega) (by omega)) H3, HallS_same s (by omega) (l _ (by omega) (by omega) (by omega) (by omega) (by omega) (by omega)) H4, HallS_same s (by omega) (l _ (by omega) (by omega) (by omega) (by omega) (by omega) (by omega)) H5, HallS_same s (by omega) (l _ (by omega) (by omega) (by omega) (by omega) (by omega) (by omega)) H6, HallS_same s (by omega) (l _ (by omega) (by omega) (by omega) (by omega) (by omega) (by omega)) H7, PastS_same s (by omega) (l _ (by omega) (by omega) (by omega) (by omega) (by omega) (by omega)) H8, PastS_same s (by omega) (l _ (by omega) (by omega) (by omega) (by omega) (by omega) (by omega)) H9, ?_, ?_, ?_, ?_, ?_, ?_, ?_, ?_, ?_, ?_, ?_⟩
  · unfold XF at *
    rw [s.1 64 (by omega), s.2 64 (by omega) (l _ (by omega) (by omega) (by omega) (by omega) (by omega) (by omega))]
    exact H1
  · unfold TapeS at *
    rw [s.1 107 (by omega), s.1 (107 + 1) (by omega), s.2 107 (by omega) (l _ (by omega) (by omega) (by omega) (by omega) (by omega) (by omega))]
    exact H10
  · unfold ReadS TextS at *
    rw [s.1 109 (by omega), s.1 110 (by omega), s.1 111 (by omega), s.1 112 (by omega), s.2 109 (by omega) (l _ (by omega) (by omega) (by omega) (by omega) (by omega) (by omega)), s.2 110 (by omega) (l _ (by omega) (by omega) (by omega) (by omega) (by omega) (by omega))]
    exact H11
  · unfold MachS at *
    rw [s.1 113 (by omega), s.1 (113 + 1) (by omega), s.1 (113 + 2) (by omega), s.2 113 (by omega) (l _ (by omega) (by omega) (by omega) (by omega) (by omega) (by omega))]
    exact H12
  · unfold NightS MachS at *
    rw [s.1 116 (by omega), s.1 (116 + 1) (by omega), s.1 (116 + 1 + 1) (by omega), s.1 (116 + 1 + 2) (by omega), s.1 (116 + 4) (by omega), s.1 (116 + 5) (by omega), s.2 116 (by omega) (l _ (by omega) (by omega) (by omega) (by omega) (by omega) (by omega)), s.2 (116 + 1) (by omega) (l _ (by omega) (by omega) (by omega) (by omega) (by omega) (by omega))]
    exact H13
  · unfold PlanS at *
    rw [s.1 122 (by omega), s.1 (122 + 1) (by omega), s.2 122 (by omega) (l _ (by omega) (by omega) (by omega) (by omega) (by omega) (by omega))]
    exact H14
  · rw [s.1 124 (by omega)]; exact H15
  · rw [s.1 125 (by omega)]; exact H16
  · rw [s.1 102 (by omega)]; exact H17
  · rw [s.1 89 (by omega)]; exact H18
  · rw [s.2 89 (by omega) (l _ (by omega) (by omega) (by omega) (by omega) (by omega) (by omega))]; exact H19
  · rw [s.2 89 (by omega) (l _ (by omega) (by omega) (by omega) (by omega) (by omega) (by omega))]; exact H20
/-! answers that are kept -/
def plcF (r : Int32) : Nat := if r = -1 then 0 else if r = -2 then 1 else if r = -3 then 2 else if r = -5 then 3 else 4
theorem plc_lt (r : Int32) : plcF r < 5 := by
  unfold plcF
  split
  · omega
  · split
    · omega
    · split
      · omega
      · split <;> omega
theorem T_placeOfReason {r : Int32} : Wp none d 133 0 [(0, .int r)] [] M Q = Q (some (.int (nI (plcF r)))) M := by
  rw [k133_0, k133_1, k133_36, k133_38, k133_40, k133_42, k133_44]
  unfold plcF
  by_cases c1 : r = -1
  · subst c1; rfl
  · by_cases c2 : r = -2
    · subst c2; rfl
    · by_cases c3 : r = -3
      · subst c3; rfl
      · by_cases c5 : r = -5
        · subst c5; rfl
        · simp only [c1, c2, c3, c5, if_false]
          rfl
/-- the memory behind a refusal -/
def refM (M : hp) (r : Int32) : hp := sI (sI M 64 19 r) 125 (plcF r) (hI M 125 (plcF r) + 1)
theorem T_refused {r : Int32} (H : XS M) : Wp none d 130 0 [(0, .ref 64), (1, .int r)] [] M Q = Q (some (.int r)) (refM M r) := by
  have p5 := plc_lt r
  have h14 : hR M 64 14 = 125 := H.1.2.2.2.2.2.2.2.2.2.2.2.2.2.2.2
  have k125 : hK M 125 = (20, 5) := H.2.2.2.2.2.2.2.2.2.2.2.2.2.2.2.1
  rw [k130_0 H.1.1, k130_5, k130_6, T_placeOfReason]
  simp only [oN]
  rw [k130_9 (M := sI M 64 19 r) H.1.1 (show ¬ hR M 64 14 = 0 by rw [h14]; omega), hR_sI, h14, k130_20, T_at (M := sI M 64 19 r) k125 (by omega) (by omega), gI_n p5 (by omega)]
  simp only [oM]
  rw [k130_23, k130_25, T_put (M := sI M 64 19 r) k125 (by omega) (by omega), pI_n p5 (by omega)]
  simp only [oZ]
  rw [k130_28, hI_sI_a (by omega)]
  rfl
theorem T_accepted {v : Int32} (H : XS M) : Wp none d 131 0 [(0, .ref 64), (1, .int v)] [] M Q = Q (some (.int v)) (sI M 64 19 0) := by
  rw [k131_0 H.1.1, k131_5]
theorem T_settled {v : Int32} (H : XS M) : Wp none d 132 0 [(0, .ref 64), (1, .int v)] [] M Q = Q (some (.int v)) (if 0 ≤ v then sI M 64 19 0 else refM M v) := by
  rw [k132_0, k132_1]
  by_cases c : 0 ≤ v
  · rw [if_pos c, if_pos c, k132_12, k132_14 H.1.1, T_accepted H]
    simp only [oN]
    rw [k132_17]
  · rw [if_neg c, if_neg c, k132_4, k132_6 H.1.1, T_refused H]
    simp only [oN]
    rw [k132_9, k132_17]
theorem T_isHat {a b : Int32} : Wp none d 134 0 [(0, .int a), (1, .int b)] [] M Q = Q (some (.int (bz (¬ a < 0 ∧ ¬ 3 < a ∧ ¬ b < 0 ∧ ¬ 9 < b)))) M := by
  rw [k134_0, k134_1, k134_4, k134_6, k134_9, k134_10, k134_13, k134_16, k134_19, k134_23, k134_24 (Or.inl rfl), k134_24 (Or.inr rfl)]
  by_cases c1 : a < 0
  · rw [if_pos c1, bz_f (fun q => q.1 c1)]
  · by_cases c2 : 3 < a
    · rw [if_neg c1, if_pos c2, bz_f (fun q => q.2.1 c2)]
    · by_cases c3 : b < 0
      · rw [if_neg c1, if_neg c2, if_pos c3, bz_f (fun q => q.2.2.1 c3)]
      · by_cases c4 : 9 < b
        · rw [if_neg c1, if_neg c2, if_neg c3, if_pos c4, bz_f (fun q => q.2.2.2 c4)]
        · rw [if_neg c1, if_neg c2, if_neg c3, if_neg c4, bz_t ⟨c1, c2, c3, c4⟩]
theorem T_isThought {a : Int32} : Wp none d 135 0 [(0, .int a)] [] M Q = Q (some (.int (bz (¬ a < 0 ∧ ¬ 8 ≤ a)))) M := by
  rw [k135_0, k135_1, k135_4, k135_7, k135_10, k135_14, k135_15 (Or.inl rfl), k135_15 (Or.inr rfl)]
  by_cases c1 : a < 0
  · rw [if_pos c1, bz_f (fun q => q.1 c1)]
  · by_cases c2 : 8 ≤ a
    · rw [if_neg c1, if_pos c2, bz_f (fun q => q.2 c2)]
    · rw [if_neg c1, if_neg c2, bz_t ⟨c1, c2⟩]
theorem T_mostOfTerm {w : Int32} : Wp none d 136 0 [(0, .int w)] [] M Q = Q (some (.int (if w = 0 then 999 else if w = 1 then 10 else 9))) M := by
  rw [k136_0, k136_1, k136_28, k136_32, k136_35]
  split
  · rfl
  · split <;> rfl
