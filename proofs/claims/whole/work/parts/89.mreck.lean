variable {d : Nat} {M : hp} {Q : Option Value → hp → Prop}
/-! the reference reckons -/
theorem sI_38 (h : hI M 126 38 = 0) : sI M 126 38 0 = M := by
  have := sI_id M 126 38
  rw [h] at this
  exact this
/-- what a division by nothing leaves -/
def brk (M : hp) (v : Nat) (b : Int64) : hp := if (v = 23 ∨ v = 24) ∧ b = 0 then sI M 126 38 1 else M
theorem brk_n {v : Nat} {b : Int64} (h : ¬ (v = 23 ∨ v = 24)) : brk M v b = M := if_neg (fun z => h z.1)
theorem mReckon {a b : Int64} {v : Nat} (F : MF M) (h0 : hI M 126 38 = 0) (hv : 20 ≤ v ∧ v < 28) : Wp none d 216 0 [(0, .ref 126), (1, .int (nI v)), (2, .long a), (4, .long b)] [] M Q = Q (some (.long (joinV (nI (v - 18)) a b))) (brk M v b) := by
  have F1 : MF (sI M 126 38 1) := F
  have e : v = 20 ∨ v = 21 ∨ v = 22 ∨ v = 23 ∨ v = 24 ∨ v = 25 ∨ v = 26 ∨ v = 27 := by omega
  rw [k216_0, k216_1]
  rcases e with rfl | rfl | rfl | rfl | rfl | rfl | rfl | rfl
  · rw [brk_n (by omega), show joinV (nI (20 - 18)) a b = a + b from by unfold joinV; simp [show nI (20 - 18) = 2 from rfl], if_pos (by decide), k216_44]
  · rw [brk_n (by omega), show joinV (nI (21 - 18)) a b = a - b from by unfold joinV; simp [show nI (21 - 18) = 3 from rfl], if_neg (by decide), if_pos (by decide), k216_49]
  · rw [brk_n (by omega), show joinV (nI (22 - 18)) a b = a * b from by unfold joinV; simp [show nI (22 - 18) = 4 from rfl], if_neg (by decide), if_neg (by decide), if_pos (by decide), k216_54]
  · rw [if_neg (by decide), if_neg (by decide), if_neg (by decide), if_pos (by decide), k216_59, k216_64]
    simp only [lg_cmp_eq]
    by_cases c : b = 0
    · rw [if_neg (fun q => q c), k216_67, m216_72 F (Or.inr rfl), m216_75 F1, hI_sI_s, k216_79, if_neg (by decide), k216_82, k216_90, show brk M 23 b = sI M 126 38 1 from if_pos ⟨Or.inl rfl, c⟩, show joinV (nI (23 - 18)) a b = 0 from by unfold joinV; simp [show nI (23 - 18) = 5 from rfl, c]]
    · rw [if_pos c, k216_71, m216_72 F (Or.inl rfl), sI_38 h0, m216_75 F, h0, k216_79, if_pos rfl, k216_86 c, k216_90, show brk M 23 b = M from if_neg (fun z => c z.2), show joinV (nI (23 - 18)) a b = a / b from by unfold joinV; simp [show nI (23 - 18) = 5 from rfl, c]]
  · rw [if_neg (by decide), if_neg (by decide), if_neg (by decide), if_neg (by decide), if_pos (by decide), k216_91, k216_96]
    simp only [lg_cmp_eq]
    by_cases c : b = 0
    · rw [if_neg (fun q => q c), k216_99, m216_104 F (Or.inr rfl), m216_107 F1, hI_sI_s, k216_111, if_neg (by decide), k216_114, k216_122, show brk M 24 b = sI M 126 38 1 from if_pos ⟨Or.inr rfl, c⟩, show joinV (nI (24 - 18)) a b = 0 from by unfold joinV; simp [show nI (24 - 18) = 6 from rfl, c]]
    · rw [if_pos c, k216_103, m216_104 F (Or.inl rfl), sI_38 h0, m216_107 F, h0, k216_111, if_pos rfl, k216_118 c, k216_122, show brk M 24 b = M from if_neg (fun z => c z.2), show joinV (nI (24 - 18)) a b = a - a / b * b from by unfold joinV; simp [show nI (24 - 18) = 6 from rfl, c]]
  · rw [brk_n (by omega), show joinV (nI (25 - 18)) a b = if a < b then 1 else 0 from by unfold joinV; simp [show nI (25 - 18) = 7 from rfl], if_neg (by decide), if_neg (by decide), if_neg (by decide), if_neg (by decide), if_neg (by decide), if_pos (by decide), k216_123, k216_127]
    simp only [lg_cmp_ge]
    by_cases c : a < b
    · rw [if_pos c, if_neg (by rw [fa_le64]; rw [fa_lt64] at c; omega), k216_130, k216_135]
    · rw [if_neg c, if_pos (by rw [fa_le64]; rw [fa_lt64] at c; omega), k216_134, k216_135]
  · rw [brk_n (by omega), show joinV (nI (26 - 18)) a b = if b < a then 1 else 0 from by unfold joinV; simp [show nI (26 - 18) = 8 from rfl], if_neg (by decide), if_neg (by decide), if_neg (by decide), if_neg (by decide), if_neg (by decide), if_neg (by decide), if_pos (by decide), k216_136, k216_140]
    simp only [lg_cmp_le]
    by_cases c : b < a
    · rw [if_pos c, if_neg (by rw [fa_le64]; rw [fa_lt64] at c; omega), k216_143, k216_148]
    · rw [if_neg c, if_pos (by rw [fa_le64]; rw [fa_lt64] at c; omega), k216_147, k216_148]
  · rw [brk_n (by omega), show joinV (nI (27 - 18)) a b = if a = b then 1 else 0 from by unfold joinV; simp [show nI (27 - 18) = 9 from rfl], if_neg (by decide), if_neg (by decide), if_neg (by decide), if_neg (by decide), if_neg (by decide), if_neg (by decide), if_neg (by decide), k216_149, k216_153]
    simp only [lg_cmp_eq]
    by_cases c : a = b
    · rw [if_pos c, if_neg (fun q => q c), k216_156, k216_161]
    · rw [if_neg c, if_pos c, k216_160, k216_161]
theorem cl_nI {x : Int32} (h : 0 ≤ x) : x = nI x.toNatClampNeg ∧ x.toNatClampNeg < 2147483648 := by
  have h1 : (0 : Int32).toInt ≤ x.toInt := Int32.le_iff_toInt_le.mp h
  have h2 : (0 : Int32).toInt = 0 := by decide
  have h3 := Int32.toInt_lt x
  have h4 : x.toNatClampNeg = x.toInt.toNat := rfl
  have h5 : x.toNatClampNeg < 2147483648 := by rw [h4]; omega
  refine ⟨?_, h5⟩
  apply Int32.toInt_inj.mp
  have h6 : (nI x.toNatClampNeg).toNatClampNeg = x.toNatClampNeg := n_cl h5
  have h7 : (nI x.toNatClampNeg).toNatClampNeg = (nI x.toNatClampNeg).toInt.toNat := rfl
  have h8 : (0 : Int32) ≤ nI x.toNatClampNeg := by
    show nI 0 ≤ nI x.toNatClampNeg
    rw [n_le (by omega) h5]
    omega
  have h9 : (0 : Int32).toInt ≤ (nI x.toNatClampNeg).toInt := Int32.le_iff_toInt_le.mp h8
  omega
