/-- the reference at 126 and its rows -/
def MF (M : hp) : Prop := (hK M 126).1 = 9 ∧ hR M 126 2 = 127 ∧ hR M 126 3 = 128 ∧ hR M 126 4 = 129 ∧ hR M 126 5 = 130 ∧ hR M 126 6 = 131 ∧ hR M 126 7 = 132 ∧ hR M 126 9 = 133 ∧ hR M 126 10 = 134 ∧ hR M 126 12 = 135 ∧ hR M 126 22 = 136 ∧ hR M 126 24 = 137 ∧ hR M 126 25 = 138 ∧ hR M 126 27 = 139 ∧ hR M 126 28 = 140 ∧ hR M 126 31 = 141 ∧ hR M 126 32 = 142 ∧ hR M 126 33 = 143 ∧ hR M 126 35 = 144 ∧ hR M 126 36 = 145 ∧ hR M 126 37 = 146 ∧ hR M 126 41 = 147 ∧ hR M 126 42 = 148 ∧ hR M 126 43 = 149 ∧ hR M 126 44 = 150 ∧ hR M 126 45 = 151 ∧ hR M 126 46 = 152 ∧ hR M 126 52 = 153 ∧ hK M 127 = (20, 7) ∧ hK M 128 = (20, 5447) ∧ hK M 129 = (20, 10894) ∧ hK M 130 = (22, 2) ∧ hK M 131 = (20, 306) ∧ hK M 132 = (20, 16) ∧ hK M 133 = (20, 272) ∧ hK M 134 = (20, 16) ∧ hK M 135 = (20, 400) ∧ hK M 136 = (20, 96) ∧ hK M 137 = (20, 400) ∧ hK M 138 = (20, 400) ∧ hK M 139 = (20, 400) ∧ hK M 140 = (20, 400) ∧ hK M 141 = (21, 9) ∧ hK M 142 = (21, 6) ∧ hK M 143 = (21, 3) ∧ hK M 144 = (21, 13) ∧ hK M 145 = (21, 13) ∧ hK M 146 = (21, 400) ∧ hK M 147 = (20, 7) ∧ hK M 148 = (20, 7) ∧ hK M 149 = (20, 3) ∧ hK M 150 = (21, 21) ∧ hK M 151 = (21, 4) ∧ hK M 152 = (20, 96) ∧ hK M 153 = (20, 17)
theorem m_9 {M : hp} (F : MF M) : (hK M 126).1 = 9 := F.1
theorem m_R2 {M : hp} (F : MF M) : hR M 126 2 = 127 := F.2.1
theorem m_R3 {M : hp} (F : MF M) : hR M 126 3 = 128 := F.2.2.1
theorem m_R4 {M : hp} (F : MF M) : hR M 126 4 = 129 := F.2.2.2.1
theorem m_R5 {M : hp} (F : MF M) : hR M 126 5 = 130 := F.2.2.2.2.1
theorem m_R6 {M : hp} (F : MF M) : hR M 126 6 = 131 := F.2.2.2.2.2.1
theorem m_R7 {M : hp} (F : MF M) : hR M 126 7 = 132 := F.2.2.2.2.2.2.1
theorem m_R9 {M : hp} (F : MF M) : hR M 126 9 = 133 := F.2.2.2.2.2.2.2.1
theorem m_R10 {M : hp} (F : MF M) : hR M 126 10 = 134 := F.2.2.2.2.2.2.2.2.1
theorem m_R12 {M : hp} (F : MF M) : hR M 126 12 = 135 := F.2.2.2.2.2.2.2.2.2.1
theorem m_R22 {M : hp} (F : MF M) : hR M 126 22 = 136 := F.2.2.2.2.2.2.2.2.2.2.1
theorem m_R24 {M : hp} (F : MF M) : hR M 126 24 = 137 := F.2.2.2.2.2.2.2.2.2.2.2.1
theorem m_R25 {M : hp} (F : MF M) : hR M 126 25 = 138 := F.2.2.2.2.2.2.2.2.2.2.2.2.1
theorem m_R27 {M : hp} (F : MF M) : hR M 126 27 = 139 := F.2.2.2.2.2.2.2.2.2.2.2.2.2.1
theorem m_R28 {M : hp} (F : MF M) : hR M 126 28 = 140 := F.2.2.2.2.2.2.2.2.2.2.2.2.2.2.1
theorem m_R31 {M : hp} (F : MF M) : hR M 126 31 = 141 := F.2.2.2.2.2.2.2.2.2.2.2.2.2.2.2.1
theorem m_R32 {M : hp} (F : MF M) : hR M 126 32 = 142 := F.2.2.2.2.2.2.2.2.2.2.2.2.2.2.2.2.1
theorem m_R33 {M : hp} (F : MF M) : hR M 126 33 = 143 := F.2.2.2.2.2.2.2.2.2.2.2.2.2.2.2.2.2.1
theorem m_R35 {M : hp} (F : MF M) : hR M 126 35 = 144 := F.2.2.2.2.2.2.2.2.2.2.2.2.2.2.2.2.2.2.1
theorem m_R36 {M : hp} (F : MF M) : hR M 126 36 = 145 := F.2.2.2.2.2.2.2.2.2.2.2.2.2.2.2.2.2.2.2.1
theorem m_R37 {M : hp} (F : MF M) : hR M 126 37 = 146 := F.2.2.2.2.2.2.2.2.2.2.2.2.2.2.2.2.2.2.2.2.1
theorem m_R41 {M : hp} (F : MF M) : hR M 126 41 = 147 := F.2.2.2.2.2.2.2.2.2.2.2.2.2.2.2.2.2.2.2.2.2.1
theorem m_R42 {M : hp} (F : MF M) : hR M 126 42 = 148 := F.2.2.2.2.2.2.2.2.2.2.2.2.2.2.2.2.2.2.2.2.2.2.1
theorem m_R43 {M : hp} (F : MF M) : hR M 126 43 = 149 := F.2.2.2.2.2.2.2.2.2.2.2.2.2.2.2.2.2.2.2.2.2.2.2.1
theorem m_R44 {M : hp} (F : MF M) : hR M 126 44 = 150 := F.2.2.2.2.2.2.2.2.2.2.2.2.2.2.2.2.2.2.2.2.2.2.2.2.1
theorem m_R45 {M : hp} (F : MF M) : hR M 126 45 = 151 := F.2.2.2.2.2.2.2.2.2.2.2.2.2.2.2.2.2.2.2.2.2.2.2.2.2.1
theorem m_R46 {M : hp} (F : MF M) : hR M 126 46 = 152 := F.2.2.2.2.2.2.2.2.2.2.2.2.2.2.2.2.2.2.2.2.2.2.2.2.2.2.1
theorem m_R52 {M : hp} (F : MF M) : hR M 126 52 = 153 := F.2.2.2.2.2.2.2.2.2.2.2.2.2.2.2.2.2.2.2.2.2.2.2.2.2.2.2.1
theorem m_K127 {M : hp} (F : MF M) : hK M 127 = (20, 7) := F.2.2.2.2.2.2.2.2.2.2.2.2.2.2.2.2.2.2.2.2.2.2.2.2.2.2.2.2.1
theorem m_K128 {M : hp} (F : MF M) : hK M 128 = (20, 5447) := F.2.2.2.2.2.2.2.2.2.2.2.2.2.2.2.2.2.2.2.2.2.2.2.2.2.2.2.2.2.1
theorem m_K129 {M : hp} (F : MF M) : hK M 129 = (20, 10894) := F.2.2.2.2.2.2.2.2.2.2.2.2.2.2.2.2.2.2.2.2.2.2.2.2.2.2.2.2.2.2.1
theorem m_K130 {M : hp} (F : MF M) : hK M 130 = (22, 2) := F.2.2.2.2.2.2.2.2.2.2.2.2.2.2.2.2.2.2.2.2.2.2.2.2.2.2.2.2.2.2.2.1
theorem m_K131 {M : hp} (F : MF M) : hK M 131 = (20, 306) := F.2.2.2.2.2.2.2.2.2.2.2.2.2.2.2.2.2.2.2.2.2.2.2.2.2.2.2.2.2.2.2.2.1
theorem m_K132 {M : hp} (F : MF M) : hK M 132 = (20, 16) := F.2.2.2.2.2.2.2.2.2.2.2.2.2.2.2.2.2.2.2.2.2.2.2.2.2.2.2.2.2.2.2.2.2.1
theorem m_K133 {M : hp} (F : MF M) : hK M 133 = (20, 272) := F.2.2.2.2.2.2.2.2.2.2.2.2.2.2.2.2.2.2.2.2.2.2.2.2.2.2.2.2.2.2.2.2.2.2.1
theorem m_K134 {M : hp} (F : MF M) : hK M 134 = (20, 16) := F.2.2.2.2.2.2.2.2.2.2.2.2.2.2.2.2.2.2.2.2.2.2.2.2.2.2.2.2.2.2.2.2.2.2.2.1
theorem m_K135 {M : hp} (F : MF M) : hK M 135 = (20, 400) := F.2.2.2.2.2.2.2.2.2.2.2.2.2.2.2.2.2.2.2.2.2.2.2.2.2.2.2.2.2.2.2.2.2.2.2.2.1
theorem m_K136 {M : hp} (F : MF M) : hK M 136 = (20, 96) := F.2.2.2.2.2.2.2.2.2.2.2.2.2.2.2.2.2.2.2.2.2.2.2.2.2.2.2.2.2.2.2.2.2.2.2.2.2.1
theorem m_K137 {M : hp} (F : MF M) : hK M 137 = (20, 400) := F.2.2.2.2.2.2.2.2.2.2.2.2.2.2.2.2.2.2.2.2.2.2.2.2.2.2.2.2.2.2.2.2.2.2.2.2.2.2.1
theorem m_K138 {M : hp} (F : MF M) : hK M 138 = (20, 400) := F.2.2.2.2.2.2.2.2.2.2.2.2.2.2.2.2.2.2.2.2.2.2.2.2.2.2.2.2.2.2.2.2.2.2.2.2.2.2.2.1
theorem m_K139 {M : hp} (F : MF M) : hK M 139 = (20, 400) := F.2.2.2.2.2.2.2.2.2.2.2.2.2.2.2.2.2.2.2.2.2.2.2.2.2.2.2.2.2.2.2.2.2.2.2.2.2.2.2.2.1
theorem m_K140 {M : hp} (F : MF M) : hK M 140 = (20, 400) := F.2.2.2.2.2.2.2.2.2.2.2.2.2.2.2.2.2.2.2.2.2.2.2.2.2.2.2.2.2.2.2.2.2.2.2.2.2.2.2.2.2.1
theorem m_K141 {M : hp} (F : MF M) : hK M 141 = (21, 9) := F.2.2.2.2.2.2.2.2.2.2.2.2.2.2.2.2.2.2.2.2.2.2.2.2.2.2.2.2.2.2.2.2.2.2.2.2.2.2.2.2.2.2.1
theorem m_K142 {M : hp} (F : MF M) : hK M 142 = (21, 6) := F.2.2.2.2.2.2.2.2.2.2.2.2.2.2.2.2.2.2.2.2.2.2.2.2.2.2.2.2.2.2.2.2.2.2.2.2.2.2.2.2.2.2.2.1
theorem m_K143 {M : hp} (F : MF M) : hK M 143 = (21, 3) := F.2.2.2.2.2.2.2.2.2.2.2.2.2.2.2.2.2.2.2.2.2.2.2.2.2.2.2.2.2.2.2.2.2.2.2.2.2.2.2.2.2.2.2.2.1
theorem m_K144 {M : hp} (F : MF M) : hK M 144 = (21, 13) := F.2.2.2.2.2.2.2.2.2.2.2.2.2.2.2.2.2.2.2.2.2.2.2.2.2.2.2.2.2.2.2.2.2.2.2.2.2.2.2.2.2.2.2.2.2.1
theorem m_K145 {M : hp} (F : MF M) : hK M 145 = (21, 13) := F.2.2.2.2.2.2.2.2.2.2.2.2.2.2.2.2.2.2.2.2.2.2.2.2.2.2.2.2.2.2.2.2.2.2.2.2.2.2.2.2.2.2.2.2.2.2.1
theorem m_K146 {M : hp} (F : MF M) : hK M 146 = (21, 400) := F.2.2.2.2.2.2.2.2.2.2.2.2.2.2.2.2.2.2.2.2.2.2.2.2.2.2.2.2.2.2.2.2.2.2.2.2.2.2.2.2.2.2.2.2.2.2.2.1
theorem m_K147 {M : hp} (F : MF M) : hK M 147 = (20, 7) := F.2.2.2.2.2.2.2.2.2.2.2.2.2.2.2.2.2.2.2.2.2.2.2.2.2.2.2.2.2.2.2.2.2.2.2.2.2.2.2.2.2.2.2.2.2.2.2.2.1
theorem m_K148 {M : hp} (F : MF M) : hK M 148 = (20, 7) := F.2.2.2.2.2.2.2.2.2.2.2.2.2.2.2.2.2.2.2.2.2.2.2.2.2.2.2.2.2.2.2.2.2.2.2.2.2.2.2.2.2.2.2.2.2.2.2.2.2.1
theorem m_K149 {M : hp} (F : MF M) : hK M 149 = (20, 3) := F.2.2.2.2.2.2.2.2.2.2.2.2.2.2.2.2.2.2.2.2.2.2.2.2.2.2.2.2.2.2.2.2.2.2.2.2.2.2.2.2.2.2.2.2.2.2.2.2.2.2.1
theorem m_K150 {M : hp} (F : MF M) : hK M 150 = (21, 21) := F.2.2.2.2.2.2.2.2.2.2.2.2.2.2.2.2.2.2.2.2.2.2.2.2.2.2.2.2.2.2.2.2.2.2.2.2.2.2.2.2.2.2.2.2.2.2.2.2.2.2.2.1
theorem m_K151 {M : hp} (F : MF M) : hK M 151 = (21, 4) := F.2.2.2.2.2.2.2.2.2.2.2.2.2.2.2.2.2.2.2.2.2.2.2.2.2.2.2.2.2.2.2.2.2.2.2.2.2.2.2.2.2.2.2.2.2.2.2.2.2.2.2.2.1
theorem m_K152 {M : hp} (F : MF M) : hK M 152 = (20, 96) := F.2.2.2.2.2.2.2.2.2.2.2.2.2.2.2.2.2.2.2.2.2.2.2.2.2.2.2.2.2.2.2.2.2.2.2.2.2.2.2.2.2.2.2.2.2.2.2.2.2.2.2.2.2.1
theorem m_K153 {M : hp} (F : MF M) : hK M 153 = (20, 17) := F.2.2.2.2.2.2.2.2.2.2.2.2.2.2.2.2.2.2.2.2.2.2.2.2.2.2.2.2.2.2.2.2.2.2.2.2.2.2.2.2.2.2.2.2.2.2.2.2.2.2.2.2.2.2
theorem MF_of {M M' : hp} (F : MF M) (e : hK M' = hK M) (e2 : hR M' = hR M) : MF M' := by
  unfold MF at *
  rw [e, e2]
  exact F
theorem m156_10 {d : Nat} {x1 : Int32} {s0 : Int32} {M : hp} {Q : Option Value → hp → Prop} (F : MF M) : Wp none d 156 10 [(0, .ref 126), (1, .int x1)] [.int s0, .ref 126] M Q = Wp none d 156 13 [(0, .ref 126), (1, .int x1)] [] (sI M 126 1 s0) Q := by
  rw [k156_10 (x0 := 126) (s1 := 126) F.1]
theorem m156_17 {d : Nat} {x1 : Int32} {M : hp} {Q : Option Value → hp → Prop} (F : MF M) (h5 : vin (-x1) 7 = true) : Wp none d 156 17 [(0, .ref 126), (1, .int x1)] [] M Q = Wp none d 156 28 [(0, .ref 126), (1, .int x1)] [] (sI M 127 (-x1).toNatClampNeg ((hI M 127 (-x1).toNatClampNeg) + 1)) Q := by
  rw [k156_17 (x0 := 126) F.1 (by rw [m_R2 F]; decide) (by rw [m_R2 F]; decide) (by rw [m_R2 F, m_K127 F]) (by rw [m_R2 F, m_K127 F]; exact h5)]
  simp only [m_R2 F]
theorem m157_0 {d : Nat} {x1 : Int32} {x2 : Int32} {M : hp} {Q : Option Value → hp → Prop} (F : MF M) (h5 : vin x1 5447 = true) : Wp none d 157 0 [(0, .ref 126), (1, .int x1), (2, .int x2)] [] M Q = Wp none d 157 14 [(0, .ref 126), (1, .int x1), (2, .int x2), (3, .int (hI M 128 x1.toNatClampNeg))] [] (sI M 128 x1.toNatClampNeg x2) Q := by
  rw [k157_0 (x0 := 126) F.1 (by rw [m_R3 F]; decide) (by rw [m_R3 F]; decide) (by rw [m_R3 F, m_K128 F]) (by rw [m_R3 F, m_K128 F]; exact h5)]
  simp only [m_R3 F]
theorem m157_14 {d : Nat} {x1 : Int32} {x2 : Int32} {x3 : Int32} {M : hp} {Q : Option Value → hp → Prop} (F : MF M) : Wp none d 157 14 [(0, .ref 126), (1, .int x1), (2, .int x2), (3, .int x3)] [] M Q = Wp none d 157 19 [(0, .ref 126), (1, .int x1), (2, .int x2), (3, .int x3)] [] (sI M 126 1 0) Q := by
  rw [k157_14 (x0 := 126) F.1]
theorem m158_5 {d : Nat} {x1 : Int32} {s0 : Nat} {M : hp} {Q : Option Value → hp → Prop} (F : MF M) : Wp none d 158 5 [(0, .ref 126), (1, .int x1)] [.ref s0] M Q = Wp none d 158 13 [(0, .ref 126), (1, .int x1)] [.int (hI M 126 8), .ref s0] M Q := by
  rw [k158_5 (x0 := 126) F.1]
theorem m158_13 {d : Nat} {x1 : Int32} {s0 : Int32} {M : hp} {Q : Option Value → hp → Prop} (F : MF M) : Wp none d 158 13 [(0, .ref 126), (1, .int x1)] [.int s0, .ref 126] M Q = Wp none d 158 16 [(0, .ref 126), (1, .int x1)] [] (sI M 126 8 s0) Q := by
  rw [k158_13 (x0 := 126) (s1 := 126) F.1]
theorem m158_18 {d : Nat} {x1 : Int32} {s0 : Int32} {M : hp} {Q : Option Value → hp → Prop} (F : MF M) : Wp none d 158 18 [(0, .ref 126), (1, .int x1)] [.int s0, .ref 126] M Q = Wp none d 156 0 [(0, .ref 126), (1, .int s0)] [] M (fun r M1 => Wp none d 158 21 [(0, .ref 126), (1, .int x1)] (r.toList ++ []) M1 Q) := by
  rw [k158_18 (x0 := 126) (s1 := 126) F.1]
theorem m159_8 {d : Nat} {x1 : Int32} {x2 : Int32} {M : hp} {Q : Option Value → hp → Prop} (F : MF M) (h6 : vin (4 + x2) 5447 = true) (h8 : vin ((17 * x1) + x2) 306 = true) : Wp none d 159 8 [(0, .ref 126), (1, .int x1), (2, .int x2)] [] M Q = Wp none d 159 27 [(0, .ref 126), (1, .int x1), (2, .int x2)] [] (sI M 131 ((17 * x1) + x2).toNatClampNeg (hI M 128 (4 + x2).toNatClampNeg)) Q := by
  rw [k159_8 (x0 := 126) F.1 (by rw [m_R6 F]; decide) (by rw [m_R3 F]; decide) (by rw [m_R3 F]; decide) (by rw [m_R3 F, m_K128 F]) (by rw [m_R3 F, m_K128 F]; exact h6) (by rw [m_R6 F, m_K131 F]) (by rw [m_R6 F, m_K131 F]; exact h8)]
  simp only [m_R6 F, m_R3 F]
theorem m160_8 {d : Nat} {x1 : Int32} {x2 : Int32} {M : hp} {Q : Option Value → hp → Prop} (F : MF M) (h6 : vin ((17 * x1) + x2) 306 = true) (h8 : vin (4 + x2) 5447 = true) : Wp none d 160 8 [(0, .ref 126), (1, .int x1), (2, .int x2)] [] M Q = Wp none d 160 27 [(0, .ref 126), (1, .int x1), (2, .int x2)] [] (sI M 128 (4 + x2).toNatClampNeg (hI M 131 ((17 * x1) + x2).toNatClampNeg)) Q := by
  rw [k160_8 (x0 := 126) F.1 (by rw [m_R3 F]; decide) (by rw [m_R6 F]; decide) (by rw [m_R6 F]; decide) (by rw [m_R6 F, m_K131 F]) (by rw [m_R6 F, m_K131 F]; exact h6) (by rw [m_R3 F, m_K128 F]) (by rw [m_R3 F, m_K128 F]; exact h8)]
  simp only [m_R3 F, m_R6 F]
theorem m161_0 {d : Nat} {x1 : Int32} {M : hp} {Q : Option Value → hp → Prop} (F : MF M) : Wp none d 161 0 [(0, .ref 126), (1, .int x1)] [] M Q = Wp none d 161 6 [(0, .ref 126), (1, .int x1)] [.int 16, .int (hI M 126 8)] M Q := by
  rw [k161_0 (x0 := 126) F.1]
theorem m161_18 {d : Nat} {x1 : Int32} {x2 : Int32} {M : hp} {Q : Option Value → hp → Prop} (F : MF M) (h5 : vin (x2 + 17) 306 = true) (h6 : vin x2 306 = true) : Wp none d 161 18 [(0, .ref 126), (1, .int x1), (2, .int x2)] [] M Q = Wp none d 161 33 [(0, .ref 126), (1, .int x1), (2, .int x2)] [] (sI M 131 x2.toNatClampNeg (hI M 131 (x2 + 17).toNatClampNeg)) Q := by
  rw [k161_18 (x0 := 126) F.1 (by rw [m_R6 F]; decide) (by rw [m_R6 F]; decide) (by rw [m_R6 F, m_K131 F]) (by rw [m_R6 F, m_K131 F]; exact h5) (by rw [m_R6 F, m_K131 F]; exact h6)]
  simp only [m_R6 F]
theorem m161_47 {d : Nat} {x1 : Int32} {x2 : Int32} {M : hp} {Q : Option Value → hp → Prop} (F : MF M) (h5 : vin (x2 + 1) 16 = true) (h6 : vin x2 16 = true) : Wp none d 161 47 [(0, .ref 126), (1, .int x1), (2, .int x2)] [] M Q = Wp none d 161 61 [(0, .ref 126), (1, .int x1), (2, .int x2)] [] (sI M 132 x2.toNatClampNeg (hI M 132 (x2 + 1).toNatClampNeg)) Q := by
  rw [k161_47 (x0 := 126) F.1 (by rw [m_R7 F]; decide) (by rw [m_R7 F]; decide) (by rw [m_R7 F, m_K132 F]) (by rw [m_R7 F, m_K132 F]; exact h5) (by rw [m_R7 F, m_K132 F]; exact h6)]
  simp only [m_R7 F]
theorem m161_67 {d : Nat} {x1 : Int32} {x2 : Int32} {M : hp} {Q : Option Value → hp → Prop} (F : MF M) : Wp none d 161 67 [(0, .ref 126), (1, .int x1), (2, .int x2)] [] M Q = Wp none d 161 77 [(0, .ref 126), (1, .int x1)] [] (sI M 126 8 ((hI M 126 8) - 1)) Q := by
  rw [k161_67 (x0 := 126) F.1]
theorem m161_77 {d : Nat} {x1 : Int32} {M : hp} {Q : Option Value → hp → Prop} (F : MF M) : Wp none d 161 77 [(0, .ref 126), (1, .int x1)] [] M Q = Wp none d 161 82 [(0, .ref 126), (1, .int x1)] [.int (hI M 126 8), .ref 126] M Q := by
  rw [k161_77 (x0 := 126) F.1]
theorem m161_82 {d : Nat} {x1 : Int32} {s0 : Int32} {M : hp} {Q : Option Value → hp → Prop} (F : MF M) : Wp none d 161 82 [(0, .ref 126), (1, .int x1)] [.int s0, .ref 126] M Q = Wp none d 159 0 [(0, .ref 126), (1, .int s0)] [] M (fun r M1 => Wp none d 161 85 [(0, .ref 126), (1, .int x1)] (r.toList ++ []) M1 Q) := by
  rw [k161_82 (x0 := 126) (s1 := 126) F.1]
theorem m161_85 {d : Nat} {x1 : Int32} {M : hp} {Q : Option Value → hp → Prop} (F : MF M) (h4 : vin (hI M 126 8) 16 = true) : Wp none d 161 85 [(0, .ref 126), (1, .int x1)] [] M Q = Wp none d 161 95 [(0, .ref 126), (1, .int x1)] [] (sI M 132 (hI M 126 8).toNatClampNeg x1) Q := by
  rw [k161_85 (x0 := 126) F.1 (by rw [m_R7 F]; decide) (by rw [m_R7 F, m_K132 F]) (by rw [m_R7 F, m_K132 F]; exact h4)]
  simp only [m_R7 F]
theorem m161_95 {d : Nat} {x1 : Int32} {M : hp} {Q : Option Value → hp → Prop} (F : MF M) : Wp none d 161 95 [(0, .ref 126), (1, .int x1)] [] M Q = Q none (sI M 126 8 ((hI M 126 8) + 1)) := by
  rw [k161_95 (x0 := 126) F.1]
theorem m162_0 {d : Nat} {M : hp} {Q : Option Value → hp → Prop} (F : MF M) : Wp none d 162 0 [(0, .ref 126)] [] M Q = Wp none d 162 5 [(0, .ref 126)] [] (sI M 126 0 0) Q := by
  rw [k162_0 (x0 := 126) F.1]
theorem m162_5 {d : Nat} {M : hp} {Q : Option Value → hp → Prop} (F : MF M) : Wp none d 162 5 [(0, .ref 126)] [] M Q = Wp none d 162 9 [(0, .ref 126)] [.int (hI M 126 8)] M Q := by
  rw [k162_5 (x0 := 126) F.1]
theorem m162_15 {d : Nat} {s0 : Int32} {M : hp} {Q : Option Value → hp → Prop} (F : MF M) : Wp none d 162 15 [(0, .ref 126)] [.int s0, .ref 126] M Q = Wp none d 156 0 [(0, .ref 126), (1, .int s0)] [] M (fun r M1 => Wp none d 162 18 [(0, .ref 126)] (r.toList ++ []) M1 Q) := by
  rw [k162_15 (x0 := 126) (s1 := 126) F.1]
theorem m162_19 {d : Nat} {M : hp} {Q : Option Value → hp → Prop} (F : MF M) : Wp none d 162 19 [(0, .ref 126)] [] M Q = Wp none d 162 29 [(0, .ref 126)] [] (sI M 126 8 ((hI M 126 8) - 1)) Q := by
  rw [k162_19 (x0 := 126) F.1]
theorem m162_29 {d : Nat} {M : hp} {Q : Option Value → hp → Prop} (F : MF M) : Wp none d 162 29 [(0, .ref 126)] [] M Q = Wp none d 162 34 [(0, .ref 126)] [.int (hI M 126 8), .ref 126] M Q := by
  rw [k162_29 (x0 := 126) F.1]
theorem m162_34 {d : Nat} {s0 : Int32} {M : hp} {Q : Option Value → hp → Prop} (F : MF M) : Wp none d 162 34 [(0, .ref 126)] [.int s0, .ref 126] M Q = Wp none d 160 0 [(0, .ref 126), (1, .int s0)] [] M (fun r M1 => Wp none d 162 37 [(0, .ref 126)] (r.toList ++ []) M1 Q) := by
  rw [k162_34 (x0 := 126) (s1 := 126) F.1]
theorem m162_37 {d : Nat} {M : hp} {Q : Option Value → hp → Prop} (F : MF M) (h5 : vin (hI M 126 8) 16 = true) : Wp none d 162 37 [(0, .ref 126)] [] M Q = Wp none d 162 47 [(0, .ref 126)] [.int (hI M 132 (hI M 126 8).toNatClampNeg), .ref 126] M Q := by
  rw [k162_37 (x0 := 126) F.1 (by rw [m_R7 F]; decide) (by rw [m_R7 F]; decide) (by rw [m_R7 F, m_K132 F]) (by rw [m_R7 F, m_K132 F]; exact h5)]
  simp only [m_R7 F]
theorem m162_47 {d : Nat} {s0 : Int32} {M : hp} {Q : Option Value → hp → Prop} (F : MF M) : Wp none d 162 47 [(0, .ref 126)] [.int s0, .ref 126] M Q = Wp none d 156 0 [(0, .ref 126), (1, .int s0)] [] M (fun r M1 => Wp none d 162 50 [(0, .ref 126)] (r.toList ++ []) M1 Q) := by
  rw [k162_47 (x0 := 126) (s1 := 126) F.1]
theorem m163_0 {d : Nat} {x1 : Int32} {M : hp} {Q : Option Value → hp → Prop} (F : MF M) : Wp none d 163 0 [(0, .ref 126), (1, .int x1)] [] M Q = Wp none d 163 5 [(0, .ref 126), (1, .int x1)] [] (sI M 126 0 0) Q := by
  rw [k163_0 (x0 := 126) F.1]
theorem m163_17 {d : Nat} {x1 : Int32} {s0 : Int32} {M : hp} {Q : Option Value → hp → Prop} (F : MF M) : Wp none d 163 17 [(0, .ref 126), (1, .int x1)] [.int s0, .ref 126] M Q = Wp none d 156 0 [(0, .ref 126), (1, .int s0)] [] M (fun r M1 => Wp none d 163 20 [(0, .ref 126), (1, .int x1)] (r.toList ++ []) M1 Q) := by
  rw [k163_17 (x0 := 126) (s1 := 126) F.1]
theorem m163_30 {d : Nat} {x1 : Int32} {x2 : Int32} {M : hp} {Q : Option Value → hp → Prop} (F : MF M) (h6 : vin x2 5447 = true) (h8 : vin ((5447 * x1) + x2) 10894 = true) : Wp none d 163 30 [(0, .ref 126), (1, .int x1), (2, .int x2)] [] M Q = Wp none d 163 48 [(0, .ref 126), (1, .int x1), (2, .int x2)] [] (sI M 129 ((5447 * x1) + x2).toNatClampNeg (hI M 128 x2.toNatClampNeg)) Q := by
  rw [k163_30 (x0 := 126) F.1 (by rw [m_R4 F]; decide) (by rw [m_R3 F]; decide) (by rw [m_R3 F]; decide) (by rw [m_R3 F, m_K128 F]) (by rw [m_R3 F, m_K128 F]; exact h6) (by rw [m_R4 F, m_K129 F]) (by rw [m_R4 F, m_K129 F]; exact h8)]
  simp only [m_R4 F, m_R3 F]
theorem m163_54 {d : Nat} {x1 : Int32} {x2 : Int32} {M : hp} {Q : Option Value → hp → Prop} (F : MF M) (h4 : vin x1 2 = true) : Wp none d 163 54 [(0, .ref 126), (1, .int x1), (2, .int x2)] [] M Q = Wp none d 163 61 [(0, .ref 126), (1, .int x1), (2, .int x2)] [] (sI M 130 x1.toNatClampNeg (vp_nar .boolean 1)) Q := by
  rw [k163_54 (x0 := 126) F.1 (by rw [m_R5 F]; decide) (by rw [m_R5 F, m_K130 F]) (by rw [m_R5 F, m_K130 F]; exact h4)]
  simp only [m_R5 F]
theorem m163_63 {d : Nat} {x1 : Int32} {x2 : Int32} {s0 : Int32} {M : hp} {Q : Option Value → hp → Prop} (F : MF M) : Wp none d 163 63 [(0, .ref 126), (1, .int x1), (2, .int x2)] [.int s0, .ref 126] M Q = Wp none d 156 0 [(0, .ref 126), (1, .int s0)] [] M (fun r M1 => Wp none d 163 66 [(0, .ref 126), (1, .int x1), (2, .int x2)] (r.toList ++ []) M1 Q) := by
  rw [k163_63 (x0 := 126) (s1 := 126) F.1]
theorem m164_0 {d : Nat} {x1 : Int32} {M : hp} {Q : Option Value → hp → Prop} (F : MF M) : Wp none d 164 0 [(0, .ref 126), (1, .int x1)] [] M Q = Wp none d 164 5 [(0, .ref 126), (1, .int x1)] [] (sI M 126 0 0) Q := by
  rw [k164_0 (x0 := 126) F.1]
theorem m164_17 {d : Nat} {x1 : Int32} {s0 : Int32} {M : hp} {Q : Option Value → hp → Prop} (F : MF M) : Wp none d 164 17 [(0, .ref 126), (1, .int x1)] [.int s0, .ref 126] M Q = Wp none d 156 0 [(0, .ref 126), (1, .int s0)] [] M (fun r M1 => Wp none d 164 20 [(0, .ref 126), (1, .int x1)] (r.toList ++ []) M1 Q) := by
  rw [k164_17 (x0 := 126) (s1 := 126) F.1]
theorem m164_21 {d : Nat} {x1 : Int32} {M : hp} {Q : Option Value → hp → Prop} (F : MF M) (h4 : vin x1 2 = true) : Wp none d 164 21 [(0, .ref 126), (1, .int x1)] [] M Q = Wp none d 164 27 [(0, .ref 126), (1, .int x1)] [.int (hI M 130 x1.toNatClampNeg)] M Q := by
  rw [k164_21 (x0 := 126) F.1 (by rw [m_R5 F]; decide) (by rw [m_R5 F, m_K130 F]) (by rw [m_R5 F, m_K130 F]; exact h4)]
  simp only [m_R5 F]
theorem m164_33 {d : Nat} {x1 : Int32} {s0 : Int32} {M : hp} {Q : Option Value → hp → Prop} (F : MF M) : Wp none d 164 33 [(0, .ref 126), (1, .int x1)] [.int s0, .ref 126] M Q = Wp none d 156 0 [(0, .ref 126), (1, .int s0)] [] M (fun r M1 => Wp none d 164 36 [(0, .ref 126), (1, .int x1)] (r.toList ++ []) M1 Q) := by
  rw [k164_33 (x0 := 126) (s1 := 126) F.1]
theorem m164_46 {d : Nat} {x1 : Int32} {x2 : Int32} {M : hp} {Q : Option Value → hp → Prop} (F : MF M) (h6 : vin ((5447 * x1) + x2) 10894 = true) (h8 : vin x2 5447 = true) : Wp none d 164 46 [(0, .ref 126), (1, .int x1), (2, .int x2)] [] M Q = Wp none d 164 64 [(0, .ref 126), (1, .int x1), (2, .int x2)] [] (sI M 128 x2.toNatClampNeg (hI M 129 ((5447 * x1) + x2).toNatClampNeg)) Q := by
  rw [k164_46 (x0 := 126) F.1 (by rw [m_R3 F]; decide) (by rw [m_R4 F]; decide) (by rw [m_R4 F]; decide) (by rw [m_R4 F, m_K129 F]) (by rw [m_R4 F, m_K129 F]; exact h6) (by rw [m_R3 F, m_K128 F]) (by rw [m_R3 F, m_K128 F]; exact h8)]
  simp only [m_R3 F, m_R4 F]
theorem m164_72 {d : Nat} {x1 : Int32} {x2 : Int32} {s0 : Int32} {M : hp} {Q : Option Value → hp → Prop} (F : MF M) : Wp none d 164 72 [(0, .ref 126), (1, .int x1), (2, .int x2)] [.int s0, .ref 126] M Q = Wp none d 158 0 [(0, .ref 126), (1, .int s0)] [] M (fun r M1 => Wp none d 164 75 [(0, .ref 126), (1, .int x1), (2, .int x2)] (r.toList ++ []) M1 Q) := by
  rw [k164_72 (x0 := 126) (s1 := 126) F.1]
theorem m165_0 {d : Nat} {x1 : Int32} {M : hp} {Q : Option Value → hp → Prop} (F : MF M) (h5 : vin 0 5447 = true) : Wp none d 165 0 [(0, .ref 126), (1, .int x1)] [] M Q = Wp none d 165 12 [(0, .ref 126), (1, .int x1)] [.long (((hI M 128 (0 : Int32).toNatClampNeg).toInt64) - 1), .long 0, .long x1.toInt64] M Q := by
  rw [k165_0 (x0 := 126) F.1 (by rw [m_R3 F]; decide) (by rw [m_R3 F]; decide) (by rw [m_R3 F, m_K128 F]) (by rw [m_R3 F, m_K128 F]; exact h5)]
  simp only [m_R3 F]
theorem m165_15 {d : Nat} {x1 : Int32} {s0 : Int32} {M : hp} {Q : Option Value → hp → Prop} (F : MF M) (h1 : s0 = 0 ∨ s0 = 1) : Wp none d 165 15 [(0, .ref 126), (1, .int x1)] [.int s0] M Q = Q (some (.int s0)) M := by
  rw [k165_15 (x0 := 126) h1]
theorem m168_0 {d : Nat} {x1 : Int32} {M : hp} {Q : Option Value → hp → Prop} (F : MF M) (h5 : vin (7 + x1) 5447 = true) : Wp none d 168 0 [(0, .ref 126), (1, .int x1)] [] M Q = Wp none d 168 10 [(0, .ref 126), (1, .int x1)] [.int (-1), .int (hI M 128 (7 + x1).toNatClampNeg)] M Q := by
  rw [k168_0 (x0 := 126) F.1 (by rw [m_R3 F]; decide) (by rw [m_R3 F]; decide) (by rw [m_R3 F, m_K128 F]) (by rw [m_R3 F, m_K128 F]; exact h5)]
  simp only [m_R3 F]
theorem m168_18 {d : Nat} {x1 : Int32} {s0 : Int32} {M : hp} {Q : Option Value → hp → Prop} (F : MF M) (h1 : s0 = 0 ∨ s0 = 1) : Wp none d 168 18 [(0, .ref 126), (1, .int x1)] [.int s0] M Q = Q (some (.int s0)) M := by
  rw [k168_18 (x0 := 126) h1]
theorem m169_0 {d : Nat} {x1 : Int32} {x2 : Int32} {M : hp} {Q : Option Value → hp → Prop} (F : MF M) (h5 : vin (14 + x1) 5447 = true) : Wp none d 169 0 [(0, .ref 126), (1, .int x1), (2, .int x2)] [] M Q = Wp none d 169 10 [(0, .ref 126), (1, .int x1), (2, .int x2)] [.int x2, .int (hI M 128 (14 + x1).toNatClampNeg)] M Q := by
  rw [k169_0 (x0 := 126) F.1 (by rw [m_R3 F]; decide) (by rw [m_R3 F]; decide) (by rw [m_R3 F, m_K128 F]) (by rw [m_R3 F, m_K128 F]; exact h5)]
  simp only [m_R3 F]
theorem m169_13 {d : Nat} {x1 : Int32} {x2 : Int32} {s0 : Int32} {M : hp} {Q : Option Value → hp → Prop} (F : MF M) (h1 : s0 = 0 ∨ s0 = 1) : Wp none d 169 13 [(0, .ref 126), (1, .int x1), (2, .int x2)] [.int s0] M Q = Q (some (.int s0)) M := by
  rw [k169_13 (x0 := 126) h1]
theorem m170_4 {d : Nat} {x1 : Int32} {x2 : Int32} {x3 : Int32} {M : hp} {Q : Option Value → hp → Prop} (F : MF M) (h5 : vin 0 5447 = true) : Wp none d 170 4 [(0, .ref 126), (1, .int x1), (2, .int x2), (3, .int x3)] [] M Q = Wp none d 170 11 [(0, .ref 126), (1, .int x1), (2, .int x2), (3, .int x3)] [.int (hI M 128 (0 : Int32).toNatClampNeg), .int x3] M Q := by
  rw [k170_4 (x0 := 126) F.1 (by rw [m_R3 F]; decide) (by rw [m_R3 F]; decide) (by rw [m_R3 F, m_K128 F]) (by rw [m_R3 F, m_K128 F]; exact h5)]
  simp only [m_R3 F]
theorem m170_14 {d : Nat} {x1 : Int32} {x2 : Int32} {x3 : Int32} {M : hp} {Q : Option Value → hp → Prop} (F : MF M) (h5 : vin (7 + x3) 5447 = true) : Wp none d 170 14 [(0, .ref 126), (1, .int x1), (2, .int x2), (3, .int x3)] [] M Q = Wp none d 170 24 [(0, .ref 126), (1, .int x1), (2, .int x2), (3, .int x3)] [.int x1, .int (hI M 128 (7 + x3).toNatClampNeg)] M Q := by
  rw [k170_14 (x0 := 126) F.1 (by rw [m_R3 F]; decide) (by rw [m_R3 F]; decide) (by rw [m_R3 F, m_K128 F]) (by rw [m_R3 F, m_K128 F]; exact h5)]
  simp only [m_R3 F]
theorem m171_2 {d : Nat} {x1 : Int32} {x2 : Int32} {s0 : Int32} {M : hp} {Q : Option Value → hp → Prop} (F : MF M) : Wp none d 171 2 [(0, .ref 126), (1, .int x1), (2, .int x2)] [.int s0, .ref 126] M Q = Wp none d 168 0 [(0, .ref 126), (1, .int s0)] [] M (fun r M1 => Wp none d 171 5 [(0, .ref 126), (1, .int x1), (2, .int x2)] (r.toList ++ []) M1 Q) := by
  rw [k171_2 (x0 := 126) (s1 := 126) F.1]
theorem m171_10 {d : Nat} {x1 : Int32} {x2 : Int32} {s0 : Int32} {M : hp} {Q : Option Value → hp → Prop} (F : MF M) : Wp none d 171 10 [(0, .ref 126), (1, .int x1), (2, .int x2)] [.int s0, .ref 126] M Q = Wp none d 168 0 [(0, .ref 126), (1, .int s0)] [] M (fun r M1 => Wp none d 171 13 [(0, .ref 126), (1, .int x1), (2, .int x2)] (r.toList ++ []) M1 Q) := by
  rw [k171_10 (x0 := 126) (s1 := 126) F.1]
theorem m171_16 {d : Nat} {x1 : Int32} {x2 : Int32} {M : hp} {Q : Option Value → hp → Prop} (F : MF M) (h5 : vin (7 + x1) 5447 = true) (h6 : vin (7 + x2) 5447 = true) : Wp none d 171 16 [(0, .ref 126), (1, .int x1), (2, .int x2)] [] M Q = Wp none d 171 36 [(0, .ref 126), (1, .int x1), (2, .int x2)] [.int 1, .int ((hI M 128 (7 + x1).toNatClampNeg) - (hI M 128 (7 + x2).toNatClampNeg))] M Q := by
  rw [k171_16 (x0 := 126) F.1 (by rw [m_R3 F]; decide) (by rw [m_R3 F]; decide) (by rw [m_R3 F, m_K128 F]) (by rw [m_R3 F, m_K128 F]; exact h5) (by rw [m_R3 F, m_K128 F]; exact h6)]
  simp only [m_R3 F]
theorem m171_39 {d : Nat} {x1 : Int32} {x2 : Int32} {M : hp} {Q : Option Value → hp → Prop} (F : MF M) (h5 : vin (7 + x2) 5447 = true) (h6 : vin (7 + x1) 5447 = true) : Wp none d 171 39 [(0, .ref 126), (1, .int x1), (2, .int x2)] [] M Q = Wp none d 171 59 [(0, .ref 126), (1, .int x1), (2, .int x2)] [.int 1, .int ((hI M 128 (7 + x2).toNatClampNeg) - (hI M 128 (7 + x1).toNatClampNeg))] M Q := by
  rw [k171_39 (x0 := 126) F.1 (by rw [m_R3 F]; decide) (by rw [m_R3 F]; decide) (by rw [m_R3 F, m_K128 F]) (by rw [m_R3 F, m_K128 F]; exact h5) (by rw [m_R3 F, m_K128 F]; exact h6)]
  simp only [m_R3 F]
theorem m171_67 {d : Nat} {x1 : Int32} {x2 : Int32} {s0 : Int32} {M : hp} {Q : Option Value → hp → Prop} (F : MF M) (h1 : s0 = 0 ∨ s0 = 1) : Wp none d 171 67 [(0, .ref 126), (1, .int x1), (2, .int x2)] [.int s0] M Q = Q (some (.int s0)) M := by
  rw [k171_67 (x0 := 126) h1]
theorem m172_4 {d : Nat} {x1 : Int32} {x2 : Int32} {M : hp} {Q : Option Value → hp → Prop} (F : MF M) (h5 : vin 0 5447 = true) : Wp none d 172 4 [(0, .ref 126), (1, .int x1), (2, .int x2)] [] M Q = Wp none d 172 11 [(0, .ref 126), (1, .int x1), (2, .int x2)] [.int (hI M 128 (0 : Int32).toNatClampNeg), .int x2] M Q := by
  rw [k172_4 (x0 := 126) F.1 (by rw [m_R3 F]; decide) (by rw [m_R3 F]; decide) (by rw [m_R3 F, m_K128 F]) (by rw [m_R3 F, m_K128 F]; exact h5)]
  simp only [m_R3 F]
theorem m172_17 {d : Nat} {x1 : Int32} {x2 : Int32} {s0 : Int32} {s2 : Int32} {M : hp} {Q : Option Value → hp → Prop} (F : MF M) : Wp none d 172 17 [(0, .ref 126), (1, .int x1), (2, .int x2)] [.int s0, .ref 126, .int s2] M Q = Wp none d 168 0 [(0, .ref 126), (1, .int s0)] [] M (fun r M1 => Wp none d 172 20 [(0, .ref 126), (1, .int x1), (2, .int x2)] (r.toList ++ [.int s2]) M1 Q) := by
  rw [k172_17 (x0 := 126) (s1 := 126) F.1]
theorem m173_4 {d : Nat} {x1 : Int32} {x2 : Int32} {M : hp} {Q : Option Value → hp → Prop} (F : MF M) (h5 : vin 0 5447 = true) : Wp none d 173 4 [(0, .ref 126), (1, .int x1), (2, .int x2)] [] M Q = Wp none d 173 11 [(0, .ref 126), (1, .int x1), (2, .int x2)] [.int (hI M 128 (0 : Int32).toNatClampNeg), .int x2] M Q := by
  rw [k173_4 (x0 := 126) F.1 (by rw [m_R3 F]; decide) (by rw [m_R3 F]; decide) (by rw [m_R3 F, m_K128 F]) (by rw [m_R3 F, m_K128 F]; exact h5)]
  simp only [m_R3 F]
theorem m173_14 {d : Nat} {x1 : Int32} {x2 : Int32} {M : hp} {Q : Option Value → hp → Prop} (F : MF M) (h5 : vin (14 + x2) 5447 = true) : Wp none d 173 14 [(0, .ref 126), (1, .int x1), (2, .int x2)] [] M Q = Wp none d 173 4 [(0, .ref 126), (1, .int (x1 ||| (hI M 128 (14 + x2).toNatClampNeg))), (2, .int (x2 + 1))] [] M Q := by
  rw [k173_14 (x0 := 126) F.1 (by rw [m_R3 F]; decide) (by rw [m_R3 F]; decide) (by rw [m_R3 F, m_K128 F]) (by rw [m_R3 F, m_K128 F]; exact h5)]
  simp only [m_R3 F]
theorem m174_26 {d : Nat} {x1 : Int32} {x2 : Int32} {x3 : Int32} {M : hp} {Q : Option Value → hp → Prop} (F : MF M) (h5 : vin 0 5447 = true) : Wp none d 174 26 [(0, .ref 126), (1, .int x1), (2, .int x2), (3, .int x3)] [] M Q = Wp none d 174 38 [(0, .ref 126), (1, .int x1), (2, .int x2), (3, .int x3), (4, .int (hI M 128 (0 : Int32).toNatClampNeg))] [.int 7, .int (hI M 128 (0 : Int32).toNatClampNeg)] M Q := by
  rw [k174_26 (x0 := 126) F.1 (by rw [m_R3 F]; decide) (by rw [m_R3 F]; decide) (by rw [m_R3 F, m_K128 F]) (by rw [m_R3 F, m_K128 F]; exact h5)]
  simp only [m_R3 F]
theorem m174_44 {d : Nat} {x1 : Int32} {x2 : Int32} {x3 : Int32} {x4 : Int32} {M : hp} {Q : Option Value → hp → Prop} (F : MF M) (h4 : vin (21 + x4) 5447 = true) : Wp none d 174 44 [(0, .ref 126), (1, .int x1), (2, .int x2), (3, .int x3), (4, .int x4)] [] M Q = Wp none d 174 55 [(0, .ref 126), (1, .int x1), (2, .int x2), (3, .int x3), (4, .int x4)] [] (sI M 128 (21 + x4).toNatClampNeg x1) Q := by
  rw [k174_44 (x0 := 126) F.1 (by rw [m_R3 F]; decide) (by rw [m_R3 F, m_K128 F]) (by rw [m_R3 F, m_K128 F]; exact h4)]
  simp only [m_R3 F]
theorem m174_55 {d : Nat} {x1 : Int32} {x2 : Int32} {x3 : Int32} {x4 : Int32} {M : hp} {Q : Option Value → hp → Prop} (F : MF M) (h4 : vin (28 + x4) 5447 = true) : Wp none d 174 55 [(0, .ref 126), (1, .int x1), (2, .int x2), (3, .int x3), (4, .int x4)] [] M Q = Wp none d 174 66 [(0, .ref 126), (1, .int x1), (2, .int x2), (3, .int x3), (4, .int x4)] [] (sI M 128 (28 + x4).toNatClampNeg x2) Q := by
  rw [k174_55 (x0 := 126) F.1 (by rw [m_R3 F]; decide) (by rw [m_R3 F, m_K128 F]) (by rw [m_R3 F, m_K128 F]; exact h4)]
  simp only [m_R3 F]
theorem m174_66 {d : Nat} {x1 : Int32} {x2 : Int32} {x3 : Int32} {x4 : Int32} {M : hp} {Q : Option Value → hp → Prop} (F : MF M) (h4 : vin (7 + x4) 5447 = true) : Wp none d 174 66 [(0, .ref 126), (1, .int x1), (2, .int x2), (3, .int x3), (4, .int x4)] [] M Q = Wp none d 174 77 [(0, .ref 126), (1, .int x1), (2, .int x2), (3, .int x3), (4, .int x4)] [] (sI M 128 (7 + x4).toNatClampNeg (-1)) Q := by
  rw [k174_66 (x0 := 126) F.1 (by rw [m_R3 F]; decide) (by rw [m_R3 F, m_K128 F]) (by rw [m_R3 F, m_K128 F]; exact h4)]
  simp only [m_R3 F]
theorem m174_77 {d : Nat} {x1 : Int32} {x2 : Int32} {x3 : Int32} {x4 : Int32} {M : hp} {Q : Option Value → hp → Prop} (F : MF M) (h4 : vin (14 + x4) 5447 = true) : Wp none d 174 77 [(0, .ref 126), (1, .int x1), (2, .int x2), (3, .int x3), (4, .int x4)] [] M Q = Wp none d 174 88 [(0, .ref 126), (1, .int x1), (2, .int x2), (3, .int x3), (4, .int x4)] [] (sI M 128 (14 + x4).toNatClampNeg x3) Q := by
  rw [k174_77 (x0 := 126) F.1 (by rw [m_R3 F]; decide) (by rw [m_R3 F, m_K128 F]) (by rw [m_R3 F, m_K128 F]; exact h4)]
  simp only [m_R3 F]
theorem m174_88 {d : Nat} {x1 : Int32} {x2 : Int32} {x3 : Int32} {x4 : Int32} {M : hp} {Q : Option Value → hp → Prop} (F : MF M) (h5 : vin 0 5447 = true) : Wp none d 174 88 [(0, .ref 126), (1, .int x1), (2, .int x2), (3, .int x3), (4, .int x4)] [] M Q = Wp none d 174 98 [(0, .ref 126), (1, .int x1), (2, .int x2), (3, .int x3), (4, .int x4)] [] (sI M 128 (0 : Int32).toNatClampNeg ((hI M 128 (0 : Int32).toNatClampNeg) + 1)) Q := by
  rw [k174_88 (x0 := 126) F.1 (by rw [m_R3 F]; decide) (by rw [m_R3 F]; decide) (by rw [m_R3 F, m_K128 F]) (by rw [m_R3 F, m_K128 F]; exact h5)]
  simp only [m_R3 F]
theorem m175_0 {d : Nat} {x1 : Int32} {x2 : Int32} {M : hp} {Q : Option Value → hp → Prop} (F : MF M) : Wp none d 175 0 [(0, .ref 126), (1, .int x1), (2, .int x2)] [] M Q = Wp none d 175 5 [(0, .ref 126), (1, .int x1), (2, .int x2)] [] (sI M 126 0 0) Q := by
  rw [k175_0 (x0 := 126) F.1]
theorem m175_10 {d : Nat} {x1 : Int32} {x2 : Int32} {s0 : Int32} {s1 : Int32} {s2 : Int32} {s4 : Nat} {M : hp} {Q : Option Value → hp → Prop} (F : MF M) : Wp none d 175 10 [(0, .ref 126), (1, .int x1), (2, .int x2)] [.int s0, .int s1, .int s2, .ref 126, .ref s4] M Q = Wp none d 174 0 [(0, .ref 126), (1, .int s2), (2, .int s1), (3, .int s0)] [] M (fun r M1 => Wp none d 175 13 [(0, .ref 126), (1, .int x1), (2, .int x2)] (r.toList ++ [.ref s4]) M1 Q) := by
  rw [k175_10 (x0 := 126) (s3 := 126) F.1]
theorem m175_13 {d : Nat} {x1 : Int32} {x2 : Int32} {s0 : Int32} {M : hp} {Q : Option Value → hp → Prop} (F : MF M) : Wp none d 175 13 [(0, .ref 126), (1, .int x1), (2, .int x2)] [.int s0, .ref 126] M Q = Wp none d 158 0 [(0, .ref 126), (1, .int s0)] [] M (fun r M1 => Wp none d 175 16 [(0, .ref 126), (1, .int x1), (2, .int x2)] (r.toList ++ []) M1 Q) := by
  rw [k175_13 (x0 := 126) (s1 := 126) F.1]
theorem m176_14 {d : Nat} {x1 : Int32} {x2 : Int32} {x3 : Int32} {s0 : Int32} {s1 : Int32} {s3 : Int32} {M : hp} {Q : Option Value → hp → Prop} (F : MF M) : Wp none d 176 14 [(0, .ref 126), (1, .int x1), (2, .int x2), (3, .int x3)] [.int s0, .int s1, .ref 126, .int s3] M Q = Wp none d 169 0 [(0, .ref 126), (1, .int s1), (2, .int s0)] [] M (fun r M1 => Wp none d 176 17 [(0, .ref 126), (1, .int x1), (2, .int x2), (3, .int x3)] (r.toList ++ [.int s3]) M1 Q) := by
  rw [k176_14 (x0 := 126) (s2 := 126) F.1]
theorem m176_23 {d : Nat} {x1 : Int32} {x2 : Int32} {x3 : Int32} {s0 : Int32} {s1 : Int32} {s3 : Int32} {M : hp} {Q : Option Value → hp → Prop} (F : MF M) : Wp none d 176 23 [(0, .ref 126), (1, .int x1), (2, .int x2), (3, .int x3)] [.int s0, .int s1, .ref 126, .int s3] M Q = Wp none d 222 0 [(0, .ref 126), (1, .int s1), (2, .int s0)] [] M (fun r M1 => Wp none d 176 26 [(0, .ref 126), (1, .int x1), (2, .int x2), (3, .int x3)] (r.toList ++ [.int s3]) M1 Q) := by
  rw [k176_23 (x0 := 126) (s2 := 126) F.1]
theorem m177_0 {d : Nat} {x1 : Int32} {x2 : Int32} {M : hp} {Q : Option Value → hp → Prop} (F : MF M) : Wp none d 177 0 [(0, .ref 126), (1, .int x1), (2, .int x2)] [] M Q = Wp none d 177 5 [(0, .ref 126), (1, .int x1), (2, .int x2)] [] (sI M 126 0 0) Q := by
  rw [k177_0 (x0 := 126) F.1]
theorem m177_7 {d : Nat} {x1 : Int32} {x2 : Int32} {s0 : Int32} {M : hp} {Q : Option Value → hp → Prop} (F : MF M) : Wp none d 177 7 [(0, .ref 126), (1, .int x1), (2, .int x2)] [.int s0, .ref 126] M Q = Wp none d 165 0 [(0, .ref 126), (1, .int s0)] [] M (fun r M1 => Wp none d 177 10 [(0, .ref 126), (1, .int x1), (2, .int x2)] (r.toList ++ []) M1 Q) := by
  rw [k177_7 (x0 := 126) (s1 := 126) F.1]
theorem m177_52 {d : Nat} {x1 : Int32} {x2 : Int32} {M : hp} {Q : Option Value → hp → Prop} (F : MF M) (h5 : vin (21 + x1) 5447 = true) : Wp none d 177 52 [(0, .ref 126), (1, .int x1), (2, .int x2)] [] M Q = Q (some (.int (hI M 128 (21 + x1).toNatClampNeg))) M := by
  rw [k177_52 (x0 := 126) F.1 (by rw [m_R3 F]; decide) (by rw [m_R3 F]; decide) (by rw [m_R3 F, m_K128 F]) (by rw [m_R3 F, m_K128 F]; exact h5)]
  simp only [m_R3 F]
theorem m177_62 {d : Nat} {x1 : Int32} {x2 : Int32} {M : hp} {Q : Option Value → hp → Prop} (F : MF M) (h5 : vin (28 + x1) 5447 = true) : Wp none d 177 62 [(0, .ref 126), (1, .int x1), (2, .int x2)] [] M Q = Q (some (.int (hI M 128 (28 + x1).toNatClampNeg))) M := by
  rw [k177_62 (x0 := 126) F.1 (by rw [m_R3 F]; decide) (by rw [m_R3 F]; decide) (by rw [m_R3 F, m_K128 F]) (by rw [m_R3 F, m_K128 F]; exact h5)]
  simp only [m_R3 F]
theorem m177_72 {d : Nat} {x1 : Int32} {x2 : Int32} {M : hp} {Q : Option Value → hp → Prop} (F : MF M) (h5 : vin (7 + x1) 5447 = true) : Wp none d 177 72 [(0, .ref 126), (1, .int x1), (2, .int x2)] [] M Q = Q (some (.int (hI M 128 (7 + x1).toNatClampNeg))) M := by
  rw [k177_72 (x0 := 126) F.1 (by rw [m_R3 F]; decide) (by rw [m_R3 F]; decide) (by rw [m_R3 F, m_K128 F]) (by rw [m_R3 F, m_K128 F]; exact h5)]
  simp only [m_R3 F]
theorem m177_82 {d : Nat} {x1 : Int32} {x2 : Int32} {M : hp} {Q : Option Value → hp → Prop} (F : MF M) (h5 : vin (14 + x1) 5447 = true) : Wp none d 177 82 [(0, .ref 126), (1, .int x1), (2, .int x2)] [] M Q = Q (some (.int (hI M 128 (14 + x1).toNatClampNeg))) M := by
  rw [k177_82 (x0 := 126) F.1 (by rw [m_R3 F]; decide) (by rw [m_R3 F]; decide) (by rw [m_R3 F, m_K128 F]) (by rw [m_R3 F, m_K128 F]; exact h5)]
  simp only [m_R3 F]
theorem m177_94 {d : Nat} {x1 : Int32} {x2 : Int32} {s0 : Int32} {M : hp} {Q : Option Value → hp → Prop} (F : MF M) : Wp none d 177 94 [(0, .ref 126), (1, .int x1), (2, .int x2)] [.int s0, .ref 126] M Q = Wp none d 176 0 [(0, .ref 126), (1, .int s0)] [] M (fun r M1 => Wp none d 177 97 [(0, .ref 126), (1, .int x1), (2, .int x2)] (r.toList ++ []) M1 Q) := by
  rw [k177_94 (x0 := 126) (s1 := 126) F.1]
theorem m178_0 {d : Nat} {x1 : Int32} {x2 : Int32} {x3 : Int32} {M : hp} {Q : Option Value → hp → Prop} (F : MF M) : Wp none d 178 0 [(0, .ref 126), (1, .int x1), (2, .int x2), (3, .int x3)] [] M Q = Wp none d 178 5 [(0, .ref 126), (1, .int x1), (2, .int x2), (3, .int x3)] [] (sI M 126 0 0) Q := by
  rw [k178_0 (x0 := 126) F.1]
theorem m178_7 {d : Nat} {x1 : Int32} {x2 : Int32} {x3 : Int32} {s0 : Int32} {M : hp} {Q : Option Value → hp → Prop} (F : MF M) : Wp none d 178 7 [(0, .ref 126), (1, .int x1), (2, .int x2), (3, .int x3)] [.int s0, .ref 126] M Q = Wp none d 165 0 [(0, .ref 126), (1, .int s0)] [] M (fun r M1 => Wp none d 178 10 [(0, .ref 126), (1, .int x1), (2, .int x2), (3, .int x3)] (r.toList ++ []) M1 Q) := by
  rw [k178_7 (x0 := 126) (s1 := 126) F.1]
theorem m178_15 {d : Nat} {x1 : Int32} {x2 : Int32} {x3 : Int32} {s0 : Int32} {M : hp} {Q : Option Value → hp → Prop} (F : MF M) : Wp none d 178 15 [(0, .ref 126), (1, .int x1), (2, .int x2), (3, .int x3)] [.int s0, .ref 126] M Q = Wp none d 165 0 [(0, .ref 126), (1, .int s0)] [] M (fun r M1 => Wp none d 178 18 [(0, .ref 126), (1, .int x1), (2, .int x2), (3, .int x3)] (r.toList ++ []) M1 Q) := by
  rw [k178_15 (x0 := 126) (s1 := 126) F.1]
theorem m178_47 {d : Nat} {x1 : Int32} {x2 : Int32} {x3 : Int32} {s0 : Int32} {s1 : Int32} {M : hp} {Q : Option Value → hp → Prop} (F : MF M) : Wp none d 178 47 [(0, .ref 126), (1, .int x1), (2, .int x2), (3, .int x3)] [.int s0, .int s1, .ref 126] M Q = Wp none d 220 0 [(0, .ref 126), (1, .int s1), (2, .int s0)] [] M (fun r M1 => Wp none d 178 50 [(0, .ref 126), (1, .int x1), (2, .int x2), (3, .int x3)] (r.toList ++ []) M1 Q) := by
  rw [k178_47 (x0 := 126) (s2 := 126) F.1]
theorem m178_59 {d : Nat} {x1 : Int32} {x2 : Int32} {x3 : Int32} {s0 : Int32} {s1 : Int32} {s2 : Int32} {M : hp} {Q : Option Value → hp → Prop} (F : MF M) : Wp none d 178 59 [(0, .ref 126), (1, .int x1), (2, .int x2), (3, .int x3)] [.int s0, .int s1, .int s2, .ref 126] M Q = Wp none d 221 0 [(0, .ref 126), (1, .int s2), (2, .int s1), (3, .int s0)] [] M (fun r M1 => Wp none d 178 62 [(0, .ref 126), (1, .int x1), (2, .int x2), (3, .int x3)] (r.toList ++ []) M1 Q) := by
  rw [k178_59 (x0 := 126) (s3 := 126) F.1]
theorem m179_0 {d : Nat} {x1 : Int32} {M : hp} {Q : Option Value → hp → Prop} (F : MF M) : Wp none d 179 0 [(0, .ref 126), (1, .int x1)] [] M Q = Wp none d 179 5 [(0, .ref 126), (1, .int x1)] [] (sI M 126 0 0) Q := by
  rw [k179_0 (x0 := 126) F.1]
theorem m179_14 {d : Nat} {x1 : Int32} {s0 : Int32} {M : hp} {Q : Option Value → hp → Prop} (F : MF M) : Wp none d 179 14 [(0, .ref 126), (1, .int x1)] [.int s0, .ref 126] M Q = Wp none d 170 0 [(0, .ref 126), (1, .int s0)] [] M (fun r M1 => Wp none d 179 17 [(0, .ref 126), (1, .int x1)] (r.toList ++ []) M1 Q) := by
  rw [k179_14 (x0 := 126) (s1 := 126) F.1]
theorem m180_0 {d : Nat} {x1 : Int32} {x2 : Int32} {M : hp} {Q : Option Value → hp → Prop} (F : MF M) : Wp none d 180 0 [(0, .ref 126), (1, .int x1), (2, .int x2)] [] M Q = Wp none d 180 5 [(0, .ref 126), (1, .int x1), (2, .int x2)] [] (sI M 126 0 0) Q := by
  rw [k180_0 (x0 := 126) F.1]
theorem m180_67 {d : Nat} {x1 : Int32} {x2 : Int32} {x3 : Int32} {s0 : Int32} {M : hp} {Q : Option Value → hp → Prop} (F : MF M) : Wp none d 180 67 [(0, .ref 126), (1, .int x1), (2, .int x2), (3, .int x3)] [.int s0, .ref 126] M Q = Wp none d 156 0 [(0, .ref 126), (1, .int s0)] [] M (fun r M1 => Wp none d 180 70 [(0, .ref 126), (1, .int x1), (2, .int x2), (3, .int x3)] (r.toList ++ []) M1 Q) := by
  rw [k180_67 (x0 := 126) (s1 := 126) F.1]
theorem m180_71 {d : Nat} {x1 : Int32} {x2 : Int32} {x3 : Int32} {M : hp} {Q : Option Value → hp → Prop} (F : MF M) : Wp none d 180 71 [(0, .ref 126), (1, .int x1), (2, .int x2), (3, .int x3)] [] M Q = Wp none d 180 76 [(0, .ref 126), (1, .int x1), (2, .int x2), (3, .int x3)] [] (sI M 126 8 0) Q := by
  rw [k180_71 (x0 := 126) F.1]
theorem m180_81 {d : Nat} {x1 : Int32} {x2 : Int32} {x3 : Int32} {s0 : Int32} {s1 : Int32} {M : hp} {Q : Option Value → hp → Prop} (F : MF M) : Wp none d 180 81 [(0, .ref 126), (1, .int x1), (2, .int x2), (3, .int x3)] [.int s0, .int s1, .ref 126] M Q = Wp none d 157 0 [(0, .ref 126), (1, .int s1), (2, .int s0)] [] M (fun r M1 => Wp none d 180 84 [(0, .ref 126), (1, .int x1), (2, .int x2), (3, .int x3)] (r.toList ++ []) M1 Q) := by
  rw [k180_81 (x0 := 126) (s2 := 126) F.1]
theorem m181_0 {d : Nat} {M : hp} {Q : Option Value → hp → Prop} (F : MF M) : Wp none d 181 0 [(0, .ref 126)] [] M Q = Wp none d 181 5 [(0, .ref 126)] [] (sI M 126 0 0) Q := by
  rw [k181_0 (x0 := 126) F.1]
theorem m181_5 {d : Nat} {M : hp} {Q : Option Value → hp → Prop} (F : MF M) : Wp none d 181 5 [(0, .ref 126)] [] M Q = Wp none d 181 15 [(0, .ref 126), (1, .int (hI M 126 13))] [] (sI M 126 13 0) Q := by
  rw [k181_5 (x0 := 126) F.1]
theorem m181_22 {d : Nat} {x1 : Int32} {s0 : Int32} {M : hp} {Q : Option Value → hp → Prop} (F : MF M) : Wp none d 181 22 [(0, .ref 126), (1, .int x1)] [.int s0, .ref 126] M Q = Wp none d 156 0 [(0, .ref 126), (1, .int s0)] [] M (fun r M1 => Wp none d 181 25 [(0, .ref 126), (1, .int x1)] (r.toList ++ []) M1 Q) := by
  rw [k181_22 (x0 := 126) (s1 := 126) F.1]
theorem m181_26 {d : Nat} {x1 : Int32} {M : hp} {Q : Option Value → hp → Prop} (F : MF M) : Wp none d 181 26 [(0, .ref 126), (1, .int x1)] [] M Q = Wp none d 181 31 [(0, .ref 126), (1, .int x1)] [] (sI M 126 11 0) Q := by
  rw [k181_26 (x0 := 126) F.1]
theorem m181_47 {d : Nat} {x1 : Int32} {x2 : Int32} {x3 : Int32} {M : hp} {Q : Option Value → hp → Prop} (F : MF M) (h5 : vin x3 400 = true) (h6 : vin (x3 + 1) 400 = true) (h7 : vin (x3 + 2) 400 = true) : Wp none d 181 47 [(0, .ref 126), (1, .int x1), (2, .int x2), (3, .int x3)] [] M Q = Wp none d 181 70 [(0, .ref 126), (1, .int x1), (2, .int x2), (3, .int x3)] [.int (hI M 135 (x3 + 2).toNatClampNeg), .int (hI M 135 (x3 + 1).toNatClampNeg), .int (hI M 135 x3.toNatClampNeg), .ref 126] M Q := by
  rw [k181_47 (x0 := 126) F.1 (by rw [m_R12 F]; decide) (by rw [m_R12 F]; decide) (by rw [m_R12 F, m_K135 F]) (by rw [m_R12 F, m_K135 F]; exact h5) (by rw [m_R12 F, m_K135 F]; exact h6) (by rw [m_R12 F, m_K135 F]; exact h7)]
  simp only [m_R12 F]
theorem m181_70 {d : Nat} {x1 : Int32} {x2 : Int32} {x3 : Int32} {s0 : Int32} {s1 : Int32} {s2 : Int32} {M : hp} {Q : Option Value → hp → Prop} (F : MF M) : Wp none d 181 70 [(0, .ref 126), (1, .int x1), (2, .int x2), (3, .int x3)] [.int s0, .int s1, .int s2, .ref 126] M Q = Wp none d 174 0 [(0, .ref 126), (1, .int s2), (2, .int s1), (3, .int s0)] [] M (fun r M1 => Wp none d 181 73 [(0, .ref 126), (1, .int x1), (2, .int x2), (3, .int x3)] (r.toList ++ []) M1 Q) := by
  rw [k181_70 (x0 := 126) (s3 := 126) F.1]
theorem m181_82 {d : Nat} {x1 : Int32} {x2 : Int32} {x3 : Int32} {M : hp} {Q : Option Value → hp → Prop} (F : MF M) : Wp none d 181 82 [(0, .ref 126), (1, .int x1), (2, .int x2), (3, .int x3)] [] M Q = Wp none d 181 92 [(0, .ref 126), (1, .int x1), (2, .int x2), (3, .int x3)] [] (sI M 126 11 ((hI M 126 11) + 1)) Q := by
  rw [k181_82 (x0 := 126) F.1]
theorem m181_100 {d : Nat} {x1 : Int32} {x2 : Int32} {x3 : Int32} {s0 : Int32} {M : hp} {Q : Option Value → hp → Prop} (F : MF M) : Wp none d 181 100 [(0, .ref 126), (1, .int x1), (2, .int x2), (3, .int x3)] [.int s0, .ref 126] M Q = Wp none d 158 0 [(0, .ref 126), (1, .int s0)] [] M (fun r M1 => Wp none d 181 103 [(0, .ref 126), (1, .int x1), (2, .int x2), (3, .int x3)] (r.toList ++ []) M1 Q) := by
  rw [k181_100 (x0 := 126) (s1 := 126) F.1]
theorem m182_0 {d : Nat} {M : hp} {Q : Option Value → hp → Prop} (F : MF M) : Wp none d 182 0 [(0, .ref 126)] [] M Q = Wp none d 182 5 [(0, .ref 126)] [] (sI M 126 0 0) Q := by
  rw [k182_0 (x0 := 126) F.1]
theorem m182_5 {d : Nat} {M : hp} {Q : Option Value → hp → Prop} (F : MF M) : Wp none d 182 5 [(0, .ref 126)] [] M Q = Q (some (.int (hI M 126 11))) M := by
  rw [k182_5 (x0 := 126) F.1]
theorem m183_7 {d : Nat} {x1 : Int32} {x2 : Int32} {M : hp} {Q : Option Value → hp → Prop} (F : MF M) (h4 : vin (hI M 126 13) 400 = true) : Wp none d 183 7 [(0, .ref 126), (1, .int x1), (2, .int x2)] [] M Q = Wp none d 183 23 [(0, .ref 126), (1, .int x1), (2, .int x2)] [] (sI M 135 (hI M 126 13).toNatClampNeg ((x1 >>> (x2 &&& 31)) &&& 255)) Q := by
  rw [k183_7 (x0 := 126) F.1 (by rw [m_R12 F]; decide) (by rw [m_R12 F, m_K135 F]) (by rw [m_R12 F, m_K135 F]; exact h4)]
  simp only [m_R12 F]
theorem m183_23 {d : Nat} {x1 : Int32} {x2 : Int32} {M : hp} {Q : Option Value → hp → Prop} (F : MF M) : Wp none d 183 23 [(0, .ref 126), (1, .int x1), (2, .int x2)] [] M Q = Wp none d 183 33 [(0, .ref 126), (1, .int x1), (2, .int x2)] [] (sI M 126 13 ((hI M 126 13) + 1)) Q := by
  rw [k183_23 (x0 := 126) F.1]
theorem m184_0 {d : Nat} {x1 : Int32} {x2 : Int32} {x3 : Int32} {x4 : Int32} {x5 : Int32} {M : hp} {Q : Option Value → hp → Prop} (F : MF M) : Wp none d 184 0 [(0, .ref 126), (1, .int x1), (2, .int x2), (3, .int x3), (4, .int x4), (5, .int x5)] [] M Q = Wp none d 184 5 [(0, .ref 126), (1, .int x1), (2, .int x2), (3, .int x3), (4, .int x4), (5, .int x5)] [] (sI M 126 0 0) Q := by
  rw [k184_0 (x0 := 126) F.1]
theorem m184_5 {d : Nat} {x1 : Int32} {x2 : Int32} {x3 : Int32} {x4 : Int32} {x5 : Int32} {M : hp} {Q : Option Value → hp → Prop} (F : MF M) : Wp none d 184 5 [(0, .ref 126), (1, .int x1), (2, .int x2), (3, .int x3), (4, .int x4), (5, .int x5)] [] M Q = Wp none d 184 15 [(0, .ref 126), (1, .int x1), (2, .int x2), (3, .int x3), (4, .int x4), (5, .int x5)] [.int 400, .int ((hI M 126 13) + 20)] M Q := by
  rw [k184_5 (x0 := 126) F.1]
theorem m184_22 {d : Nat} {x1 : Int32} {x2 : Int32} {x3 : Int32} {x4 : Int32} {x5 : Int32} {s0 : Int32} {M : hp} {Q : Option Value → hp → Prop} (F : MF M) : Wp none d 184 22 [(0, .ref 126), (1, .int x1), (2, .int x2), (3, .int x3), (4, .int x4), (5, .int x5)] [.int s0, .ref 126] M Q = Wp none d 183 0 [(0, .ref 126), (1, .int s0)] [] M (fun r M1 => Wp none d 184 25 [(0, .ref 126), (1, .int x1), (2, .int x2), (3, .int x3), (4, .int x4), (5, .int x5)] (r.toList ++ []) M1 Q) := by
  rw [k184_22 (x0 := 126) (s1 := 126) F.1]
theorem m184_27 {d : Nat} {x1 : Int32} {x2 : Int32} {x3 : Int32} {x4 : Int32} {x5 : Int32} {s0 : Int32} {M : hp} {Q : Option Value → hp → Prop} (F : MF M) : Wp none d 184 27 [(0, .ref 126), (1, .int x1), (2, .int x2), (3, .int x3), (4, .int x4), (5, .int x5)] [.int s0, .ref 126] M Q = Wp none d 183 0 [(0, .ref 126), (1, .int s0)] [] M (fun r M1 => Wp none d 184 30 [(0, .ref 126), (1, .int x1), (2, .int x2), (3, .int x3), (4, .int x4), (5, .int x5)] (r.toList ++ []) M1 Q) := by
  rw [k184_27 (x0 := 126) (s1 := 126) F.1]
theorem m184_32 {d : Nat} {x1 : Int32} {x2 : Int32} {x3 : Int32} {x4 : Int32} {x5 : Int32} {s0 : Int32} {M : hp} {Q : Option Value → hp → Prop} (F : MF M) : Wp none d 184 32 [(0, .ref 126), (1, .int x1), (2, .int x2), (3, .int x3), (4, .int x4), (5, .int x5)] [.int s0, .ref 126] M Q = Wp none d 183 0 [(0, .ref 126), (1, .int s0)] [] M (fun r M1 => Wp none d 184 35 [(0, .ref 126), (1, .int x1), (2, .int x2), (3, .int x3), (4, .int x4), (5, .int x5)] (r.toList ++ []) M1 Q) := by
  rw [k184_32 (x0 := 126) (s1 := 126) F.1]
theorem m184_38 {d : Nat} {x1 : Int32} {x2 : Int32} {x3 : Int32} {x4 : Int32} {x5 : Int32} {s0 : Int32} {M : hp} {Q : Option Value → hp → Prop} (F : MF M) : Wp none d 184 38 [(0, .ref 126), (1, .int x1), (2, .int x2), (3, .int x3), (4, .int x4), (5, .int x5)] [.int s0, .ref 126] M Q = Wp none d 183 0 [(0, .ref 126), (1, .int s0)] [] M (fun r M1 => Wp none d 184 41 [(0, .ref 126), (1, .int x1), (2, .int x2), (3, .int x3), (4, .int x4), (5, .int x5)] (r.toList ++ []) M1 Q) := by
  rw [k184_38 (x0 := 126) (s1 := 126) F.1]
theorem m184_44 {d : Nat} {x1 : Int32} {x2 : Int32} {x3 : Int32} {x4 : Int32} {x5 : Int32} {s0 : Int32} {M : hp} {Q : Option Value → hp → Prop} (F : MF M) : Wp none d 184 44 [(0, .ref 126), (1, .int x1), (2, .int x2), (3, .int x3), (4, .int x4), (5, .int x5)] [.int s0, .ref 126] M Q = Wp none d 183 0 [(0, .ref 126), (1, .int s0)] [] M (fun r M1 => Wp none d 184 47 [(0, .ref 126), (1, .int x1), (2, .int x2), (3, .int x3), (4, .int x4), (5, .int x5)] (r.toList ++ []) M1 Q) := by
  rw [k184_44 (x0 := 126) (s1 := 126) F.1]
theorem m184_47 {d : Nat} {x1 : Int32} {x2 : Int32} {x3 : Int32} {x4 : Int32} {x5 : Int32} {M : hp} {Q : Option Value → hp → Prop} (F : MF M) : Wp none d 184 47 [(0, .ref 126), (1, .int x1), (2, .int x2), (3, .int x3), (4, .int x4), (5, .int x5)] [] M Q = Q (some (.int (hI M 126 13))) M := by
  rw [k184_47 (x0 := 126) F.1]
theorem m185_0 {d : Nat} {x1 : Int32} {M : hp} {Q : Option Value → hp → Prop} (F : MF M) : Wp none d 185 0 [(0, .ref 126), (1, .int x1)] [] M Q = Wp none d 185 5 [(0, .ref 126), (1, .int x1)] [] (sI M 126 0 0) Q := by
  rw [k185_0 (x0 := 126) F.1]
theorem m185_9 {d : Nat} {x1 : Int32} {M : hp} {Q : Option Value → hp → Prop} (F : MF M) : Wp none d 185 9 [(0, .ref 126), (1, .int x1)] [] M Q = Wp none d 185 14 [(0, .ref 126), (1, .int x1)] [.int (hI M 126 13), .int x1] M Q := by
  rw [k185_9 (x0 := 126) F.1]
theorem m185_19 {d : Nat} {x1 : Int32} {M : hp} {Q : Option Value → hp → Prop} (F : MF M) : Wp none d 185 19 [(0, .ref 126), (1, .int x1)] [] M Q = Wp none d 185 24 [(0, .ref 126), (1, .int x1)] [] (sI M 126 13 x1) Q := by
  rw [k185_19 (x0 := 126) F.1]
theorem m188_0 {d : Nat} {M : hp} {Q : Option Value → hp → Prop} (F : MF M) : Wp none d 188 0 [(0, .ref 126)] [] M Q = Wp none d 188 5 [(0, .ref 126)] [] (sI M 126 15 0) Q := by
  rw [k188_0 (x0 := 126) F.1]
theorem m188_5 {d : Nat} {M : hp} {Q : Option Value → hp → Prop} (F : MF M) : Wp none d 188 5 [(0, .ref 126)] [] M Q = Wp none d 188 10 [(0, .ref 126)] [] (sI M 126 19 0) Q := by
  rw [k188_5 (x0 := 126) F.1]
theorem m188_10 {d : Nat} {M : hp} {Q : Option Value → hp → Prop} (F : MF M) : Wp none d 188 10 [(0, .ref 126)] [] M Q = Wp none d 188 15 [(0, .ref 126)] [] (sI M 126 18 (-1)) Q := by
  rw [k188_10 (x0 := 126) F.1]
theorem m188_16 {d : Nat} {M : hp} {Q : Option Value → hp → Prop} (F : MF M) : Wp none d 188 16 [(0, .ref 126)] [.ref 126] M Q = Wp none d 189 0 [(0, .ref 126)] [] M (fun r M1 => Wp none d 188 19 [(0, .ref 126)] (r.toList ++ []) M1 Q) := by
  rw [k188_16 (x0 := 126) (s0 := 126) F.1]
theorem m189_0 {d : Nat} {M : hp} {Q : Option Value → hp → Prop} (F : MF M) : Wp none d 189 0 [(0, .ref 126)] [] M Q = Wp none d 189 8 [(0, .ref 126)] [] (sI M 126 14 (hI M 126 15)) Q := by
  rw [k189_0 (x0 := 126) F.1]
theorem m189_8 {d : Nat} {M : hp} {Q : Option Value → hp → Prop} (F : MF M) : Wp none d 189 8 [(0, .ref 126)] [] M Q = Wp none d 189 16 [(0, .ref 126)] [.int (hI M 126 13), .int (hI M 126 14)] M Q := by
  rw [k189_8 (x0 := 126) F.1]
theorem m189_19 {d : Nat} {M : hp} {Q : Option Value → hp → Prop} (F : MF M) (h5 : vin (hI M 126 14) 400 = true) : Wp none d 189 19 [(0, .ref 126)] [] M Q = Wp none d 189 30 [(0, .ref 126)] [.int 32, .int (hI M 135 (hI M 126 14).toNatClampNeg)] M Q := by
  rw [k189_19 (x0 := 126) F.1 (by rw [m_R12 F]; decide) (by rw [m_R12 F]; decide) (by rw [m_R12 F, m_K135 F]) (by rw [m_R12 F, m_K135 F]; exact h5)]
  simp only [m_R12 F]
theorem m189_33 {d : Nat} {M : hp} {Q : Option Value → hp → Prop} (F : MF M) : Wp none d 189 33 [(0, .ref 126)] [] M Q = Wp none d 189 8 [(0, .ref 126)] [] (sI M 126 14 ((hI M 126 14) + 1)) Q := by
  rw [k189_33 (x0 := 126) F.1]
theorem m189_46 {d : Nat} {M : hp} {Q : Option Value → hp → Prop} (F : MF M) : Wp none d 189 46 [(0, .ref 126)] [] M Q = Wp none d 189 54 [(0, .ref 126)] [] (sI M 126 15 (hI M 126 14)) Q := by
  rw [k189_46 (x0 := 126) F.1]
theorem m189_54 {d : Nat} {M : hp} {Q : Option Value → hp → Prop} (F : MF M) : Wp none d 189 54 [(0, .ref 126)] [] M Q = Wp none d 189 59 [(0, .ref 126)] [] (sL M 126 17 0) Q := by
  rw [k189_54 (x0 := 126) F.1]
theorem m189_59 {d : Nat} {M : hp} {Q : Option Value → hp → Prop} (F : MF M) : Wp none d 189 59 [(0, .ref 126)] [] M Q = Wp none d 189 68 [(0, .ref 126)] [.int (hI M 126 13), .int (hI M 126 14), .ref 126] M Q := by
  rw [k189_59 (x0 := 126) F.1]
theorem m189_75 {d : Nat} {s0 : Nat} {M : hp} {Q : Option Value → hp → Prop} (F : MF M) (h5 : vin (hI M 126 14) 400 = true) : Wp none d 189 75 [(0, .ref 126)] [.ref s0] M Q = Wp none d 189 84 [(0, .ref 126)] [.int (hI M 135 (hI M 126 14).toNatClampNeg), .ref s0] M Q := by
  rw [k189_75 (x0 := 126) F.1 (by rw [m_R12 F]; decide) (by rw [m_R12 F]; decide) (by rw [m_R12 F, m_K135 F]) (by rw [m_R12 F, m_K135 F]; exact h5)]
  simp only [m_R12 F]
theorem m189_94 {d : Nat} {s0 : Nat} {M : hp} {Q : Option Value → hp → Prop} (F : MF M) (h5 : vin (hI M 126 14) 400 = true) : Wp none d 189 94 [(0, .ref 126)] [.ref s0] M Q = Wp none d 189 103 [(0, .ref 126)] [.int (hI M 135 (hI M 126 14).toNatClampNeg), .ref s0] M Q := by
  rw [k189_94 (x0 := 126) F.1 (by rw [m_R12 F]; decide) (by rw [m_R12 F]; decide) (by rw [m_R12 F, m_K135 F]) (by rw [m_R12 F, m_K135 F]; exact h5)]
  simp only [m_R12 F]
theorem m189_114 {d : Nat} {s0 : Int32} {M : hp} {Q : Option Value → hp → Prop} (F : MF M) : Wp none d 189 114 [(0, .ref 126)] [.int s0, .ref 126] M Q = Wp none d 189 117 [(0, .ref 126)] [] (sI M 126 16 s0) Q := by
  rw [k189_114 (x0 := 126) (s1 := 126) F.1]
theorem m189_117 {d : Nat} {M : hp} {Q : Option Value → hp → Prop} (F : MF M) : Wp none d 189 117 [(0, .ref 126)] [] M Q = Wp none d 189 122 [(0, .ref 126)] [.int 3, .int (hI M 126 16)] M Q := by
  rw [k189_117 (x0 := 126) F.1]
theorem m189_125 {d : Nat} {M : hp} {Q : Option Value → hp → Prop} (F : MF M) (h5 : vin (hI M 126 14) 400 = true) : Wp none d 189 125 [(0, .ref 126)] [] M Q = Wp none d 189 139 [(0, .ref 126)] [] (sL M 126 17 ((hI M 135 (hI M 126 14).toNatClampNeg).toInt64)) Q := by
  rw [k189_125 (x0 := 126) F.1 (by rw [m_R12 F]; decide) (by rw [m_R12 F]; decide) (by rw [m_R12 F, m_K135 F]) (by rw [m_R12 F, m_K135 F]; exact h5)]
  simp only [m_R12 F]
theorem m189_139 {d : Nat} {M : hp} {Q : Option Value → hp → Prop} (F : MF M) : Wp none d 189 139 [(0, .ref 126)] [] M Q = Wp none d 189 149 [(0, .ref 126)] [] (sI M 126 15 ((hI M 126 15) + 1)) Q := by
  rw [k189_139 (x0 := 126) F.1]
theorem m189_149 {d : Nat} {M : hp} {Q : Option Value → hp → Prop} (F : MF M) : Wp none d 189 149 [(0, .ref 126)] [] M Q = Wp none d 189 154 [(0, .ref 126)] [.int 1, .int (hI M 126 16)] M Q := by
  rw [k189_149 (x0 := 126) F.1]
theorem m189_157 {d : Nat} {M : hp} {Q : Option Value → hp → Prop} (F : MF M) : Wp none d 189 157 [(0, .ref 126)] [] M Q = Wp none d 189 165 [(0, .ref 126)] [.int (hI M 126 13), .int (hI M 126 15)] M Q := by
  rw [k189_157 (x0 := 126) F.1]
theorem m189_168 {d : Nat} {M : hp} {Q : Option Value → hp → Prop} (F : MF M) (h5 : vin (hI M 126 15) 400 = true) : Wp none d 189 168 [(0, .ref 126)] [] M Q = Wp none d 189 177 [(0, .ref 126)] [.int (hI M 135 (hI M 126 15).toNatClampNeg)] M Q := by
  rw [k189_168 (x0 := 126) F.1 (by rw [m_R12 F]; decide) (by rw [m_R12 F]; decide) (by rw [m_R12 F, m_K135 F]) (by rw [m_R12 F, m_K135 F]; exact h5)]
  simp only [m_R12 F]
theorem m189_183 {d : Nat} {M : hp} {Q : Option Value → hp → Prop} (F : MF M) : Wp none d 189 183 [(0, .ref 126)] [] M Q = Wp none d 189 195 [(0, .ref 126)] [.int 10, .int ((hI M 126 15) - (hI M 126 14)), .ref 126] M Q := by
  rw [k189_183 (x0 := 126) F.1]
theorem m189_198 {d : Nat} {s0 : Nat} {M : hp} {Q : Option Value → hp → Prop} (F : MF M) (h5 : vin (hI M 126 15) 400 = true) : Wp none d 189 198 [(0, .ref 126)] [.ref s0] M Q = Wp none d 189 227 [(0, .ref 126)] [.long ((((hL M 126 17) * 32) + ((hI M 135 (hI M 126 15).toNatClampNeg).toInt64)) - 96), .ref s0] M Q := by
  rw [k189_198 (x0 := 126) F.1 (by rw [m_R12 F]; decide) (by rw [m_R12 F]; decide) (by rw [m_R12 F, m_K135 F]) (by rw [m_R12 F, m_K135 F]; exact h5)]
  simp only [m_R12 F]
theorem m189_227 {d : Nat} {s0 : Int64} {M : hp} {Q : Option Value → hp → Prop} (F : MF M) : Wp none d 189 227 [(0, .ref 126)] [.long s0, .ref 126] M Q = Wp none d 189 230 [(0, .ref 126)] [] (sL M 126 17 s0) Q := by
  rw [k189_227 (x0 := 126) (s1 := 126) F.1]
theorem m189_230 {d : Nat} {M : hp} {Q : Option Value → hp → Prop} (F : MF M) : Wp none d 189 230 [(0, .ref 126)] [] M Q = Wp none d 189 149 [(0, .ref 126)] [] (sI M 126 15 ((hI M 126 15) + 1)) Q := by
  rw [k189_230 (x0 := 126) F.1]
theorem m189_243 {d : Nat} {M : hp} {Q : Option Value → hp → Prop} (F : MF M) : Wp none d 189 243 [(0, .ref 126)] [] M Q = Wp none d 189 248 [(0, .ref 126)] [.int 2, .int (hI M 126 16)] M Q := by
  rw [k189_243 (x0 := 126) F.1]
theorem m189_251 {d : Nat} {M : hp} {Q : Option Value → hp → Prop} (F : MF M) : Wp none d 189 251 [(0, .ref 126)] [] M Q = Wp none d 189 259 [(0, .ref 126)] [.int (hI M 126 13), .int (hI M 126 15)] M Q := by
  rw [k189_251 (x0 := 126) F.1]
theorem m189_262 {d : Nat} {M : hp} {Q : Option Value → hp → Prop} (F : MF M) (h5 : vin (hI M 126 15) 400 = true) : Wp none d 189 262 [(0, .ref 126)] [] M Q = Wp none d 189 271 [(0, .ref 126)] [.int (hI M 135 (hI M 126 15).toNatClampNeg)] M Q := by
  rw [k189_262 (x0 := 126) F.1 (by rw [m_R12 F]; decide) (by rw [m_R12 F]; decide) (by rw [m_R12 F, m_K135 F]) (by rw [m_R12 F, m_K135 F]; exact h5)]
  simp only [m_R12 F]
theorem m189_277 {d : Nat} {M : hp} {Q : Option Value → hp → Prop} (F : MF M) : Wp none d 189 277 [(0, .ref 126)] [] M Q = Wp none d 189 286 [(0, .ref 126)] [.int (lg_cmp (hL M 126 17) 1000000), .ref 126] M Q := by
  rw [k189_277 (x0 := 126) F.1]
theorem m189_289 {d : Nat} {s0 : Nat} {M : hp} {Q : Option Value → hp → Prop} (F : MF M) : Wp none d 189 289 [(0, .ref 126)] [.ref s0] M Q = Wp none d 189 319 [(0, .ref 126)] [.long (hL M 126 17), .ref s0] M Q := by
  rw [k189_289 (x0 := 126) F.1]
theorem m189_296 {d : Nat} {s0 : Nat} {M : hp} {Q : Option Value → hp → Prop} (F : MF M) (h5 : vin (hI M 126 15) 400 = true) : Wp none d 189 296 [(0, .ref 126)] [.ref s0] M Q = Wp none d 189 319 [(0, .ref 126)] [.long ((((hL M 126 17) * 10) + ((hI M 135 (hI M 126 15).toNatClampNeg).toInt64)) - 48), .ref s0] M Q := by
  rw [k189_296 (x0 := 126) F.1 (by rw [m_R12 F]; decide) (by rw [m_R12 F]; decide) (by rw [m_R12 F, m_K135 F]) (by rw [m_R12 F, m_K135 F]; exact h5)]
  simp only [m_R12 F]
theorem m189_319 {d : Nat} {s0 : Int64} {M : hp} {Q : Option Value → hp → Prop} (F : MF M) : Wp none d 189 319 [(0, .ref 126)] [.long s0, .ref 126] M Q = Wp none d 189 322 [(0, .ref 126)] [] (sL M 126 17 s0) Q := by
  rw [k189_319 (x0 := 126) (s1 := 126) F.1]
theorem m189_322 {d : Nat} {M : hp} {Q : Option Value → hp → Prop} (F : MF M) : Wp none d 189 322 [(0, .ref 126)] [] M Q = Wp none d 189 243 [(0, .ref 126)] [] (sI M 126 15 ((hI M 126 15) + 1)) Q := by
  rw [k189_322 (x0 := 126) F.1]
theorem m190_0 {d : Nat} {x1 : Int64} {M : hp} {Q : Option Value → hp → Prop} (F : MF M) : Wp none d 190 0 [(0, .ref 126), (1, .long x1)] [] M Q = Wp none d 190 5 [(0, .ref 126), (1, .long x1)] [.int 1, .int (hI M 126 16)] M Q := by
  rw [k190_0 (x0 := 126) F.1]
theorem m190_8 {d : Nat} {x1 : Int64} {M : hp} {Q : Option Value → hp → Prop} (F : MF M) : Wp none d 190 8 [(0, .ref 126), (1, .long x1)] [] M Q = Wp none d 190 14 [(0, .ref 126), (1, .long x1)] [.int (lg_cmp (hL M 126 17) x1)] M Q := by
  rw [k190_8 (x0 := 126) F.1]
theorem m190_22 {d : Nat} {x1 : Int64} {s0 : Int32} {M : hp} {Q : Option Value → hp → Prop} (F : MF M) (h1 : s0 = 0 ∨ s0 = 1) : Wp none d 190 22 [(0, .ref 126), (1, .long x1)] [.int s0] M Q = Q (some (.int s0)) M := by
  rw [k190_22 (x0 := 126) h1]
theorem m191_0 {d : Nat} {x1 : Int32} {M : hp} {Q : Option Value → hp → Prop} (F : MF M) : Wp none d 191 0 [(0, .ref 126), (1, .int x1)] [] M Q = Wp none d 191 5 [(0, .ref 126), (1, .int x1)] [.int 3, .int (hI M 126 16)] M Q := by
  rw [k191_0 (x0 := 126) F.1]
theorem m191_8 {d : Nat} {x1 : Int32} {M : hp} {Q : Option Value → hp → Prop} (F : MF M) : Wp none d 191 8 [(0, .ref 126), (1, .int x1)] [] M Q = Wp none d 191 15 [(0, .ref 126), (1, .int x1)] [.int (lg_cmp (hL M 126 17) x1.toInt64)] M Q := by
  rw [k191_8 (x0 := 126) F.1]
theorem m191_23 {d : Nat} {x1 : Int32} {s0 : Int32} {M : hp} {Q : Option Value → hp → Prop} (F : MF M) (h1 : s0 = 0 ∨ s0 = 1) : Wp none d 191 23 [(0, .ref 126), (1, .int x1)] [.int s0] M Q = Q (some (.int s0)) M := by
  rw [k191_23 (x0 := 126) h1]
theorem m192_0 {d : Nat} {x1 : Int32} {M : hp} {Q : Option Value → hp → Prop} (F : MF M) : Wp none d 192 0 [(0, .ref 126), (1, .int x1)] [] M Q = Wp none d 192 4 [(0, .ref 126), (1, .int x1)] [.int (hI M 126 19)] M Q := by
  rw [k192_0 (x0 := 126) F.1]
theorem m192_11 {d : Nat} {x1 : Int32} {M : hp} {Q : Option Value → hp → Prop} (F : MF M) : Wp none d 192 11 [(0, .ref 126), (1, .int x1)] [] M Q = Wp none d 192 16 [(0, .ref 126), (1, .int x1)] [] (sI M 126 19 1) Q := by
  rw [k192_11 (x0 := 126) F.1]
theorem m192_16 {d : Nat} {x1 : Int32} {M : hp} {Q : Option Value → hp → Prop} (F : MF M) : Wp none d 192 16 [(0, .ref 126), (1, .int x1)] [] M Q = Wp none d 192 24 [(0, .ref 126), (1, .int x1)] [] (sI M 126 18 (hI M 126 14)) Q := by
  rw [k192_16 (x0 := 126) F.1]
theorem m192_24 {d : Nat} {x1 : Int32} {M : hp} {Q : Option Value → hp → Prop} (F : MF M) : Wp none d 192 24 [(0, .ref 126), (1, .int x1)] [] M Q = Wp none d 192 28 [(0, .ref 126), (1, .int x1)] [.int (hI M 126 19)] M Q := by
  rw [k192_24 (x0 := 126) F.1]
theorem m192_32 {d : Nat} {x1 : Int32} {M : hp} {Q : Option Value → hp → Prop} (F : MF M) : Wp none d 192 32 [(0, .ref 126), (1, .int x1)] [.ref 126] M Q = Wp none d 189 0 [(0, .ref 126)] [] M (fun r M1 => Wp none d 192 35 [(0, .ref 126), (1, .int x1)] (r.toList ++ []) M1 Q) := by
  rw [k192_32 (x0 := 126) (s0 := 126) F.1]
theorem m193_0 {d : Nat} {x1 : Int64} {x3 : Int64} {M : hp} {Q : Option Value → hp → Prop} (F : MF M) : Wp none d 193 0 [(0, .ref 126), (1, .long x1), (3, .long x3)] [] M Q = Wp none d 193 13 [(0, .ref 126), (1, .long x1), (3, .long x3), (5, .int ((hL M 126 17).toInt32))] [.int 2, .int (hI M 126 16), .ref 126] M Q := by
  rw [k193_0 (x0 := 126) F.1]
theorem m193_16 {d : Nat} {x1 : Int64} {x3 : Int64} {x5 : Int32} {s0 : Nat} {M : hp} {Q : Option Value → hp → Prop} (F : MF M) : Wp none d 193 16 [(0, .ref 126), (1, .long x1), (3, .long x3), (5, .int x5)] [.ref s0] M Q = Wp none d 193 22 [(0, .ref 126), (1, .long x1), (3, .long x3), (5, .int x5)] [.long x3, .long x1, .long (hL M 126 17), .ref s0] M Q := by
  rw [k193_16 (x0 := 126) F.1]
theorem m193_33 {d : Nat} {x1 : Int64} {x3 : Int64} {x5 : Int32} {s0 : Int32} {M : hp} {Q : Option Value → hp → Prop} (F : MF M) : Wp none d 193 33 [(0, .ref 126), (1, .long x1), (3, .long x3), (5, .int x5)] [.int s0, .ref 126] M Q = Wp none d 192 0 [(0, .ref 126), (1, .int s0)] [] M (fun r M1 => Wp none d 193 36 [(0, .ref 126), (1, .long x1), (3, .long x3), (5, .int x5)] (r.toList ++ []) M1 Q) := by
  rw [k193_33 (x0 := 126) (s1 := 126) F.1]
theorem m194_0 {d : Nat} {M : hp} {Q : Option Value → hp → Prop} (F : MF M) : Wp none d 194 0 [(0, .ref 126)] [] M Q = Wp none d 194 5 [(0, .ref 126)] [] (sI M 126 0 0) Q := by
  rw [k194_0 (x0 := 126) F.1]
theorem m194_5 {d : Nat} {M : hp} {Q : Option Value → hp → Prop} (F : MF M) : Wp none d 194 5 [(0, .ref 126)] [] M Q = Q (some (.int (hI M 126 18))) M := by
  rw [k194_5 (x0 := 126) F.1]
theorem m195_0 {d : Nat} {x1 : Int32} {x2 : Int32} {M : hp} {Q : Option Value → hp → Prop} (F : MF M) (h4 : vin (hI M 126 23) 400 = true) : Wp none d 195 0 [(0, .ref 126), (1, .int x1), (2, .int x2)] [] M Q = Wp none d 195 10 [(0, .ref 126), (1, .int x1), (2, .int x2)] [] (sI M 137 (hI M 126 23).toNatClampNeg x1) Q := by
  rw [k195_0 (x0 := 126) F.1 (by rw [m_R24 F]; decide) (by rw [m_R24 F, m_K137 F]) (by rw [m_R24 F, m_K137 F]; exact h4)]
  simp only [m_R24 F]
theorem m195_10 {d : Nat} {x1 : Int32} {x2 : Int32} {M : hp} {Q : Option Value → hp → Prop} (F : MF M) (h4 : vin (hI M 126 23) 400 = true) : Wp none d 195 10 [(0, .ref 126), (1, .int x1), (2, .int x2)] [] M Q = Wp none d 195 20 [(0, .ref 126), (1, .int x1), (2, .int x2)] [] (sI M 138 (hI M 126 23).toNatClampNeg x2) Q := by
  rw [k195_10 (x0 := 126) F.1 (by rw [m_R25 F]; decide) (by rw [m_R25 F, m_K138 F]) (by rw [m_R25 F, m_K138 F]; exact h4)]
  simp only [m_R25 F]
theorem m195_20 {d : Nat} {x1 : Int32} {x2 : Int32} {M : hp} {Q : Option Value → hp → Prop} (F : MF M) : Wp none d 195 20 [(0, .ref 126), (1, .int x1), (2, .int x2)] [] M Q = Q none (sI M 126 23 ((hI M 126 23) + 1)) := by
  rw [k195_20 (x0 := 126) F.1]
theorem m196_0 {d : Nat} {x1 : Int32} {x2 : Int32} {M : hp} {Q : Option Value → hp → Prop} (F : MF M) (h4 : vin (hI M 126 29) 400 = true) : Wp none d 196 0 [(0, .ref 126), (1, .int x1), (2, .int x2)] [] M Q = Wp none d 196 10 [(0, .ref 126), (1, .int x1), (2, .int x2)] [] (sI M 139 (hI M 126 29).toNatClampNeg x1) Q := by
  rw [k196_0 (x0 := 126) F.1 (by rw [m_R27 F]; decide) (by rw [m_R27 F, m_K139 F]) (by rw [m_R27 F, m_K139 F]; exact h4)]
  simp only [m_R27 F]
theorem m196_10 {d : Nat} {x1 : Int32} {x2 : Int32} {M : hp} {Q : Option Value → hp → Prop} (F : MF M) (h4 : vin (hI M 126 29) 400 = true) : Wp none d 196 10 [(0, .ref 126), (1, .int x1), (2, .int x2)] [] M Q = Wp none d 196 20 [(0, .ref 126), (1, .int x1), (2, .int x2)] [] (sI M 140 (hI M 126 29).toNatClampNeg x2) Q := by
  rw [k196_10 (x0 := 126) F.1 (by rw [m_R28 F]; decide) (by rw [m_R28 F, m_K140 F]) (by rw [m_R28 F, m_K140 F]; exact h4)]
  simp only [m_R28 F]
theorem m196_20 {d : Nat} {x1 : Int32} {x2 : Int32} {M : hp} {Q : Option Value → hp → Prop} (F : MF M) : Wp none d 196 20 [(0, .ref 126), (1, .int x1), (2, .int x2)] [] M Q = Q none (sI M 126 29 ((hI M 126 29) + 1)) := by
  rw [k196_20 (x0 := 126) F.1]
theorem m198_0 {d : Nat} {x1 : Int32} {M : hp} {Q : Option Value → hp → Prop} (F : MF M) : Wp none d 198 0 [(0, .ref 126), (1, .int x1)] [] M Q = Wp none d 198 4 [(0, .ref 126), (1, .int x1)] [.int (hI M 126 29)] M Q := by
  rw [k198_0 (x0 := 126) F.1]
theorem m198_7 {d : Nat} {x1 : Int32} {M : hp} {Q : Option Value → hp → Prop} (F : MF M) (h5 : vin ((hI M 126 29) - 1) 400 = true) : Wp none d 198 7 [(0, .ref 126), (1, .int x1)] [] M Q = Wp none d 198 18 [(0, .ref 126), (1, .int x1)] [.int (hI M 139 ((hI M 126 29) - 1).toNatClampNeg)] M Q := by
  rw [k198_7 (x0 := 126) F.1 (by rw [m_R27 F]; decide) (by rw [m_R27 F]; decide) (by rw [m_R27 F, m_K139 F]) (by rw [m_R27 F, m_K139 F]; exact h5)]
  simp only [m_R27 F]
theorem m198_25 {d : Nat} {x1 : Int32} {M : hp} {Q : Option Value → hp → Prop} (F : MF M) : Wp none d 198 25 [(0, .ref 126), (1, .int x1)] [] M Q = Wp none d 198 35 [(0, .ref 126), (1, .int x1)] [] (sI M 126 29 ((hI M 126 29) - 1)) Q := by
  rw [k198_25 (x0 := 126) F.1]
theorem m198_35 {d : Nat} {x1 : Int32} {M : hp} {Q : Option Value → hp → Prop} (F : MF M) (h5 : vin (hI M 126 29) 400 = true) : Wp none d 198 35 [(0, .ref 126), (1, .int x1)] [] M Q = Wp none d 198 46 [(0, .ref 126), (1, .int x1)] [.int 29, .int (hI M 139 (hI M 126 29).toNatClampNeg)] M Q := by
  rw [k198_35 (x0 := 126) F.1 (by rw [m_R27 F]; decide) (by rw [m_R27 F]; decide) (by rw [m_R27 F, m_K139 F]) (by rw [m_R27 F, m_K139 F]; exact h5)]
  simp only [m_R27 F]
theorem m198_49 {d : Nat} {x1 : Int32} {M : hp} {Q : Option Value → hp → Prop} (F : MF M) (h5 : vin (hI M 126 29) 400 = true) : Wp none d 198 49 [(0, .ref 126), (1, .int x1)] [] M Q = Wp none d 198 60 [(0, .ref 126), (1, .int x1)] [.int 30, .int (hI M 139 (hI M 126 29).toNatClampNeg)] M Q := by
  rw [k198_49 (x0 := 126) F.1 (by rw [m_R27 F]; decide) (by rw [m_R27 F]; decide) (by rw [m_R27 F, m_K139 F]) (by rw [m_R27 F, m_K139 F]; exact h5)]
  simp only [m_R27 F]
theorem m198_63 {d : Nat} {x1 : Int32} {M : hp} {Q : Option Value → hp → Prop} (F : MF M) (h6 : vin (hI M 126 29) 400 = true) (h8 : vin (hI M 140 (hI M 126 29).toNatClampNeg) 400 = true) : Wp none d 198 63 [(0, .ref 126), (1, .int x1)] [] M Q = Wp none d 198 0 [(0, .ref 126), (1, .int x1)] [] (sI M 138 (hI M 140 (hI M 126 29).toNatClampNeg).toNatClampNeg (hI M 126 23)) Q := by
  rw [k198_63 (x0 := 126) F.1 (by rw [m_R25 F]; decide) (by rw [m_R28 F]; decide) (by rw [m_R28 F]; decide) (by rw [m_R28 F, m_K140 F]) (by rw [m_R28 F, m_K140 F]; exact h6) (by rw [m_R25 F, m_K138 F]) (by rw [m_R28 F, m_R25 F, m_K138 F]; exact h8)]
  simp only [m_R25 F, m_R28 F]
theorem m198_84 {d : Nat} {x1 : Int32} {M : hp} {Q : Option Value → hp → Prop} (F : MF M) (h5 : vin (hI M 126 29) 400 = true) : Wp none d 198 84 [(0, .ref 126), (1, .int x1)] [] M Q = Wp none d 198 95 [(0, .ref 126), (1, .int x1)] [.int 0, .int (hI M 139 (hI M 126 29).toNatClampNeg), .ref 126] M Q := by
  rw [k198_84 (x0 := 126) F.1 (by rw [m_R27 F]; decide) (by rw [m_R27 F]; decide) (by rw [m_R27 F, m_K139 F]) (by rw [m_R27 F, m_K139 F]; exact h5)]
  simp only [m_R27 F]
theorem m198_95 {d : Nat} {x1 : Int32} {s0 : Int32} {s1 : Int32} {M : hp} {Q : Option Value → hp → Prop} (F : MF M) : Wp none d 198 95 [(0, .ref 126), (1, .int x1)] [.int s0, .int s1, .ref 126] M Q = Wp none d 195 0 [(0, .ref 126), (1, .int s1), (2, .int s0)] [] M (fun r M1 => Wp none d 198 98 [(0, .ref 126), (1, .int x1)] (r.toList ++ []) M1 Q) := by
  rw [k198_95 (x0 := 126) (s2 := 126) F.1]
theorem m199_4 {d : Nat} {x1 : Int32} {x2 : Int32} {M : hp} {Q : Option Value → hp → Prop} (F : MF M) : Wp none d 199 4 [(0, .ref 126), (1, .int x1), (2, .int x2)] [] M Q = Wp none d 199 9 [(0, .ref 126), (1, .int x1), (2, .int x2)] [.int (hI M 126 29), .int x2] M Q := by
  rw [k199_4 (x0 := 126) F.1]
theorem m199_12 {d : Nat} {x1 : Int32} {x2 : Int32} {M : hp} {Q : Option Value → hp → Prop} (F : MF M) (h5 : vin x2 400 = true) : Wp none d 199 12 [(0, .ref 126), (1, .int x1), (2, .int x2)] [] M Q = Wp none d 199 20 [(0, .ref 126), (1, .int x1), (2, .int x2)] [.int 31, .int (hI M 139 x2.toNatClampNeg)] M Q := by
  rw [k199_12 (x0 := 126) F.1 (by rw [m_R27 F]; decide) (by rw [m_R27 F]; decide) (by rw [m_R27 F, m_K139 F]) (by rw [m_R27 F, m_K139 F]; exact h5)]
  simp only [m_R27 F]
theorem m199_23 {d : Nat} {x1 : Int32} {x2 : Int32} {M : hp} {Q : Option Value → hp → Prop} (F : MF M) (h5 : vin x2 400 = true) : Wp none d 199 23 [(0, .ref 126), (1, .int x1), (2, .int x2)] [] M Q = Wp none d 199 33 [(0, .ref 126), (1, .int x1), (2, .int x2)] [.int (hI M 139 x2.toNatClampNeg)] M Q := by
  rw [k199_23 (x0 := 126) F.1 (by rw [m_R27 F]; decide) (by rw [m_R27 F]; decide) (by rw [m_R27 F, m_K139 F]) (by rw [m_R27 F, m_K139 F]; exact h5)]
  simp only [m_R27 F]
theorem m200_0 {d : Nat} {M : hp} {Q : Option Value → hp → Prop} (F : MF M) : Wp none d 200 0 [(0, .ref 126)] [] M Q = Wp none d 200 7 [(0, .ref 126), (1, .int ((hI M 126 29) - 1))] [] M Q := by
  rw [k200_0 (x0 := 126) F.1]
theorem m200_11 {d : Nat} {x1 : Int32} {M : hp} {Q : Option Value → hp → Prop} (F : MF M) (h5 : vin x1 400 = true) : Wp none d 200 11 [(0, .ref 126), (1, .int x1)] [] M Q = Wp none d 200 24 [(0, .ref 126), (1, .int x1)] [.long 24, .long 20, .long ((hI M 139 x1.toNatClampNeg).toInt64)] M Q := by
  rw [k200_11 (x0 := 126) F.1 (by rw [m_R27 F]; decide) (by rw [m_R27 F]; decide) (by rw [m_R27 F, m_K139 F]) (by rw [m_R27 F, m_K139 F]; exact h5)]
  simp only [m_R27 F]
theorem m200_40 {d : Nat} {x1 : Int32} {M : hp} {Q : Option Value → hp → Prop} (F : MF M) (h5 : vin x1 400 = true) : Wp none d 200 40 [(0, .ref 126), (1, .int x1)] [] M Q = Wp none d 200 53 [(0, .ref 126), (1, .int x1)] [.long 27, .long 25, .long ((hI M 139 x1.toNatClampNeg).toInt64)] M Q := by
  rw [k200_40 (x0 := 126) F.1 (by rw [m_R27 F]; decide) (by rw [m_R27 F]; decide) (by rw [m_R27 F, m_K139 F]) (by rw [m_R27 F, m_K139 F]; exact h5)]
  simp only [m_R27 F]
theorem m200_64 {d : Nat} {x1 : Int32} {s0 : Int32} {M : hp} {Q : Option Value → hp → Prop} (F : MF M) (h1 : s0 = 0 ∨ s0 = 1) : Wp none d 200 64 [(0, .ref 126), (1, .int x1)] [.int s0] M Q = Q (some (.int s0)) M := by
  rw [k200_64 (x0 := 126) h1]
theorem m201_10 {d : Nat} {x1 : Int32} {x2 : Int32} {M : hp} {Q : Option Value → hp → Prop} (F : MF M) (h4 : vin x2 9 = true) : Wp none d 201 10 [(0, .ref 126), (1, .int x1), (2, .int x2)] [] M Q = Wp none d 201 17 [(0, .ref 126), (1, .int x1), (2, .int x2)] [.long (hL M 141 x2.toNatClampNeg), .ref 126] M Q := by
  rw [k201_10 (x0 := 126) F.1 (by rw [m_R31 F]; decide) (by rw [m_R31 F, m_K141 F]) (by rw [m_R31 F, m_K141 F]; exact h4)]
  simp only [m_R31 F]
theorem m201_17 {d : Nat} {x1 : Int32} {x2 : Int32} {s0 : Int64} {M : hp} {Q : Option Value → hp → Prop} (F : MF M) : Wp none d 201 17 [(0, .ref 126), (1, .int x1), (2, .int x2)] [.long s0, .ref 126] M Q = Wp none d 190 0 [(0, .ref 126), (1, .long s0)] [] M (fun r M1 => Wp none d 201 20 [(0, .ref 126), (1, .int x1), (2, .int x2)] (r.toList ++ []) M1 Q) := by
  rw [k201_17 (x0 := 126) (s1 := 126) F.1]
theorem m202_10 {d : Nat} {x1 : Int32} {x2 : Int32} {M : hp} {Q : Option Value → hp → Prop} (F : MF M) (h4 : vin x2 6 = true) : Wp none d 202 10 [(0, .ref 126), (1, .int x1), (2, .int x2)] [] M Q = Wp none d 202 17 [(0, .ref 126), (1, .int x1), (2, .int x2)] [.long (hL M 142 x2.toNatClampNeg), .ref 126] M Q := by
  rw [k202_10 (x0 := 126) F.1 (by rw [m_R32 F]; decide) (by rw [m_R32 F, m_K142 F]) (by rw [m_R32 F, m_K142 F]; exact h4)]
  simp only [m_R32 F]
theorem m202_17 {d : Nat} {x1 : Int32} {x2 : Int32} {s0 : Int64} {M : hp} {Q : Option Value → hp → Prop} (F : MF M) : Wp none d 202 17 [(0, .ref 126), (1, .int x1), (2, .int x2)] [.long s0, .ref 126] M Q = Wp none d 190 0 [(0, .ref 126), (1, .long s0)] [] M (fun r M1 => Wp none d 202 20 [(0, .ref 126), (1, .int x1), (2, .int x2)] (r.toList ++ []) M1 Q) := by
  rw [k202_17 (x0 := 126) (s1 := 126) F.1]
theorem m203_0 {d : Nat} {x1 : Int32} {M : hp} {Q : Option Value → hp → Prop} (F : MF M) : Wp none d 203 0 [(0, .ref 126), (1, .int x1)] [] M Q = Wp none d 203 7 [(0, .ref 126), (1, .int x1)] [.int 8, .int (hI M 126 30), .ref 126] M Q := by
  rw [k203_0 (x0 := 126) F.1]
theorem m203_15 {d : Nat} {x1 : Int32} {s0 : Int32} {M : hp} {Q : Option Value → hp → Prop} (F : MF M) : Wp none d 203 15 [(0, .ref 126), (1, .int x1)] [.int s0, .ref 126] M Q = Wp none d 192 0 [(0, .ref 126), (1, .int s0)] [] M (fun r M1 => Wp none d 203 18 [(0, .ref 126), (1, .int x1)] (r.toList ++ []) M1 Q) := by
  rw [k203_15 (x0 := 126) (s1 := 126) F.1]
theorem m203_18 {d : Nat} {x1 : Int32} {M : hp} {Q : Option Value → hp → Prop} (F : MF M) : Wp none d 203 18 [(0, .ref 126), (1, .int x1)] [] M Q = Wp none d 203 22 [(0, .ref 126), (1, .int x1)] [.int (hI M 126 19)] M Q := by
  rw [k203_18 (x0 := 126) F.1]
theorem m203_25 {d : Nat} {x1 : Int32} {M : hp} {Q : Option Value → hp → Prop} (F : MF M) : Wp none d 203 25 [(0, .ref 126), (1, .int x1)] [] M Q = Wp none d 203 35 [(0, .ref 126), (1, .int x1)] [] (sI M 126 30 ((hI M 126 30) + 1)) Q := by
  rw [k203_25 (x0 := 126) F.1]
theorem m203_38 {d : Nat} {x1 : Int32} {s0 : Int32} {s1 : Int32} {M : hp} {Q : Option Value → hp → Prop} (F : MF M) : Wp none d 203 38 [(0, .ref 126), (1, .int x1)] [.int s0, .int s1, .ref 126] M Q = Wp none d 196 0 [(0, .ref 126), (1, .int s1), (2, .int s0)] [] M (fun r M1 => Wp none d 203 41 [(0, .ref 126), (1, .int x1)] (r.toList ++ []) M1 Q) := by
  rw [k203_38 (x0 := 126) (s2 := 126) F.1]
theorem m204_5 {d : Nat} {x1 : Int32} {x2 : Int32} {x3 : Int32} {s0 : Nat} {M : hp} {Q : Option Value → hp → Prop} (F : MF M) : Wp none d 204 5 [(0, .ref 126), (1, .int x1), (2, .int x2), (3, .int x3)] [.ref s0] M Q = Wp none d 204 11 [(0, .ref 126), (1, .int x1), (2, .int x2), (3, .int x3)] [.int 50, .int (hI M 126 26), .ref s0] M Q := by
  rw [k204_5 (x0 := 126) F.1]
theorem m204_19 {d : Nat} {x1 : Int32} {x2 : Int32} {x3 : Int32} {s0 : Int32} {M : hp} {Q : Option Value → hp → Prop} (F : MF M) : Wp none d 204 19 [(0, .ref 126), (1, .int x1), (2, .int x2), (3, .int x3)] [.int s0, .ref 126] M Q = Wp none d 192 0 [(0, .ref 126), (1, .int s0)] [] M (fun r M1 => Wp none d 204 22 [(0, .ref 126), (1, .int x1), (2, .int x2), (3, .int x3)] (r.toList ++ []) M1 Q) := by
  rw [k204_19 (x0 := 126) (s1 := 126) F.1]
theorem m204_22 {d : Nat} {x1 : Int32} {x2 : Int32} {x3 : Int32} {M : hp} {Q : Option Value → hp → Prop} (F : MF M) : Wp none d 204 22 [(0, .ref 126), (1, .int x1), (2, .int x2), (3, .int x3)] [] M Q = Wp none d 204 26 [(0, .ref 126), (1, .int x1), (2, .int x2), (3, .int x3)] [.int (hI M 126 19)] M Q := by
  rw [k204_22 (x0 := 126) F.1]
theorem m204_32 {d : Nat} {x1 : Int32} {x2 : Int32} {x3 : Int32} {s0 : Int32} {s1 : Int32} {M : hp} {Q : Option Value → hp → Prop} (F : MF M) : Wp none d 204 32 [(0, .ref 126), (1, .int x1), (2, .int x2), (3, .int x3)] [.int s0, .int s1, .ref 126] M Q = Wp none d 195 0 [(0, .ref 126), (1, .int s1), (2, .int s0)] [] M (fun r M1 => Wp none d 204 35 [(0, .ref 126), (1, .int x1), (2, .int x2), (3, .int x3)] (r.toList ++ []) M1 Q) := by
  rw [k204_32 (x0 := 126) (s2 := 126) F.1]
theorem m204_35 {d : Nat} {x1 : Int32} {x2 : Int32} {x3 : Int32} {M : hp} {Q : Option Value → hp → Prop} (F : MF M) : Wp none d 204 35 [(0, .ref 126), (1, .int x1), (2, .int x2), (3, .int x3)] [] M Q = Wp none d 204 45 [(0, .ref 126), (1, .int x1), (2, .int x2), (3, .int x3)] [] (sI M 126 26 ((hI M 126 26) + 1)) Q := by
  rw [k204_35 (x0 := 126) F.1]
theorem m205_3 {d : Nat} {s0 : Int32} {M : hp} {Q : Option Value → hp → Prop} (F : MF M) : Wp none d 205 3 [(0, .ref 126)] [.int s0, .ref 126] M Q = Wp none d 191 0 [(0, .ref 126), (1, .int s0)] [] M (fun r M1 => Wp none d 205 6 [(0, .ref 126)] (r.toList ++ []) M1 Q) := by
  rw [k205_3 (x0 := 126) (s1 := 126) F.1]
theorem m205_12 {d : Nat} {s0 : Int32} {M : hp} {Q : Option Value → hp → Prop} (F : MF M) : Wp none d 205 12 [(0, .ref 126)] [.int s0, .ref 126] M Q = Wp none d 203 0 [(0, .ref 126), (1, .int s0)] [] M (fun r M1 => Wp none d 205 15 [(0, .ref 126)] (r.toList ++ []) M1 Q) := by
  rw [k205_12 (x0 := 126) (s1 := 126) F.1]
theorem m205_17 {d : Nat} {M : hp} {Q : Option Value → hp → Prop} (F : MF M) : Wp none d 205 17 [(0, .ref 126)] [] M Q = Wp none d 205 21 [(0, .ref 126)] [.int (hI M 126 20)] M Q := by
  rw [k205_17 (x0 := 126) F.1]
theorem m205_25 {d : Nat} {M : hp} {Q : Option Value → hp → Prop} (F : MF M) : Wp none d 205 25 [(0, .ref 126)] [.ref 126] M Q = Wp none d 202 0 [(0, .ref 126)] [] M (fun r M1 => Wp none d 205 28 [(0, .ref 126)] (r.toList ++ []) M1 Q) := by
  rw [k205_25 (x0 := 126) (s0 := 126) F.1]
theorem m205_32 {d : Nat} {M : hp} {Q : Option Value → hp → Prop} (F : MF M) : Wp none d 205 32 [(0, .ref 126)] [.ref 126] M Q = Wp none d 201 0 [(0, .ref 126)] [] M (fun r M1 => Wp none d 205 35 [(0, .ref 126)] (r.toList ++ []) M1 Q) := by
  rw [k205_32 (x0 := 126) (s0 := 126) F.1]
theorem m205_35 {d : Nat} {s0 : Int32} {M : hp} {Q : Option Value → hp → Prop} (F : MF M) : Wp none d 205 35 [(0, .ref 126)] [.int s0] M Q = Wp none d 205 41 [(0, .ref 126), (1, .int s0)] [.int 2, .int (hI M 126 16)] M Q := by
  rw [k205_35 (x0 := 126) F.1]
theorem m205_44 {d : Nat} {x1 : Int32} {M : hp} {Q : Option Value → hp → Prop} (F : MF M) : Wp none d 205 44 [(0, .ref 126), (1, .int x1)] [] M Q = Wp none d 205 52 [(0, .ref 126), (1, .int x1)] [.int (lg_cmp (hL M 126 17) 1000)] M Q := by
  rw [k205_44 (x0 := 126) F.1]
theorem m205_90 {d : Nat} {x1 : Int32} {x2 : Int32} {s0 : Int32} {s1 : Int32} {s2 : Nat} {M : hp} {Q : Option Value → hp → Prop} (F : MF M) : Wp none d 205 90 [(0, .ref 126), (1, .int x1), (2, .int x2)] [.int s0, .int s1, .ref s2] M Q = Wp none d 205 99 [(0, .ref 126), (1, .int x1), (2, .int x2)] [.int ((hL M 126 17).toInt32), .int s0, .int s1, .ref s2] M Q := by
  rw [k205_90 (x0 := 126) F.1]
theorem m205_99 {d : Nat} {x1 : Int32} {x2 : Int32} {s0 : Int32} {s1 : Int32} {s2 : Int32} {M : hp} {Q : Option Value → hp → Prop} (F : MF M) : Wp none d 205 99 [(0, .ref 126), (1, .int x1), (2, .int x2)] [.int s0, .int s1, .int s2, .ref 126] M Q = Wp none d 204 0 [(0, .ref 126), (1, .int s2), (2, .int s1), (3, .int s0)] [] M (fun r M1 => Wp none d 205 102 [(0, .ref 126), (1, .int x1), (2, .int x2)] (r.toList ++ []) M1 Q) := by
  rw [k205_99 (x0 := 126) (s3 := 126) F.1]
theorem m205_102 {d : Nat} {x1 : Int32} {x2 : Int32} {M : hp} {Q : Option Value → hp → Prop} (F : MF M) : Wp none d 205 102 [(0, .ref 126), (1, .int x1), (2, .int x2)] [] M Q = Wp none d 205 106 [(0, .ref 126), (1, .int x1), (2, .int x2)] [.int (hI M 126 20)] M Q := by
  rw [k205_102 (x0 := 126) F.1]
theorem m205_114 {d : Nat} {x1 : Int32} {x2 : Int32} {M : hp} {Q : Option Value → hp → Prop} (F : MF M) : Wp none d 205 114 [(0, .ref 126), (1, .int x1), (2, .int x2)] [] M Q = Wp none d 205 118 [(0, .ref 126), (1, .int x1), (2, .int x2)] [.int (hI M 126 19)] M Q := by
  rw [k205_114 (x0 := 126) F.1]
theorem m205_121 {d : Nat} {x1 : Int32} {x2 : Int32} {M : hp} {Q : Option Value → hp → Prop} (F : MF M) : Wp none d 205 121 [(0, .ref 126), (1, .int x1), (2, .int x2)] [] M Q = Wp none d 205 138 [(0, .ref 126), (1, .int x1), (2, .int x2), (3, .int ((hI M 126 23) - 1))] [.long 6, .long 0, .ref 126, .int ((hI M 126 23) - 1), .ref 138] M Q := by
  rw [k205_121 (x0 := 126) F.1 (by rw [m_R25 F]; decide)]
  simp only [m_R25 F]
theorem m205_138 {d : Nat} {x1 : Int32} {x2 : Int32} {x3 : Int32} {s0 : Int64} {s1 : Int64} {s3 : Int32} {s4 : Nat} {M : hp} {Q : Option Value → hp → Prop} (F : MF M) : Wp none d 205 138 [(0, .ref 126), (1, .int x1), (2, .int x2), (3, .int x3)] [.long s0, .long s1, .ref 126, .int s3, .ref s4] M Q = Wp none d 193 0 [(0, .ref 126), (1, .long s1), (3, .long s0)] [] M (fun r M1 => Wp none d 205 141 [(0, .ref 126), (1, .int x1), (2, .int x2), (3, .int x3)] (r.toList ++ [.int s3, .ref s4]) M1 Q) := by
  rw [k205_138 (x0 := 126) (s2 := 126) F.1]
theorem m205_141 {d : Nat} {x1 : Int32} {x2 : Int32} {x3 : Int32} {s0 : Int32} {s1 : Int32} {s2 : Nat} {M : hp} {Q : Option Value → hp → Prop} (F : MF M) (h1 : (hK M s2).1 = 20) (h2 : vin s1 (hK M s2).2 = true) : Wp none d 205 141 [(0, .ref 126), (1, .int x1), (2, .int x2), (3, .int x3)] [.int s0, .int s1, .ref s2] M Q = Wp none d 205 142 [(0, .ref 126), (1, .int x1), (2, .int x2)] [] (sI M s2 s1.toNatClampNeg s0) Q := by
  rw [k205_141 (x0 := 126) h1 h2]
theorem m206_4 {d : Nat} {s0 : Int64} {M : hp} {Q : Option Value → hp → Prop} (F : MF M) : Wp none d 206 4 [(0, .ref 126)] [.long s0, .ref 126] M Q = Wp none d 190 0 [(0, .ref 126), (1, .long s0)] [] M (fun r M1 => Wp none d 206 7 [(0, .ref 126)] (r.toList ++ []) M1 Q) := by
  rw [k206_4 (x0 := 126) (s1 := 126) F.1]
theorem m206_14 {d : Nat} {s0 : Int32} {s1 : Int32} {M : hp} {Q : Option Value → hp → Prop} (F : MF M) : Wp none d 206 14 [(0, .ref 126)] [.int s0, .int s1, .ref 126] M Q = Wp none d 196 0 [(0, .ref 126), (1, .int s1), (2, .int s0)] [] M (fun r M1 => Wp none d 206 17 [(0, .ref 126)] (r.toList ++ []) M1 Q) := by
  rw [k206_14 (x0 := 126) (s2 := 126) F.1]
theorem m206_18 {d : Nat} {M : hp} {Q : Option Value → hp → Prop} (F : MF M) : Wp none d 206 18 [(0, .ref 126)] [.ref 126] M Q = Wp none d 189 0 [(0, .ref 126)] [] M (fun r M1 => Wp none d 206 21 [(0, .ref 126)] (r.toList ++ []) M1 Q) := by
  rw [k206_18 (x0 := 126) (s0 := 126) F.1]
theorem m206_26 {d : Nat} {s0 : Int32} {M : hp} {Q : Option Value → hp → Prop} (F : MF M) : Wp none d 206 26 [(0, .ref 126)] [.int s0, .ref 126] M Q = Wp none d 191 0 [(0, .ref 126), (1, .int s0)] [] M (fun r M1 => Wp none d 206 29 [(0, .ref 126)] (r.toList ++ []) M1 Q) := by
  rw [k206_26 (x0 := 126) (s1 := 126) F.1]
theorem m206_35 {d : Nat} {s0 : Int32} {M : hp} {Q : Option Value → hp → Prop} (F : MF M) : Wp none d 206 35 [(0, .ref 126)] [.int s0, .ref 126] M Q = Wp none d 203 0 [(0, .ref 126), (1, .int s0)] [] M (fun r M1 => Wp none d 206 38 [(0, .ref 126)] (r.toList ++ []) M1 Q) := by
  rw [k206_35 (x0 := 126) (s1 := 126) F.1]
theorem m206_41 {d : Nat} {M : hp} {Q : Option Value → hp → Prop} (F : MF M) : Wp none d 206 41 [(0, .ref 126)] [.ref 126] M Q = Wp none d 205 0 [(0, .ref 126)] [] M (fun r M1 => Wp none d 206 44 [(0, .ref 126)] (r.toList ++ []) M1 Q) := by
  rw [k206_41 (x0 := 126) (s0 := 126) F.1]
theorem m207_3 {d : Nat} {x1 : Int32} {s0 : Int32} {M : hp} {Q : Option Value → hp → Prop} (F : MF M) : Wp none d 207 3 [(0, .ref 126), (1, .int x1)] [.int s0, .ref 126] M Q = Wp none d 191 0 [(0, .ref 126), (1, .int s0)] [] M (fun r M1 => Wp none d 207 6 [(0, .ref 126), (1, .int x1)] (r.toList ++ []) M1 Q) := by
  rw [k207_3 (x0 := 126) (s1 := 126) F.1]
theorem m207_17 {d : Nat} {x1 : Int32} {s0 : Int32} {M : hp} {Q : Option Value → hp → Prop} (F : MF M) : Wp none d 207 17 [(0, .ref 126), (1, .int x1)] [.int s0, .ref 126] M Q = Wp none d 191 0 [(0, .ref 126), (1, .int s0)] [] M (fun r M1 => Wp none d 207 20 [(0, .ref 126), (1, .int x1)] (r.toList ++ []) M1 Q) := by
  rw [k207_17 (x0 := 126) (s1 := 126) F.1]
theorem m207_31 {d : Nat} {x1 : Int32} {s0 : Int32} {M : hp} {Q : Option Value → hp → Prop} (F : MF M) : Wp none d 207 31 [(0, .ref 126), (1, .int x1)] [.int s0, .ref 126] M Q = Wp none d 191 0 [(0, .ref 126), (1, .int s0)] [] M (fun r M1 => Wp none d 207 34 [(0, .ref 126), (1, .int x1)] (r.toList ++ []) M1 Q) := by
  rw [k207_31 (x0 := 126) (s1 := 126) F.1]
theorem m207_45 {d : Nat} {x1 : Int32} {s0 : Int32} {M : hp} {Q : Option Value → hp → Prop} (F : MF M) : Wp none d 207 45 [(0, .ref 126), (1, .int x1)] [.int s0, .ref 126] M Q = Wp none d 191 0 [(0, .ref 126), (1, .int s0)] [] M (fun r M1 => Wp none d 207 48 [(0, .ref 126), (1, .int x1)] (r.toList ++ []) M1 Q) := by
  rw [k207_45 (x0 := 126) (s1 := 126) F.1]
theorem m207_59 {d : Nat} {x1 : Int32} {s0 : Int32} {M : hp} {Q : Option Value → hp → Prop} (F : MF M) : Wp none d 207 59 [(0, .ref 126), (1, .int x1)] [.int s0, .ref 126] M Q = Wp none d 191 0 [(0, .ref 126), (1, .int s0)] [] M (fun r M1 => Wp none d 207 62 [(0, .ref 126), (1, .int x1)] (r.toList ++ []) M1 Q) := by
  rw [k207_59 (x0 := 126) (s1 := 126) F.1]
theorem m207_82 {d : Nat} {x1 : Int32} {x2 : Int32} {s0 : Int32} {M : hp} {Q : Option Value → hp → Prop} (F : MF M) : Wp none d 207 82 [(0, .ref 126), (1, .int x1), (2, .int x2)] [.int s0, .ref 126] M Q = Wp none d 198 0 [(0, .ref 126), (1, .int s0)] [] M (fun r M1 => Wp none d 207 85 [(0, .ref 126), (1, .int x1), (2, .int x2)] (r.toList ++ []) M1 Q) := by
  rw [k207_82 (x0 := 126) (s1 := 126) F.1]
theorem m207_88 {d : Nat} {x1 : Int32} {x2 : Int32} {s0 : Int32} {s1 : Int32} {M : hp} {Q : Option Value → hp → Prop} (F : MF M) : Wp none d 207 88 [(0, .ref 126), (1, .int x1), (2, .int x2)] [.int s0, .int s1, .ref 126] M Q = Wp none d 196 0 [(0, .ref 126), (1, .int s1), (2, .int s0)] [] M (fun r M1 => Wp none d 207 91 [(0, .ref 126), (1, .int x1), (2, .int x2)] (r.toList ++ []) M1 Q) := by
  rw [k207_88 (x0 := 126) (s2 := 126) F.1]
theorem m207_92 {d : Nat} {x1 : Int32} {x2 : Int32} {M : hp} {Q : Option Value → hp → Prop} (F : MF M) : Wp none d 207 92 [(0, .ref 126), (1, .int x1), (2, .int x2)] [.ref 126] M Q = Wp none d 189 0 [(0, .ref 126)] [] M (fun r M1 => Wp none d 207 95 [(0, .ref 126), (1, .int x1), (2, .int x2)] (r.toList ++ []) M1 Q) := by
  rw [k207_92 (x0 := 126) (s0 := 126) F.1]
theorem m207_98 {d : Nat} {x1 : Int32} {x2 : Int32} {M : hp} {Q : Option Value → hp → Prop} (F : MF M) : Wp none d 207 98 [(0, .ref 126), (1, .int x1), (2, .int x2)] [.ref 126] M Q = Wp none d 199 0 [(0, .ref 126)] [] M (fun r M1 => Wp none d 207 101 [(0, .ref 126), (1, .int x1), (2, .int x2)] (r.toList ++ []) M1 Q) := by
  rw [k207_98 (x0 := 126) (s0 := 126) F.1]
theorem m207_112 {d : Nat} {x1 : Int32} {x2 : Int32} {x3 : Int32} {s0 : Int32} {s2 : Nat} {M : hp} {Q : Option Value → hp → Prop} (F : MF M) : Wp none d 207 112 [(0, .ref 126), (1, .int x1), (2, .int x2), (3, .int x3)] [.int s0, .ref 126, .ref s2] M Q = Wp none d 191 0 [(0, .ref 126), (1, .int s0)] [] M (fun r M1 => Wp none d 207 115 [(0, .ref 126), (1, .int x1), (2, .int x2), (3, .int x3)] (r.toList ++ [.ref s2]) M1 Q) := by
  rw [k207_112 (x0 := 126) (s1 := 126) F.1]
theorem m207_115 {d : Nat} {x1 : Int32} {x2 : Int32} {x3 : Int32} {s0 : Int32} {M : hp} {Q : Option Value → hp → Prop} (F : MF M) : Wp none d 207 115 [(0, .ref 126), (1, .int x1), (2, .int x2), (3, .int x3)] [.int s0, .ref 126] M Q = Wp none d 192 0 [(0, .ref 126), (1, .int s0)] [] M (fun r M1 => Wp none d 207 118 [(0, .ref 126), (1, .int x1), (2, .int x2), (3, .int x3)] (r.toList ++ []) M1 Q) := by
  rw [k207_115 (x0 := 126) (s1 := 126) F.1]
theorem m207_118 {d : Nat} {x1 : Int32} {x2 : Int32} {x3 : Int32} {M : hp} {Q : Option Value → hp → Prop} (F : MF M) : Wp none d 207 118 [(0, .ref 126), (1, .int x1), (2, .int x2), (3, .int x3)] [] M Q = Wp none d 207 122 [(0, .ref 126), (1, .int x1), (2, .int x2), (3, .int x3)] [.int (hI M 126 19)] M Q := by
  rw [k207_118 (x0 := 126) F.1]
theorem m207_127 {d : Nat} {x1 : Int32} {x2 : Int32} {x3 : Int32} {s0 : Int32} {M : hp} {Q : Option Value → hp → Prop} (F : MF M) : Wp none d 207 127 [(0, .ref 126), (1, .int x1), (2, .int x2), (3, .int x3)] [.int s0, .ref 126] M Q = Wp none d 198 0 [(0, .ref 126), (1, .int s0)] [] M (fun r M1 => Wp none d 207 130 [(0, .ref 126), (1, .int x1), (2, .int x2), (3, .int x3)] (r.toList ++ []) M1 Q) := by
  rw [k207_127 (x0 := 126) (s1 := 126) F.1]
theorem m207_130 {d : Nat} {x1 : Int32} {x2 : Int32} {x3 : Int32} {M : hp} {Q : Option Value → hp → Prop} (F : MF M) : Wp none d 207 130 [(0, .ref 126), (1, .int x1), (2, .int x2), (3, .int x3)] [] M Q = Wp none d 207 140 [(0, .ref 126), (1, .int x1), (2, .int x2), (3, .int x3)] [] (sI M 126 29 ((hI M 126 29) - 1)) Q := by
  rw [k207_130 (x0 := 126) F.1]
theorem m207_140 {d : Nat} {x1 : Int32} {x2 : Int32} {x3 : Int32} {M : hp} {Q : Option Value → hp → Prop} (F : MF M) : Wp none d 207 140 [(0, .ref 126), (1, .int x1), (2, .int x2), (3, .int x3)] [] M Q = Wp none d 207 150 [(0, .ref 126), (1, .int x1), (2, .int x2), (3, .int x3)] [] (sI M 126 30 ((hI M 126 30) - 1)) Q := by
  rw [k207_140 (x0 := 126) F.1]
theorem m207_164 {d : Nat} {x1 : Int32} {x2 : Int32} {x3 : Int32} {M : hp} {Q : Option Value → hp → Prop} (F : MF M) : Wp none d 207 164 [(0, .ref 126), (1, .int x1), (2, .int x2), (3, .int x3)] [.ref 126] M Q = Wp none d 200 0 [(0, .ref 126)] [] M (fun r M1 => Wp none d 207 167 [(0, .ref 126), (1, .int x1), (2, .int x2), (3, .int x3)] (r.toList ++ []) M1 Q) := by
  rw [k207_164 (x0 := 126) (s0 := 126) F.1]
theorem m207_175 {d : Nat} {x1 : Int32} {x2 : Int32} {x3 : Int32} {s0 : Int32} {M : hp} {Q : Option Value → hp → Prop} (F : MF M) : Wp none d 207 175 [(0, .ref 126), (1, .int x1), (2, .int x2), (3, .int x3)] [.int s0, .ref 126] M Q = Wp none d 191 0 [(0, .ref 126), (1, .int s0)] [] M (fun r M1 => Wp none d 207 178 [(0, .ref 126), (1, .int x1), (2, .int x2), (3, .int x3)] (r.toList ++ []) M1 Q) := by
  rw [k207_175 (x0 := 126) (s1 := 126) F.1]
