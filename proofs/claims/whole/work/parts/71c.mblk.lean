theorem m240_112 {d : Nat} {x1 : Int32} {x2 : Int32} {x3 : Int32} {x4 : Int32} {x5 : Int32} {x6 : Int32} {x7 : Int32} {x8 : Int32} {s0 : Int32} {s1 : Int32} {M : hp} {Q : Option Value → hp → Prop} (F : MF M) : Wp none d 240 112 [(0, .ref 126), (1, .int x1), (2, .int x2), (3, .int x3), (4, .int x4), (5, .int x5), (6, .int x6), (7, .int x7), (8, .int x8)] [.int s0, .int s1, .ref 126] M Q = Wp none d 169 0 [(0, .ref 126), (1, .int s1), (2, .int s0)] [] M (fun r M1 => Wp none d 240 115 [(0, .ref 126), (1, .int x1), (2, .int x2), (3, .int x3), (4, .int x4), (5, .int x5), (6, .int x6), (7, .int x7), (8, .int x8)] (r.toList ++ []) M1 Q) := by
  rw [k240_112 (x0 := 126) (s2 := 126) F.1]
theorem m240_122 {d : Nat} {x1 : Int32} {x2 : Int32} {x3 : Int32} {x4 : Int32} {x5 : Int32} {x6 : Int32} {x7 : Int32} {x8 : Int32} {s0 : Int32} {s1 : Int32} {s2 : Int32} {M : hp} {Q : Option Value → hp → Prop} (F : MF M) : Wp none d 240 122 [(0, .ref 126), (1, .int x1), (2, .int x2), (3, .int x3), (4, .int x4), (5, .int x5), (6, .int x6), (7, .int x7), (8, .int x8)] [.int s0, .int s1, .int s2, .ref 126] M Q = Wp none d 239 0 [(0, .ref 126), (1, .int s2), (2, .int s1), (3, .int s0)] [] M (fun r M1 => Wp none d 240 125 [(0, .ref 126), (1, .int x1), (2, .int x2), (3, .int x3), (4, .int x4), (5, .int x5), (6, .int x6), (7, .int x7), (8, .int x8)] (r.toList ++ []) M1 Q) := by
  rw [k240_122 (x0 := 126) (s3 := 126) F.1]
theorem m240_168 {d : Nat} {x1 : Int32} {x2 : Int32} {x3 : Int32} {x4 : Int32} {x5 : Int32} {x6 : Int32} {x7 : Int32} {x8 : Int32} {x9 : Int32} {s0 : Int32} {M : hp} {Q : Option Value → hp → Prop} (F : MF M) : Wp none d 240 168 [(0, .ref 126), (1, .int x1), (2, .int x2), (3, .int x3), (4, .int x4), (5, .int x5), (6, .int x6), (7, .int x7), (8, .int x8), (9, .int x9)] [.int s0, .ref 126] M Q = Wp none d 160 0 [(0, .ref 126), (1, .int s0)] [] M (fun r M1 => Wp none d 240 171 [(0, .ref 126), (1, .int x1), (2, .int x2), (3, .int x3), (4, .int x4), (5, .int x5), (6, .int x6), (7, .int x7), (8, .int x8)] (r.toList ++ []) M1 Q) := by
  rw [k240_168 (x0 := 126) (s1 := 126) F.1]
theorem m241_3 {d : Nat} {x1 : Int32} {x2 : Int32} {x3 : Int32} {x4 : Int32} {M : hp} {Q : Option Value → hp → Prop} (F : MF M) (h5 : vin 0 5447 = true) : Wp none d 241 3 [(0, .ref 126), (1, .int x1), (2, .int x2), (3, .int x3), (4, .int x4)] [] M Q = Wp none d 241 11 [(0, .ref 126), (1, .int x1), (2, .int x2), (3, .int x3), (4, .int x4)] [.int (hI M 128 (0 : Int32).toNatClampNeg), .int x4] M Q := by
  rw [k241_3 (x0 := 126) F.1 (by rw [m_R3 F]; decide) (by rw [m_R3 F]; decide) (by rw [m_R3 F, m_K128 F]) (by rw [m_R3 F, m_K128 F]; exact h5)]
  simp only [m_R3 F]
theorem m241_14 {d : Nat} {x1 : Int32} {x2 : Int32} {x3 : Int32} {x4 : Int32} {M : hp} {Q : Option Value → hp → Prop} (F : MF M) : Wp none d 241 14 [(0, .ref 126), (1, .int x1), (2, .int x2), (3, .int x3), (4, .int x4)] [] M Q = Wp none d 241 26 [(0, .ref 126), (1, .int x1), (2, .int x2), (3, .int x3), (4, .int x4)] [.int x4, .int x3, .int (7 + x4), .ref 128] M Q := by
  rw [k241_14 (x0 := 126) F.1 (by rw [m_R3 F]; decide)]
  simp only [m_R3 F]
theorem m241_36 {d : Nat} {x1 : Int32} {x2 : Int32} {x3 : Int32} {x4 : Int32} {s0 : Int32} {s1 : Nat} {M : hp} {Q : Option Value → hp → Prop} (F : MF M) (h5 : vin (7 + x4) 5447 = true) : Wp none d 241 36 [(0, .ref 126), (1, .int x1), (2, .int x2), (3, .int x3), (4, .int x4)] [.int s0, .ref s1] M Q = Wp none d 241 46 [(0, .ref 126), (1, .int x1), (2, .int x2), (3, .int x3), (4, .int x4)] [.int (hI M 128 (7 + x4).toNatClampNeg), .int s0, .ref s1] M Q := by
  rw [k241_36 (x0 := 126) F.1 (by rw [m_R3 F]; decide) (by rw [m_R3 F]; decide) (by rw [m_R3 F, m_K128 F]) (by rw [m_R3 F, m_K128 F]; exact h5)]
  simp only [m_R3 F]
theorem m241_46 {d : Nat} {x1 : Int32} {x2 : Int32} {x3 : Int32} {x4 : Int32} {s0 : Int32} {s1 : Int32} {s2 : Nat} {M : hp} {Q : Option Value → hp → Prop} (F : MF M) (h1 : (hK M s2).1 = 20) (h2 : vin s1 (hK M s2).2 = true) : Wp none d 241 46 [(0, .ref 126), (1, .int x1), (2, .int x2), (3, .int x3), (4, .int x4)] [.int s0, .int s1, .ref s2] M Q = Wp none d 241 47 [(0, .ref 126), (1, .int x1), (2, .int x2), (3, .int x3), (4, .int x4)] [] (sI M s2 s1.toNatClampNeg s0) Q := by
  rw [k241_46 (x0 := 126) h1 h2]
theorem m241_56 {d : Nat} {x1 : Int32} {x2 : Int32} {x3 : Int32} {x4 : Int32} {s0 : Int32} {M : hp} {Q : Option Value → hp → Prop} (F : MF M) : Wp none d 241 56 [(0, .ref 126), (1, .int x1), (2, .int x2), (3, .int x3), (4, .int x4)] [.int s0, .ref 126] M Q = Wp none d 235 0 [(0, .ref 126), (1, .int s0)] [] M (fun r M1 => Wp none d 241 59 [(0, .ref 126), (1, .int x1), (2, .int x2), (3, .int x3), (4, .int x4)] (r.toList ++ []) M1 Q) := by
  rw [k241_56 (x0 := 126) (s1 := 126) F.1]
theorem m241_62 {d : Nat} {x1 : Int32} {x2 : Int32} {x3 : Int32} {x4 : Int32} {s0 : Int32} {s1 : Int32} {M : hp} {Q : Option Value → hp → Prop} (F : MF M) : Wp none d 241 62 [(0, .ref 126), (1, .int x1), (2, .int x2), (3, .int x3), (4, .int x4)] [.int s0, .int s1, .ref 126] M Q = Wp none d 169 0 [(0, .ref 126), (1, .int s1), (2, .int s0)] [] M (fun r M1 => Wp none d 241 65 [(0, .ref 126), (1, .int x1), (2, .int x2), (3, .int x3), (4, .int x4)] (r.toList ++ []) M1 Q) := by
  rw [k241_62 (x0 := 126) (s2 := 126) F.1]
theorem m241_70 {d : Nat} {x1 : Int32} {x2 : Int32} {x3 : Int32} {x4 : Int32} {s0 : Int32} {M : hp} {Q : Option Value → hp → Prop} (F : MF M) : Wp none d 241 70 [(0, .ref 126), (1, .int x1), (2, .int x2), (3, .int x3), (4, .int x4)] [.int s0, .ref 126] M Q = Wp none d 160 0 [(0, .ref 126), (1, .int s0)] [] M (fun r M1 => Wp none d 241 73 [(0, .ref 126), (1, .int x1), (2, .int x2), (3, .int x3), (4, .int x4)] (r.toList ++ []) M1 Q) := by
  rw [k241_70 (x0 := 126) (s1 := 126) F.1]
theorem m241_73 {d : Nat} {x1 : Int32} {x2 : Int32} {x3 : Int32} {x4 : Int32} {M : hp} {Q : Option Value → hp → Prop} (F : MF M) (h1 : x4 = 0 ∨ x4 = 1) : Wp none d 241 73 [(0, .ref 126), (1, .int x1), (2, .int x2), (3, .int x3), (4, .int x4)] [] M Q = Q (some (.int x4)) M := by
  rw [k241_73 (x0 := 126) h1]
theorem m242_0 {d : Nat} {x1 : Int32} {x2 : Int32} {x3 : Int32} {M : hp} {Q : Option Value → hp → Prop} (F : MF M) : Wp none d 242 0 [(0, .ref 126), (1, .int x1), (2, .int x2), (3, .int x3)] [] M Q = Wp none d 242 5 [(0, .ref 126), (1, .int x1), (2, .int x2), (3, .int x3)] [] (sI M 126 0 0) Q := by
  rw [k242_0 (x0 := 126) F.1]
theorem m242_7 {d : Nat} {x1 : Int32} {x2 : Int32} {x3 : Int32} {s0 : Int32} {M : hp} {Q : Option Value → hp → Prop} (F : MF M) : Wp none d 242 7 [(0, .ref 126), (1, .int x1), (2, .int x2), (3, .int x3)] [.int s0, .ref 126] M Q = Wp none d 165 0 [(0, .ref 126), (1, .int s0)] [] M (fun r M1 => Wp none d 242 10 [(0, .ref 126), (1, .int x1), (2, .int x2), (3, .int x3)] (r.toList ++ []) M1 Q) := by
  rw [k242_7 (x0 := 126) (s1 := 126) F.1]
theorem m242_23 {d : Nat} {x1 : Int32} {x2 : Int32} {x3 : Int32} {s0 : Int32} {s1 : Int32} {M : hp} {Q : Option Value → hp → Prop} (F : MF M) : Wp none d 242 23 [(0, .ref 126), (1, .int x1), (2, .int x2), (3, .int x3)] [.int s0, .int s1, .ref 126] M Q = Wp none d 169 0 [(0, .ref 126), (1, .int s1), (2, .int s0)] [] M (fun r M1 => Wp none d 242 26 [(0, .ref 126), (1, .int x1), (2, .int x2), (3, .int x3)] (r.toList ++ []) M1 Q) := by
  rw [k242_23 (x0 := 126) (s2 := 126) F.1]
theorem m242_44 {d : Nat} {x1 : Int32} {x2 : Int32} {x3 : Int32} {s0 : Int32} {M : hp} {Q : Option Value → hp → Prop} (F : MF M) : Wp none d 242 44 [(0, .ref 126), (1, .int x1), (2, .int x2), (3, .int x3)] [.int s0, .ref 126] M Q = Wp none d 159 0 [(0, .ref 126), (1, .int s0)] [] M (fun r M1 => Wp none d 242 47 [(0, .ref 126), (1, .int x1), (2, .int x2), (3, .int x3)] (r.toList ++ []) M1 Q) := by
  rw [k242_44 (x0 := 126) (s1 := 126) F.1]
theorem m242_48 {d : Nat} {x1 : Int32} {x2 : Int32} {x3 : Int32} {M : hp} {Q : Option Value → hp → Prop} (F : MF M) : Wp none d 242 48 [(0, .ref 126), (1, .int x1), (2, .int x2), (3, .int x3)] [.ref 126] M Q = Wp none d 172 0 [(0, .ref 126)] [] M (fun r M1 => Wp none d 242 51 [(0, .ref 126), (1, .int x1), (2, .int x2), (3, .int x3)] (r.toList ++ []) M1 Q) := by
  rw [k242_48 (x0 := 126) (s0 := 126) F.1]
theorem m242_103 {d : Nat} {x1 : Int32} {x2 : Int32} {x3 : Int32} {x4 : Int32} {x5 : Int32} {x6 : Int32} {x7 : Int32} {s0 : Int32} {s1 : Int32} {s2 : Int32} {M : hp} {Q : Option Value → hp → Prop} (F : MF M) : Wp none d 242 103 [(0, .ref 126), (1, .int x1), (2, .int x2), (3, .int x3), (4, .int x4), (5, .int x5), (6, .int x6), (7, .int x7)] [.int s0, .int s1, .int s2, .ref 126] M Q = Wp none d 241 0 [(0, .ref 126), (1, .int s2), (2, .int s1), (3, .int s0)] [] M (fun r M1 => Wp none d 242 106 [(0, .ref 126), (1, .int x1), (2, .int x2), (3, .int x3), (4, .int x4), (5, .int x5), (6, .int x6), (7, .int x7)] (r.toList ++ []) M1 Q) := by
  rw [k242_103 (x0 := 126) (s3 := 126) F.1]
theorem m243_42 {d : Nat} {x1 : Int32} {x2 : Int32} {x3 : Int32} {x4 : Int32} {x5 : Int32} {x6 : Int32} {M : hp} {Q : Option Value → hp → Prop} (F : MF M) (h1 : ¬ x3 = 0) : Wp none d 243 42 [(0, .ref 126), (1, .int x1), (2, .int x2), (3, .int x3), (4, .int x4), (5, .int x5), (6, .int x6)] [] M Q = Wp none d 243 51 [(0, .ref 126), (1, .int x1), (2, .int x2), (3, .int x3), (4, .int x4), (5, .int x5), (6, .int x6), (7, .int (x5 / x3))] [.int (x5 / x3), .ref 126] M Q := by
  rw [k243_42 (x0 := 126) h1]
theorem m243_51 {d : Nat} {x1 : Int32} {x2 : Int32} {x3 : Int32} {x4 : Int32} {x5 : Int32} {x6 : Int32} {x7 : Int32} {s0 : Int32} {M : hp} {Q : Option Value → hp → Prop} (F : MF M) : Wp none d 243 51 [(0, .ref 126), (1, .int x1), (2, .int x2), (3, .int x3), (4, .int x4), (5, .int x5), (6, .int x6), (7, .int x7)] [.int s0, .ref 126] M Q = Wp none d 170 0 [(0, .ref 126), (1, .int s0)] [] M (fun r M1 => Wp none d 243 54 [(0, .ref 126), (1, .int x1), (2, .int x2), (3, .int x3), (4, .int x4), (5, .int x5), (6, .int x6), (7, .int x7)] (r.toList ++ []) M1 Q) := by
  rw [k243_51 (x0 := 126) (s1 := 126) F.1]
theorem m243_63 {d : Nat} {x1 : Int32} {x2 : Int32} {x3 : Int32} {x4 : Int32} {x5 : Int32} {x6 : Int32} {x7 : Int32} {s0 : Int32} {M : hp} {Q : Option Value → hp → Prop} (F : MF M) (h6 : vin x6 7 = true) (h8 : vin (7 + (hI M 148 x6.toNatClampNeg)) 5447 = true) : Wp none d 243 63 [(0, .ref 126), (1, .int x1), (2, .int x2), (3, .int x3), (4, .int x4), (5, .int x5), (6, .int x6), (7, .int x7)] [.int s0] M Q = Wp none d 243 82 [(0, .ref 126), (1, .int x1), (2, .int x2), (3, .int x3), (4, .int s0), (5, .int x5), (6, .int x6), (7, .int x7)] [] (sI M 128 (7 + (hI M 148 x6.toNatClampNeg)).toNatClampNeg x7) Q := by
  rw [k243_63 (x0 := 126) F.1 (by rw [m_R3 F]; decide) (by rw [m_R42 F]; decide) (by rw [m_R42 F]; decide) (by rw [m_R42 F, m_K148 F]) (by rw [m_R42 F, m_K148 F]; exact h6) (by rw [m_R3 F, m_K128 F]) (by rw [m_R42 F, m_R3 F, m_K128 F]; exact h8)]
  simp only [m_R3 F, m_R42 F]
theorem m243_82 {d : Nat} {x1 : Int32} {x2 : Int32} {x3 : Int32} {x4 : Int32} {x5 : Int32} {x6 : Int32} {x7 : Int32} {M : hp} {Q : Option Value → hp → Prop} (F : MF M) (h1 : ¬ x3 = 0) : Wp none d 243 82 [(0, .ref 126), (1, .int x1), (2, .int x2), (3, .int x3), (4, .int x4), (5, .int x5), (6, .int x6), (7, .int x7)] [] M Q = Wp none d 243 31 [(0, .ref 126), (1, .int x1), (2, .int x2), (3, .int (x3 / 10)), (4, .int x4), (5, .int (x5 - x5 / x3 * x3)), (6, .int (x6 + 1))] [] M Q := by
  rw [k243_82 (x0 := 126) h1]
theorem m243_99 {d : Nat} {x1 : Int32} {x2 : Int32} {x3 : Int32} {x4 : Int32} {x5 : Int32} {x6 : Int32} {M : hp} {Q : Option Value → hp → Prop} (F : MF M) (h1 : x4 = 0 ∨ x4 = 1) : Wp none d 243 99 [(0, .ref 126), (1, .int x1), (2, .int x2), (3, .int x3), (4, .int x4), (5, .int x5), (6, .int x6)] [] M Q = Q (some (.int x4)) M := by
  rw [k243_99 (x0 := 126) h1]
theorem m244_4 {d : Nat} {x1 : Int32} {x2 : Int32} {M : hp} {Q : Option Value → hp → Prop} (F : MF M) (h5 : vin 0 5447 = true) : Wp none d 244 4 [(0, .ref 126), (1, .int x1), (2, .int x2)] [] M Q = Wp none d 244 11 [(0, .ref 126), (1, .int x1), (2, .int x2)] [.int (hI M 128 (0 : Int32).toNatClampNeg), .int x2] M Q := by
  rw [k244_4 (x0 := 126) F.1 (by rw [m_R3 F]; decide) (by rw [m_R3 F]; decide) (by rw [m_R3 F, m_K128 F]) (by rw [m_R3 F, m_K128 F]; exact h5)]
  simp only [m_R3 F]
theorem m244_17 {d : Nat} {x1 : Int32} {x2 : Int32} {s0 : Int32} {s2 : Int32} {M : hp} {Q : Option Value → hp → Prop} (F : MF M) : Wp none d 244 17 [(0, .ref 126), (1, .int x1), (2, .int x2)] [.int s0, .ref 126, .int s2] M Q = Wp none d 176 0 [(0, .ref 126), (1, .int s0)] [] M (fun r M1 => Wp none d 244 20 [(0, .ref 126), (1, .int x1), (2, .int x2)] (r.toList ++ [.int s2]) M1 Q) := by
  rw [k244_17 (x0 := 126) (s1 := 126) F.1]
theorem m245_0 {d : Nat} {x1 : Int32} {x2 : Int32} {M : hp} {Q : Option Value → hp → Prop} (F : MF M) : Wp none d 245 0 [(0, .ref 126), (1, .int x1), (2, .int x2)] [] M Q = Wp none d 245 5 [(0, .ref 126), (1, .int x1), (2, .int x2)] [] (sI M 126 0 0) Q := by
  rw [k245_0 (x0 := 126) F.1]
theorem m245_10 {d : Nat} {x1 : Int32} {x2 : Int32} {x3 : Int32} {x4 : Int32} {M : hp} {Q : Option Value → hp → Prop} (F : MF M) (h5 : vin 0 5447 = true) : Wp none d 245 10 [(0, .ref 126), (1, .int x1), (2, .int x2), (3, .int x3), (4, .int x4)] [] M Q = Wp none d 245 18 [(0, .ref 126), (1, .int x1), (2, .int x2), (3, .int x3), (4, .int x4)] [.int (hI M 128 (0 : Int32).toNatClampNeg), .int x4] M Q := by
  rw [k245_10 (x0 := 126) F.1 (by rw [m_R3 F]; decide) (by rw [m_R3 F]; decide) (by rw [m_R3 F, m_K128 F]) (by rw [m_R3 F, m_K128 F]; exact h5)]
  simp only [m_R3 F]
theorem m245_24 {d : Nat} {x1 : Int32} {x2 : Int32} {x3 : Int32} {x4 : Int32} {s0 : Int32} {M : hp} {Q : Option Value → hp → Prop} (F : MF M) : Wp none d 245 24 [(0, .ref 126), (1, .int x1), (2, .int x2), (3, .int x3), (4, .int x4)] [.int s0, .ref 126] M Q = Wp none d 168 0 [(0, .ref 126), (1, .int s0)] [] M (fun r M1 => Wp none d 245 27 [(0, .ref 126), (1, .int x1), (2, .int x2), (3, .int x3), (4, .int x4)] (r.toList ++ []) M1 Q) := by
  rw [k245_24 (x0 := 126) (s1 := 126) F.1]
theorem m245_30 {d : Nat} {x1 : Int32} {x2 : Int32} {x3 : Int32} {x4 : Int32} {M : hp} {Q : Option Value → hp → Prop} (F : MF M) (h4 : vin x3 7 = true) : Wp none d 245 30 [(0, .ref 126), (1, .int x1), (2, .int x2), (3, .int x3), (4, .int x4)] [] M Q = Wp none d 245 38 [(0, .ref 126), (1, .int x1), (2, .int x2), (3, .int x3), (4, .int x4)] [] (sI M 148 x3.toNatClampNeg x4) Q := by
  rw [k245_30 (x0 := 126) F.1 (by rw [m_R42 F]; decide) (by rw [m_R42 F, m_K148 F]) (by rw [m_R42 F, m_K148 F]; exact h4)]
  simp only [m_R42 F]
theorem m245_125 {d : Nat} {x1 : Int32} {x2 : Int32} {x3 : Int32} {x4 : Int32} {x5 : Int32} {x6 : Int32} {s0 : Int32} {M : hp} {Q : Option Value → hp → Prop} (F : MF M) : Wp none d 245 125 [(0, .ref 126), (1, .int x1), (2, .int x2), (3, .int x3), (4, .int x4), (5, .int x5), (6, .int x6)] [.int s0, .ref 126] M Q = Wp none d 159 0 [(0, .ref 126), (1, .int s0)] [] M (fun r M1 => Wp none d 245 128 [(0, .ref 126), (1, .int x1), (2, .int x2), (3, .int x3), (4, .int x4), (5, .int x5), (6, .int x6)] (r.toList ++ []) M1 Q) := by
  rw [k245_125 (x0 := 126) (s1 := 126) F.1]
theorem m245_142 {d : Nat} {x1 : Int32} {x2 : Int32} {x3 : Int32} {x4 : Int32} {x5 : Int32} {x6 : Int32} {x7 : Int32} {s0 : Int32} {s1 : Int32} {M : hp} {Q : Option Value → hp → Prop} (F : MF M) : Wp none d 245 142 [(0, .ref 126), (1, .int x1), (2, .int x2), (3, .int x3), (4, .int x4), (5, .int x5), (6, .int x6), (7, .int x7)] [.int s0, .int s1, .ref 126] M Q = Wp none d 243 0 [(0, .ref 126), (1, .int s1), (2, .int s0)] [] M (fun r M1 => Wp none d 245 145 [(0, .ref 126), (1, .int x1), (2, .int x2), (3, .int x3), (4, .int x4), (5, .int x5), (6, .int x6), (7, .int x7)] (r.toList ++ []) M1 Q) := by
  rw [k245_142 (x0 := 126) (s2 := 126) F.1]
theorem m245_150 {d : Nat} {x1 : Int32} {x2 : Int32} {x3 : Int32} {x4 : Int32} {x5 : Int32} {x6 : Int32} {x7 : Int32} {s0 : Int32} {M : hp} {Q : Option Value → hp → Prop} (F : MF M) : Wp none d 245 150 [(0, .ref 126), (1, .int x1), (2, .int x2), (3, .int x3), (4, .int x4), (5, .int x5), (6, .int x6), (7, .int x7)] [.int s0, .ref 126] M Q = Wp none d 235 0 [(0, .ref 126), (1, .int s0)] [] M (fun r M1 => Wp none d 245 153 [(0, .ref 126), (1, .int x1), (2, .int x2), (3, .int x3), (4, .int x4), (5, .int x5), (6, .int x6), (7, .int x7)] (r.toList ++ []) M1 Q) := by
  rw [k245_150 (x0 := 126) (s1 := 126) F.1]
theorem m245_154 {d : Nat} {x1 : Int32} {x2 : Int32} {x3 : Int32} {x4 : Int32} {x5 : Int32} {x6 : Int32} {x7 : Int32} {M : hp} {Q : Option Value → hp → Prop} (F : MF M) : Wp none d 245 154 [(0, .ref 126), (1, .int x1), (2, .int x2), (3, .int x3), (4, .int x4), (5, .int x5), (6, .int x6), (7, .int x7)] [.ref 126] M Q = Wp none d 244 0 [(0, .ref 126)] [] M (fun r M1 => Wp none d 245 157 [(0, .ref 126), (1, .int x1), (2, .int x2), (3, .int x3), (4, .int x4), (5, .int x5), (6, .int x6), (7, .int x7)] (r.toList ++ []) M1 Q) := by
  rw [k245_154 (x0 := 126) (s0 := 126) F.1]
theorem m245_194 {d : Nat} {x1 : Int32} {x2 : Int32} {x3 : Int32} {x4 : Int32} {x5 : Int32} {x6 : Int32} {x7 : Int32} {s0 : Int32} {M : hp} {Q : Option Value → hp → Prop} (F : MF M) : Wp none d 245 194 [(0, .ref 126), (1, .int x1), (2, .int x2), (3, .int x3), (4, .int x4), (5, .int x5), (6, .int x6), (7, .int x7)] [.int s0, .ref 126] M Q = Wp none d 160 0 [(0, .ref 126), (1, .int s0)] [] M (fun r M1 => Wp none d 245 197 [(0, .ref 126), (1, .int x1), (2, .int x2), (3, .int x3), (4, .int x4), (5, .int x5), (6, .int x6), (7, .int x7)] (r.toList ++ []) M1 Q) := by
  rw [k245_194 (x0 := 126) (s1 := 126) F.1]
theorem m245_217 {d : Nat} {x1 : Int32} {x2 : Int32} {x3 : Int32} {x4 : Int32} {x5 : Int32} {x6 : Int32} {x7 : Int32} {x8 : Int32} {M : hp} {Q : Option Value → hp → Prop} (F : MF M) (h4 : vin x8 3 = true) : Wp none d 245 217 [(0, .ref 126), (1, .int x1), (2, .int x2), (3, .int x3), (4, .int x4), (5, .int x5), (6, .int x6), (7, .int x7), (8, .int x8)] [] M Q = Wp none d 245 229 [(0, .ref 126), (1, .int x1), (2, .int x2), (3, .int x3), (4, .int x4), (5, .int x5), (6, .int x6), (7, .int x7), (8, .int x8)] [] (sI M 149 x8.toNatClampNeg (x7 - x7 / 10 * 10)) Q := by
  rw [k245_217 (x0 := 126) F.1 (by rw [m_R43 F]; decide) (by rw [m_R43 F, m_K149 F]) (by rw [m_R43 F, m_K149 F]; exact h4)]
  simp only [m_R43 F]
theorem m245_262 {d : Nat} {x1 : Int32} {x2 : Int32} {x3 : Int32} {x4 : Int32} {x5 : Int32} {x6 : Int32} {x7 : Int32} {x8 : Int32} {M : hp} {Q : Option Value → hp → Prop} (F : MF M) (h5 : vin x2 3 = true) : Wp none d 245 262 [(0, .ref 126), (1, .int x1), (2, .int x2), (3, .int x3), (4, .int x4), (5, .int x5), (6, .int x6), (7, .int x7), (8, .int x8)] [] M Q = Wp none d 245 268 [(0, .ref 126), (1, .int x1), (2, .int x2), (3, .int x3), (4, .int x4), (5, .int x5), (6, .int x6), (7, .int x7), (8, .int x8)] [.int (hI M 149 x2.toNatClampNeg)] M Q := by
  rw [k245_262 (x0 := 126) F.1 (by rw [m_R43 F]; decide) (by rw [m_R43 F]; decide) (by rw [m_R43 F, m_K149 F]) (by rw [m_R43 F, m_K149 F]; exact h5)]
  simp only [m_R43 F]
theorem m246_2 {d : Nat} {x1 : Int32} {s0 : Int32} {M : hp} {Q : Option Value → hp → Prop} (F : MF M) : Wp none d 246 2 [(0, .ref 126), (1, .int x1)] [.int s0, .ref 126] M Q = Wp none d 168 0 [(0, .ref 126), (1, .int s0)] [] M (fun r M1 => Wp none d 246 5 [(0, .ref 126), (1, .int x1)] (r.toList ++ []) M1 Q) := by
  rw [k246_2 (x0 := 126) (s1 := 126) F.1]
theorem m246_27 {d : Nat} {x1 : Int32} {x2 : Int32} {x3 : Int32} {x4 : Int32} {M : hp} {Q : Option Value → hp → Prop} (F : MF M) (h5 : vin 0 5447 = true) : Wp none d 246 27 [(0, .ref 126), (1, .int x1), (2, .int x2), (3, .int x3), (4, .int x4)] [] M Q = Wp none d 246 35 [(0, .ref 126), (1, .int x1), (2, .int x2), (3, .int x3), (4, .int x4)] [.int (hI M 128 (0 : Int32).toNatClampNeg), .int x4] M Q := by
  rw [k246_27 (x0 := 126) F.1 (by rw [m_R3 F]; decide) (by rw [m_R3 F]; decide) (by rw [m_R3 F, m_K128 F]) (by rw [m_R3 F, m_K128 F]; exact h5)]
  simp only [m_R3 F]
theorem m246_41 {d : Nat} {x1 : Int32} {x2 : Int32} {x3 : Int32} {x4 : Int32} {x5 : Int32} {M : hp} {Q : Option Value → hp → Prop} (F : MF M) (h5 : vin 0 5447 = true) : Wp none d 246 41 [(0, .ref 126), (1, .int x1), (2, .int x2), (3, .int x3), (4, .int x4), (5, .int x5)] [] M Q = Wp none d 246 49 [(0, .ref 126), (1, .int x1), (2, .int x2), (3, .int x3), (4, .int x4), (5, .int x5)] [.int (hI M 128 (0 : Int32).toNatClampNeg), .int x5] M Q := by
  rw [k246_41 (x0 := 126) F.1 (by rw [m_R3 F]; decide) (by rw [m_R3 F]; decide) (by rw [m_R3 F, m_K128 F]) (by rw [m_R3 F, m_K128 F]; exact h5)]
  simp only [m_R3 F]
theorem m246_74 {d : Nat} {x1 : Int32} {x2 : Int32} {x3 : Int32} {x4 : Int32} {x5 : Int32} {s0 : Int32} {s1 : Int32} {s3 : Int32} {M : hp} {Q : Option Value → hp → Prop} (F : MF M) : Wp none d 246 74 [(0, .ref 126), (1, .int x1), (2, .int x2), (3, .int x3), (4, .int x4), (5, .int x5)] [.int s0, .int s1, .ref 126, .int s3] M Q = Wp none d 171 0 [(0, .ref 126), (1, .int s1), (2, .int s0)] [] M (fun r M1 => Wp none d 246 77 [(0, .ref 126), (1, .int x1), (2, .int x2), (3, .int x3), (4, .int x4), (5, .int x5)] (r.toList ++ [.int s3]) M1 Q) := by
  rw [k246_74 (x0 := 126) (s2 := 126) F.1]
theorem m247_0 {d : Nat} {x1 : Int32} {M : hp} {Q : Option Value → hp → Prop} (F : MF M) : Wp none d 247 0 [(0, .ref 126), (1, .int x1)] [] M Q = Wp none d 247 5 [(0, .ref 126), (1, .int x1)] [] (sI M 126 0 0) Q := by
  rw [k247_0 (x0 := 126) F.1]
theorem m247_12 {d : Nat} {x1 : Int32} {s0 : Int32} {M : hp} {Q : Option Value → hp → Prop} (F : MF M) : Wp none d 247 12 [(0, .ref 126), (1, .int x1)] [.int s0, .ref 126] M Q = Wp none d 165 0 [(0, .ref 126), (1, .int s0)] [] M (fun r M1 => Wp none d 247 15 [(0, .ref 126), (1, .int x1)] (r.toList ++ []) M1 Q) := by
  rw [k247_12 (x0 := 126) (s1 := 126) F.1]
theorem m247_27 {d : Nat} {x1 : Int32} {s0 : Int32} {M : hp} {Q : Option Value → hp → Prop} (F : MF M) : Wp none d 247 27 [(0, .ref 126), (1, .int x1)] [.int s0, .ref 126] M Q = Wp none d 246 0 [(0, .ref 126), (1, .int s0)] [] M (fun r M1 => Wp none d 247 30 [(0, .ref 126), (1, .int x1)] (r.toList ++ []) M1 Q) := by
  rw [k247_27 (x0 := 126) (s1 := 126) F.1]
theorem m247_38 {d : Nat} {x1 : Int32} {x2 : Int32} {x3 : Int32} {x4 : Int32} {M : hp} {Q : Option Value → hp → Prop} (F : MF M) (h5 : vin 0 5447 = true) : Wp none d 247 38 [(0, .ref 126), (1, .int x1), (2, .int x2), (3, .int x3), (4, .int x4)] [] M Q = Wp none d 247 46 [(0, .ref 126), (1, .int x1), (2, .int x2), (3, .int x3), (4, .int x4)] [.int (hI M 128 (0 : Int32).toNatClampNeg), .int x4] M Q := by
  rw [k247_38 (x0 := 126) F.1 (by rw [m_R3 F]; decide) (by rw [m_R3 F]; decide) (by rw [m_R3 F, m_K128 F]) (by rw [m_R3 F, m_K128 F]; exact h5)]
  simp only [m_R3 F]
theorem m247_53 {d : Nat} {x1 : Int32} {x2 : Int32} {x3 : Int32} {x4 : Int32} {s0 : Int32} {s2 : Int32} {M : hp} {Q : Option Value → hp → Prop} (F : MF M) : Wp none d 247 53 [(0, .ref 126), (1, .int x1), (2, .int x2), (3, .int x3), (4, .int x4)] [.int s0, .ref 126, .int s2] M Q = Wp none d 168 0 [(0, .ref 126), (1, .int s0)] [] M (fun r M1 => Wp none d 247 56 [(0, .ref 126), (1, .int x1), (2, .int x2), (3, .int x3), (4, .int x4)] (r.toList ++ [.int s2]) M1 Q) := by
  rw [k247_53 (x0 := 126) (s1 := 126) F.1]
theorem m247_79 {d : Nat} {x1 : Int32} {x2 : Int32} {x3 : Int32} {x4 : Int32} {s0 : Int32} {s2 : Int32} {M : hp} {Q : Option Value → hp → Prop} (F : MF M) : Wp none d 247 79 [(0, .ref 126), (1, .int x1), (2, .int x2), (3, .int x3), (4, .int x4)] [.int s0, .ref 126, .int s2] M Q = Wp none d 246 0 [(0, .ref 126), (1, .int s0)] [] M (fun r M1 => Wp none d 247 82 [(0, .ref 126), (1, .int x1), (2, .int x2), (3, .int x3), (4, .int x4)] (r.toList ++ [.int s2]) M1 Q) := by
  rw [k247_79 (x0 := 126) (s1 := 126) F.1]
theorem m248_0 {d : Nat} {x1 : Int32} {M : hp} {Q : Option Value → hp → Prop} (F : MF M) : Wp none d 248 0 [(0, .ref 126), (1, .int x1)] [] M Q = Wp none d 248 5 [(0, .ref 126), (1, .int x1)] [] (sI M 126 0 0) Q := by
  rw [k248_0 (x0 := 126) F.1]
theorem m248_24 {d : Nat} {x1 : Int32} {x2 : Int32} {x3 : Int32} {x4 : Int32} {M : hp} {Q : Option Value → hp → Prop} (F : MF M) (h5 : vin 0 5447 = true) : Wp none d 248 24 [(0, .ref 126), (1, .int x1), (2, .int x2), (3, .int x3), (4, .int x4)] [] M Q = Wp none d 248 32 [(0, .ref 126), (1, .int x1), (2, .int x2), (3, .int x3), (4, .int x4)] [.int (hI M 128 (0 : Int32).toNatClampNeg), .int x4] M Q := by
  rw [k248_24 (x0 := 126) F.1 (by rw [m_R3 F]; decide) (by rw [m_R3 F]; decide) (by rw [m_R3 F, m_K128 F]) (by rw [m_R3 F, m_K128 F]; exact h5)]
  simp only [m_R3 F]
theorem m248_41 {d : Nat} {x1 : Int32} {x2 : Int32} {x3 : Int32} {x4 : Int32} {x5 : Int32} {x6 : Int32} {M : hp} {Q : Option Value → hp → Prop} (F : MF M) (h5 : vin 0 5447 = true) : Wp none d 248 41 [(0, .ref 126), (1, .int x1), (2, .int x2), (3, .int x3), (4, .int x4), (5, .int x5), (6, .int x6)] [] M Q = Wp none d 248 49 [(0, .ref 126), (1, .int x1), (2, .int x2), (3, .int x3), (4, .int x4), (5, .int x5), (6, .int x6)] [.int (hI M 128 (0 : Int32).toNatClampNeg), .int x6] M Q := by
  rw [k248_41 (x0 := 126) F.1 (by rw [m_R3 F]; decide) (by rw [m_R3 F]; decide) (by rw [m_R3 F, m_K128 F]) (by rw [m_R3 F, m_K128 F]; exact h5)]
  simp only [m_R3 F]
theorem m248_66 {d : Nat} {x1 : Int32} {x2 : Int32} {x3 : Int32} {x4 : Int32} {x5 : Int32} {x6 : Int32} {s0 : Int32} {s1 : Int32} {s3 : Int32} {M : hp} {Q : Option Value → hp → Prop} (F : MF M) : Wp none d 248 66 [(0, .ref 126), (1, .int x1), (2, .int x2), (3, .int x3), (4, .int x4), (5, .int x5), (6, .int x6)] [.int s0, .int s1, .ref 126, .int s3] M Q = Wp none d 171 0 [(0, .ref 126), (1, .int s1), (2, .int s0)] [] M (fun r M1 => Wp none d 248 69 [(0, .ref 126), (1, .int x1), (2, .int x2), (3, .int x3), (4, .int x4), (5, .int x5), (6, .int x6)] (r.toList ++ [.int s3]) M1 Q) := by
  rw [k248_66 (x0 := 126) (s2 := 126) F.1]
theorem m248_77 {d : Nat} {x1 : Int32} {x2 : Int32} {x3 : Int32} {x4 : Int32} {x5 : Int32} {x6 : Int32} {s0 : Int32} {s1 : Int32} {s3 : Int32} {M : hp} {Q : Option Value → hp → Prop} (F : MF M) : Wp none d 248 77 [(0, .ref 126), (1, .int x1), (2, .int x2), (3, .int x3), (4, .int x4), (5, .int x5), (6, .int x6)] [.int s0, .int s1, .ref 126, .int s3] M Q = Wp none d 223 0 [(0, .ref 126), (1, .int s1), (2, .int s0)] [] M (fun r M1 => Wp none d 248 80 [(0, .ref 126), (1, .int x1), (2, .int x2), (3, .int x3), (4, .int x4), (5, .int x5), (6, .int x6)] (r.toList ++ [.int s3]) M1 Q) := by
  rw [k248_77 (x0 := 126) (s2 := 126) F.1]
theorem m249_0 {d : Nat} {x1 : Int32} {x2 : Int32} {x3 : Int32} {M : hp} {Q : Option Value → hp → Prop} (F : MF M) : Wp none d 249 0 [(0, .ref 126), (1, .int x1), (2, .int x2), (3, .int x3)] [] M Q = Wp none d 249 5 [(0, .ref 126), (1, .int x1), (2, .int x2), (3, .int x3)] [] (sI M 126 0 0) Q := by
  rw [k249_0 (x0 := 126) F.1]
theorem m249_7 {d : Nat} {x1 : Int32} {x2 : Int32} {x3 : Int32} {s0 : Int32} {M : hp} {Q : Option Value → hp → Prop} (F : MF M) : Wp none d 249 7 [(0, .ref 126), (1, .int x1), (2, .int x2), (3, .int x3)] [.int s0, .ref 126] M Q = Wp none d 214 0 [(0, .ref 126), (1, .int s0)] [] M (fun r M1 => Wp none d 249 10 [(0, .ref 126), (1, .int x1), (2, .int x2), (3, .int x3)] (r.toList ++ []) M1 Q) := by
  rw [k249_7 (x0 := 126) (s1 := 126) F.1]
theorem m249_15 {d : Nat} {x1 : Int32} {x2 : Int32} {x3 : Int32} {s0 : Int32} {M : hp} {Q : Option Value → hp → Prop} (F : MF M) : Wp none d 249 15 [(0, .ref 126), (1, .int x1), (2, .int x2), (3, .int x3)] [.int s0, .ref 126] M Q = Wp none d 165 0 [(0, .ref 126), (1, .int s0)] [] M (fun r M1 => Wp none d 249 18 [(0, .ref 126), (1, .int x1), (2, .int x2), (3, .int x3)] (r.toList ++ []) M1 Q) := by
  rw [k249_15 (x0 := 126) (s1 := 126) F.1]
theorem m249_23 {d : Nat} {x1 : Int32} {x2 : Int32} {x3 : Int32} {s0 : Int32} {M : hp} {Q : Option Value → hp → Prop} (F : MF M) : Wp none d 249 23 [(0, .ref 126), (1, .int x1), (2, .int x2), (3, .int x3)] [.int s0, .ref 126] M Q = Wp none d 165 0 [(0, .ref 126), (1, .int s0)] [] M (fun r M1 => Wp none d 249 26 [(0, .ref 126), (1, .int x1), (2, .int x2), (3, .int x3)] (r.toList ++ []) M1 Q) := by
  rw [k249_23 (x0 := 126) (s1 := 126) F.1]
theorem m249_36 {d : Nat} {x1 : Int32} {x2 : Int32} {x3 : Int32} {M : hp} {Q : Option Value → hp → Prop} (F : MF M) (h5 : vin 3 5447 = true) : Wp none d 249 36 [(0, .ref 126), (1, .int x1), (2, .int x2), (3, .int x3)] [] M Q = Wp none d 249 51 [(0, .ref 126), (1, .int x1), (2, .int x2), (3, .int x3), (4, .int (hI M 128 (3 : Int32).toNatClampNeg))] [] (sI M 128 (3 : Int32).toNatClampNeg x1) Q := by
  rw [k249_36 (x0 := 126) F.1 (by rw [m_R3 F]; decide) (by rw [m_R3 F]; decide) (by rw [m_R3 F, m_K128 F]) (by rw [m_R3 F, m_K128 F]; exact h5)]
  simp only [m_R3 F]
theorem m249_54 {d : Nat} {x1 : Int32} {x2 : Int32} {x3 : Int32} {x4 : Int32} {s0 : Int32} {s1 : Int32} {M : hp} {Q : Option Value → hp → Prop} (F : MF M) : Wp none d 249 54 [(0, .ref 126), (1, .int x1), (2, .int x2), (3, .int x3), (4, .int x4)] [.int s0, .int s1, .ref 126] M Q = Wp none d 220 0 [(0, .ref 126), (1, .int s1), (2, .int s0)] [] M (fun r M1 => Wp none d 249 57 [(0, .ref 126), (1, .int x1), (2, .int x2), (3, .int x3), (4, .int x4)] (r.toList ++ []) M1 Q) := by
  rw [k249_54 (x0 := 126) (s2 := 126) F.1]
theorem m249_57 {d : Nat} {x1 : Int32} {x2 : Int32} {x3 : Int32} {x4 : Int32} {s0 : Int32} {M : hp} {Q : Option Value → hp → Prop} (F : MF M) (h4 : vin 3 5447 = true) : Wp none d 249 57 [(0, .ref 126), (1, .int x1), (2, .int x2), (3, .int x3), (4, .int x4)] [.int s0] M Q = Wp none d 249 67 [(0, .ref 126), (1, .int x1), (2, .int x2), (3, .int x3), (4, .int x4), (5, .int s0)] [] (sI M 128 (3 : Int32).toNatClampNeg x4) Q := by
  rw [k249_57 (x0 := 126) F.1 (by rw [m_R3 F]; decide) (by rw [m_R3 F, m_K128 F]) (by rw [m_R3 F, m_K128 F]; exact h4)]
  simp only [m_R3 F]
theorem m250_0 {d : Nat} {x1 : Int32} {x2 : Int32} {M : hp} {Q : Option Value → hp → Prop} (F : MF M) : Wp none d 250 0 [(0, .ref 126), (1, .int x1), (2, .int x2)] [] M Q = Wp none d 250 5 [(0, .ref 126), (1, .int x1), (2, .int x2)] [] (sI M 126 0 0) Q := by
  rw [k250_0 (x0 := 126) F.1]
theorem m250_24 {d : Nat} {x1 : Int32} {x2 : Int32} {s0 : Int32} {M : hp} {Q : Option Value → hp → Prop} (F : MF M) : Wp none d 250 24 [(0, .ref 126), (1, .int x1), (2, .int x2)] [.int s0, .ref 126] M Q = Wp none d 156 0 [(0, .ref 126), (1, .int s0)] [] M (fun r M1 => Wp none d 250 27 [(0, .ref 126), (1, .int x1), (2, .int x2)] (r.toList ++ []) M1 Q) := by
  rw [k250_24 (x0 := 126) (s1 := 126) F.1]
theorem m250_28 {d : Nat} {x1 : Int32} {x2 : Int32} {M : hp} {Q : Option Value → hp → Prop} (F : MF M) (h5 : vin 1 5447 = true) : Wp none d 250 28 [(0, .ref 126), (1, .int x1), (2, .int x2)] [] M Q = Wp none d 250 38 [(0, .ref 126), (1, .int x1), (2, .int x2), (3, .int (hI M 128 (1 : Int32).toNatClampNeg))] [.int 6, .int (hI M 128 (1 : Int32).toNatClampNeg)] M Q := by
  rw [k250_28 (x0 := 126) F.1 (by rw [m_R3 F]; decide) (by rw [m_R3 F]; decide) (by rw [m_R3 F, m_K128 F]) (by rw [m_R3 F, m_K128 F]; exact h5)]
  simp only [m_R3 F]
theorem m250_44 {d : Nat} {x1 : Int32} {x2 : Int32} {x3 : Int32} {s0 : Int32} {M : hp} {Q : Option Value → hp → Prop} (F : MF M) : Wp none d 250 44 [(0, .ref 126), (1, .int x1), (2, .int x2), (3, .int x3)] [.int s0, .ref 126] M Q = Wp none d 156 0 [(0, .ref 126), (1, .int s0)] [] M (fun r M1 => Wp none d 250 47 [(0, .ref 126), (1, .int x1), (2, .int x2), (3, .int x3)] (r.toList ++ []) M1 Q) := by
  rw [k250_44 (x0 := 126) (s1 := 126) F.1]
theorem m250_48 {d : Nat} {x1 : Int32} {x2 : Int32} {x3 : Int32} {M : hp} {Q : Option Value → hp → Prop} (F : MF M) (h4 : vin (35 + (2 * x3)) 5447 = true) : Wp none d 250 48 [(0, .ref 126), (1, .int x1), (2, .int x2), (3, .int x3)] [] M Q = Wp none d 250 60 [(0, .ref 126), (1, .int x1), (2, .int x2), (3, .int x3)] [] (sI M 128 (35 + (2 * x3)).toNatClampNeg x1) Q := by
  rw [k250_48 (x0 := 126) F.1 (by rw [m_R3 F]; decide) (by rw [m_R3 F, m_K128 F]) (by rw [m_R3 F, m_K128 F]; exact h4)]
  simp only [m_R3 F]
theorem m250_60 {d : Nat} {x1 : Int32} {x2 : Int32} {x3 : Int32} {M : hp} {Q : Option Value → hp → Prop} (F : MF M) (h4 : vin ((35 + (2 * x3)) + 1) 5447 = true) : Wp none d 250 60 [(0, .ref 126), (1, .int x1), (2, .int x2), (3, .int x3)] [] M Q = Wp none d 250 74 [(0, .ref 126), (1, .int x1), (2, .int x2), (3, .int x3)] [] (sI M 128 ((35 + (2 * x3)) + 1).toNatClampNeg x2) Q := by
  rw [k250_60 (x0 := 126) F.1 (by rw [m_R3 F]; decide) (by rw [m_R3 F, m_K128 F]) (by rw [m_R3 F, m_K128 F]; exact h4)]
  simp only [m_R3 F]
theorem m250_74 {d : Nat} {x1 : Int32} {x2 : Int32} {x3 : Int32} {M : hp} {Q : Option Value → hp → Prop} (F : MF M) (h5 : vin 1 5447 = true) : Wp none d 250 74 [(0, .ref 126), (1, .int x1), (2, .int x2), (3, .int x3)] [] M Q = Wp none d 250 84 [(0, .ref 126), (1, .int x1), (2, .int x2), (3, .int x3)] [] (sI M 128 (1 : Int32).toNatClampNeg ((hI M 128 (1 : Int32).toNatClampNeg) + 1)) Q := by
  rw [k250_74 (x0 := 126) F.1 (by rw [m_R3 F]; decide) (by rw [m_R3 F]; decide) (by rw [m_R3 F, m_K128 F]) (by rw [m_R3 F, m_K128 F]; exact h5)]
  simp only [m_R3 F]
theorem m250_88 {d : Nat} {x1 : Int32} {x2 : Int32} {x3 : Int32} {s0 : Int32} {M : hp} {Q : Option Value → hp → Prop} (F : MF M) : Wp none d 250 88 [(0, .ref 126), (1, .int x1), (2, .int x2), (3, .int x3)] [.int s0, .ref 126] M Q = Wp none d 156 0 [(0, .ref 126), (1, .int s0)] [] M (fun r M1 => Wp none d 250 91 [(0, .ref 126), (1, .int x1), (2, .int x2), (3, .int x3)] (r.toList ++ []) M1 Q) := by
  rw [k250_88 (x0 := 126) (s1 := 126) F.1]
theorem m251_0 {d : Nat} {M : hp} {Q : Option Value → hp → Prop} (F : MF M) : Wp none d 251 0 [(0, .ref 126)] [] M Q = Wp none d 251 5 [(0, .ref 126)] [] (sI M 126 0 0) Q := by
  rw [k251_0 (x0 := 126) F.1]
theorem m251_5 {d : Nat} {M : hp} {Q : Option Value → hp → Prop} (F : MF M) (h5 : vin 1 5447 = true) : Wp none d 251 5 [(0, .ref 126)] [] M Q = Wp none d 251 19 [(0, .ref 126), (1, .int (hI M 128 (1 : Int32).toNatClampNeg))] [] (sI M 128 (1 : Int32).toNatClampNeg 0) Q := by
  rw [k251_5 (x0 := 126) F.1 (by rw [m_R3 F]; decide) (by rw [m_R3 F]; decide) (by rw [m_R3 F, m_K128 F]) (by rw [m_R3 F, m_K128 F]; exact h5)]
  simp only [m_R3 F]
theorem m252_4 {d : Nat} {x1 : Int32} {x2 : Int32} {M : hp} {Q : Option Value → hp → Prop} (F : MF M) (h5 : vin 0 5447 = true) : Wp none d 252 4 [(0, .ref 126), (1, .int x1), (2, .int x2)] [] M Q = Wp none d 252 11 [(0, .ref 126), (1, .int x1), (2, .int x2)] [.int (hI M 128 (0 : Int32).toNatClampNeg), .int x2] M Q := by
  rw [k252_4 (x0 := 126) F.1 (by rw [m_R3 F]; decide) (by rw [m_R3 F]; decide) (by rw [m_R3 F, m_K128 F]) (by rw [m_R3 F, m_K128 F]; exact h5)]
  simp only [m_R3 F]
theorem m252_19 {d : Nat} {x1 : Int32} {x2 : Int32} {x3 : Int32} {x4 : Int32} {M : hp} {Q : Option Value → hp → Prop} (F : MF M) (h5 : vin 1 5447 = true) : Wp none d 252 19 [(0, .ref 126), (1, .int x1), (2, .int x2), (3, .int x3), (4, .int x4)] [] M Q = Wp none d 252 27 [(0, .ref 126), (1, .int x1), (2, .int x2), (3, .int x3), (4, .int x4)] [.int (hI M 128 (1 : Int32).toNatClampNeg), .int x4] M Q := by
  rw [k252_19 (x0 := 126) F.1 (by rw [m_R3 F]; decide) (by rw [m_R3 F]; decide) (by rw [m_R3 F, m_K128 F]) (by rw [m_R3 F, m_K128 F]; exact h5)]
  simp only [m_R3 F]
theorem m252_34 {d : Nat} {x1 : Int32} {x2 : Int32} {x3 : Int32} {x4 : Int32} {M : hp} {Q : Option Value → hp → Prop} (F : MF M) (h5 : vin (35 + (2 * x4)) 5447 = true) : Wp none d 252 34 [(0, .ref 126), (1, .int x1), (2, .int x2), (3, .int x3), (4, .int x4)] [] M Q = Wp none d 252 48 [(0, .ref 126), (1, .int x1), (2, .int x2), (3, .int x3), (4, .int x4)] [.int (hI M 128 (35 + (2 * x4)).toNatClampNeg), .int x2, .ref 126] M Q := by
  rw [k252_34 (x0 := 126) F.1 (by rw [m_R3 F]; decide) (by rw [m_R3 F]; decide) (by rw [m_R3 F, m_K128 F]) (by rw [m_R3 F, m_K128 F]; exact h5)]
  simp only [m_R3 F]
theorem m252_48 {d : Nat} {x1 : Int32} {x2 : Int32} {x3 : Int32} {x4 : Int32} {s0 : Int32} {s1 : Int32} {M : hp} {Q : Option Value → hp → Prop} (F : MF M) : Wp none d 252 48 [(0, .ref 126), (1, .int x1), (2, .int x2), (3, .int x3), (4, .int x4)] [.int s0, .int s1, .ref 126] M Q = Wp none d 169 0 [(0, .ref 126), (1, .int s1), (2, .int s0)] [] M (fun r M1 => Wp none d 252 51 [(0, .ref 126), (1, .int x1), (2, .int x2), (3, .int x3), (4, .int x4)] (r.toList ++ []) M1 Q) := by
  rw [k252_48 (x0 := 126) (s2 := 126) F.1]
theorem m252_51 {d : Nat} {x1 : Int32} {x2 : Int32} {x3 : Int32} {x4 : Int32} {s0 : Int32} {M : hp} {Q : Option Value → hp → Prop} (F : MF M) (h5 : vin ((35 + (2 * x4)) + 1) 5447 = true) : Wp none d 252 51 [(0, .ref 126), (1, .int x1), (2, .int x2), (3, .int x3), (4, .int x4)] [.int s0] M Q = Wp none d 252 66 [(0, .ref 126), (1, .int x1), (2, .int x2), (3, .int x3), (4, .int x4)] [.int 1, .int (hI M 128 ((35 + (2 * x4)) + 1).toNatClampNeg), .int s0] M Q := by
  rw [k252_51 (x0 := 126) F.1 (by rw [m_R3 F]; decide) (by rw [m_R3 F]; decide) (by rw [m_R3 F, m_K128 F]) (by rw [m_R3 F, m_K128 F]; exact h5)]
  simp only [m_R3 F]
theorem m253_0 {d : Nat} {M : hp} {Q : Option Value → hp → Prop} (F : MF M) : Wp none d 253 0 [(0, .ref 126)] [] M Q = Wp none d 253 5 [(0, .ref 126)] [] (sI M 126 0 0) Q := by
  rw [k253_0 (x0 := 126) F.1]
theorem m253_6 {d : Nat} {M : hp} {Q : Option Value → hp → Prop} (F : MF M) : Wp none d 253 6 [(0, .ref 126)] [.ref 126] M Q = Wp none d 252 0 [(0, .ref 126)] [] M (fun r M1 => Wp none d 253 9 [(0, .ref 126)] (r.toList ++ []) M1 Q) := by
  rw [k253_6 (x0 := 126) (s0 := 126) F.1]
theorem m254_0 {d : Nat} {x1 : Int32} {M : hp} {Q : Option Value → hp → Prop} (F : MF M) : Wp none d 254 0 [(0, .ref 126), (1, .int x1)] [] M Q = Wp none d 254 5 [(0, .ref 126), (1, .int x1)] [] (sI M 126 0 0) Q := by
  rw [k254_0 (x0 := 126) F.1]
theorem m254_6 {d : Nat} {x1 : Int32} {M : hp} {Q : Option Value → hp → Prop} (F : MF M) : Wp none d 254 6 [(0, .ref 126), (1, .int x1)] [.ref 126] M Q = Wp none d 252 0 [(0, .ref 126)] [] M (fun r M1 => Wp none d 254 9 [(0, .ref 126), (1, .int x1)] (r.toList ++ []) M1 Q) := by
  rw [k254_6 (x0 := 126) (s0 := 126) F.1]
theorem m254_49 {d : Nat} {x1 : Int32} {x2 : Int32} {x3 : Int32} {x4 : Int32} {x5 : Int32} {x6 : Int32} {x7 : Int32} {M : hp} {Q : Option Value → hp → Prop} (F : MF M) (h5 : vin 0 5447 = true) : Wp none d 254 49 [(0, .ref 126), (1, .int x1), (2, .int x2), (3, .int x3), (4, .int x4), (5, .int x5), (6, .int x6), (7, .int x7)] [] M Q = Wp none d 254 57 [(0, .ref 126), (1, .int x1), (2, .int x2), (3, .int x3), (4, .int x4), (5, .int x5), (6, .int x6), (7, .int x7)] [.int (hI M 128 (0 : Int32).toNatClampNeg), .int x7] M Q := by
  rw [k254_49 (x0 := 126) F.1 (by rw [m_R3 F]; decide) (by rw [m_R3 F]; decide) (by rw [m_R3 F, m_K128 F]) (by rw [m_R3 F, m_K128 F]; exact h5)]
  simp only [m_R3 F]
theorem m254_76 {d : Nat} {x1 : Int32} {x2 : Int32} {x3 : Int32} {x4 : Int32} {x5 : Int32} {x6 : Int32} {x7 : Int32} {s0 : Int32} {s1 : Int32} {s3 : Int32} {M : hp} {Q : Option Value → hp → Prop} (F : MF M) : Wp none d 254 76 [(0, .ref 126), (1, .int x1), (2, .int x2), (3, .int x3), (4, .int x4), (5, .int x5), (6, .int x6), (7, .int x7)] [.int s0, .int s1, .ref 126, .int s3] M Q = Wp none d 169 0 [(0, .ref 126), (1, .int s1), (2, .int s0)] [] M (fun r M1 => Wp none d 254 79 [(0, .ref 126), (1, .int x1), (2, .int x2), (3, .int x3), (4, .int x4), (5, .int x5), (6, .int x6), (7, .int x7)] (r.toList ++ [.int s3]) M1 Q) := by
  rw [k254_76 (x0 := 126) (s2 := 126) F.1]
theorem m255_0 {d : Nat} {x1 : Int32} {x2 : Int32} {M : hp} {Q : Option Value → hp → Prop} (F : MF M) : Wp none d 255 0 [(0, .ref 126), (1, .int x1), (2, .int x2)] [] M Q = Wp none d 255 5 [(0, .ref 126), (1, .int x1), (2, .int x2)] [] (sI M 126 0 0) Q := by
  rw [k255_0 (x0 := 126) F.1]
theorem m255_41 {d : Nat} {x1 : Int32} {x2 : Int32} {x3 : Int32} {M : hp} {Q : Option Value → hp → Prop} (F : MF M) : Wp none d 255 41 [(0, .ref 126), (1, .int x1), (2, .int x2), (3, .int x3)] [] M Q = Wp none d 255 47 [(0, .ref 126), (1, .int x1), (2, .int x2), (3, .int x3)] [.int x3, .int x3, .ref 150] M Q := by
  rw [k255_41 (x0 := 126) F.1 (by rw [m_R44 F]; decide)]
  simp only [m_R44 F]
theorem m255_57 {d : Nat} {x1 : Int32} {x2 : Int32} {x3 : Int32} {s0 : Int64} {s1 : Int32} {s2 : Nat} {M : hp} {Q : Option Value → hp → Prop} (F : MF M) (h1 : (hK M s2).1 = 21) (h2 : vin s1 (hK M s2).2 = true) : Wp none d 255 57 [(0, .ref 126), (1, .int x1), (2, .int x2), (3, .int x3)] [.long s0, .int s1, .ref s2] M Q = Wp none d 255 58 [(0, .ref 126), (1, .int x1), (2, .int x2), (3, .int x3)] [] (sL M s2 s1.toNatClampNeg s0) Q := by
  rw [k255_57 (x0 := 126) h1 h2]
theorem m255_64 {d : Nat} {x1 : Int32} {x2 : Int32} {x3 : Int32} {M : hp} {Q : Option Value → hp → Prop} (F : MF M) (h5 : vin 5 5447 = true) : Wp none d 255 64 [(0, .ref 126), (1, .int x1), (2, .int x2), (3, .int x3)] [] M Q = Wp none d 255 74 [(0, .ref 126), (1, .int x1), (2, .int x2), (3, .int (hI M 128 (5 : Int32).toNatClampNeg)), (4, .int 0)] [] M Q := by
  rw [k255_64 (x0 := 126) F.1 (by rw [m_R3 F]; decide) (by rw [m_R3 F]; decide) (by rw [m_R3 F, m_K128 F]) (by rw [m_R3 F, m_K128 F]; exact h5)]
  simp only [m_R3 F]
theorem m255_90 {d : Nat} {x1 : Int32} {x2 : Int32} {x3 : Int32} {x4 : Int32} {x5 : Int32} {M : hp} {Q : Option Value → hp → Prop} (F : MF M) (h4 : vin x5 21 = true) : Wp none d 255 90 [(0, .ref 126), (1, .int x1), (2, .int x2), (3, .int x3), (4, .int x4), (5, .int x5)] [] M Q = Wp none d 255 118 [(0, .ref 126), (1, .int x1), (2, .int x2), (3, .int x3), (4, .int x4), (5, .int x5), (6, .long (hL M 150 x5.toNatClampNeg))] [] (sL M 150 x5.toNatClampNeg (((hL M 150 x5.toNatClampNeg) * ((10 - x3).toInt64)) / 10)) Q := by
  rw [k255_90 (x0 := 126) F.1 (by rw [m_R44 F]; decide) (by rw [m_R44 F, m_K150 F]) (by rw [m_R44 F, m_K150 F]; exact h4)]
  simp only [m_R44 F]
theorem m255_118 {d : Nat} {x1 : Int32} {x2 : Int32} {x3 : Int32} {x4 : Int32} {x5 : Int32} {x6 : Int64} {M : hp} {Q : Option Value → hp → Prop} (F : MF M) (h4 : vin (x5 + 1) 21 = true) : Wp none d 255 118 [(0, .ref 126), (1, .int x1), (2, .int x2), (3, .int x3), (4, .int x4), (5, .int x5), (6, .long x6)] [] M Q = Wp none d 255 139 [(0, .ref 126), (1, .int x1), (2, .int x2), (3, .int x3), (4, .int x4), (5, .int x5), (6, .long x6)] [] (sL M 150 (x5 + 1).toNatClampNeg ((hL M 150 (x5 + 1).toNatClampNeg) + ((x6 * x3.toInt64) / 10))) Q := by
  rw [k255_118 (x0 := 126) F.1 (by rw [m_R44 F]; decide) (by rw [m_R44 F, m_K150 F]) (by rw [m_R44 F, m_K150 F]; exact h4)]
  simp only [m_R44 F]
theorem m255_163 {d : Nat} {x1 : Int32} {x2 : Int32} {x3 : Int32} {x4 : Int64} {x6 : Int32} {M : hp} {Q : Option Value → hp → Prop} (F : MF M) (h4 : vin x6 21 = true) : Wp none d 255 163 [(0, .ref 126), (1, .int x1), (2, .int x2), (3, .int x3), (4, .long x4), (6, .int x6)] [] M Q = Wp none d 255 157 [(0, .ref 126), (1, .int x1), (2, .int x2), (3, .int x3), (4, .long (x4 + (hL M 150 x6.toNatClampNeg))), (6, .int (x6 + 1))] [] M Q := by
  rw [k255_163 (x0 := 126) F.1 (by rw [m_R44 F]; decide) (by rw [m_R44 F, m_K150 F]) (by rw [m_R44 F, m_K150 F]; exact h4)]
  simp only [m_R44 F]
theorem m256_0 {d : Nat} {x1 : Int32} {M : hp} {Q : Option Value → hp → Prop} (F : MF M) (h4 : vin x1 96 = true) : Wp none d 256 0 [(0, .ref 126), (1, .int x1)] [] M Q = Wp none d 256 10 [(0, .ref 126), (1, .int x1)] [] (sI M 152 x1.toNatClampNeg (hI M 126 23)) Q := by
  rw [k256_0 (x0 := 126) F.1 (by rw [m_R46 F]; decide) (by rw [m_R46 F, m_K152 F]) (by rw [m_R46 F, m_K152 F]; exact h4)]
  simp only [m_R46 F]
theorem m256_10 {d : Nat} {x1 : Int32} {M : hp} {Q : Option Value → hp → Prop} (F : MF M) : Wp none d 256 10 [(0, .ref 126), (1, .int x1)] [] M Q = Wp none d 256 14 [(0, .ref 126), (1, .int x1)] [.int (hI M 126 19)] M Q := by
  rw [k256_10 (x0 := 126) F.1]
theorem m256_19 {d : Nat} {x1 : Int32} {s0 : Int32} {M : hp} {Q : Option Value → hp → Prop} (F : MF M) : Wp none d 256 19 [(0, .ref 126), (1, .int x1)] [.int s0, .ref 126] M Q = Wp none d 209 0 [(0, .ref 126), (1, .int s0)] [] M (fun r M1 => Wp none d 256 22 [(0, .ref 126), (1, .int x1)] (r.toList ++ []) M1 Q) := by
  rw [k256_19 (x0 := 126) (s1 := 126) F.1]
theorem m256_22 {d : Nat} {x1 : Int32} {M : hp} {Q : Option Value → hp → Prop} (F : MF M) (h4 : vin (x1 + 1) 96 = true) : Wp none d 256 22 [(0, .ref 126), (1, .int x1)] [] M Q = Q none (sI M 152 (x1 + 1).toNatClampNeg (hI M 126 23)) := by
  rw [k256_22 (x0 := 126) F.1 (by rw [m_R46 F]; decide) (by rw [m_R46 F, m_K152 F]) (by rw [m_R46 F, m_K152 F]; exact h4)]
  simp only [m_R46 F]
theorem m257_0 {d : Nat} {x1 : Int64} {x3 : Int32} {M : hp} {Q : Option Value → hp → Prop} (F : MF M) : Wp none d 257 0 [(0, .ref 126), (1, .long x1), (3, .int x3)] [] M Q = Wp none d 257 4 [(0, .ref 126), (1, .long x1), (3, .int x3)] [.int (hI M 126 19)] M Q := by
  rw [k257_0 (x0 := 126) F.1]
theorem m257_10 {d : Nat} {x1 : Int64} {x3 : Int32} {s0 : Int64} {s2 : Nat} {M : hp} {Q : Option Value → hp → Prop} (F : MF M) : Wp none d 257 10 [(0, .ref 126), (1, .long x1), (3, .int x3)] [.long s0, .ref 126, .ref s2] M Q = Wp none d 190 0 [(0, .ref 126), (1, .long s0)] [] M (fun r M1 => Wp none d 257 13 [(0, .ref 126), (1, .long x1), (3, .int x3)] (r.toList ++ [.ref s2]) M1 Q) := by
  rw [k257_10 (x0 := 126) (s1 := 126) F.1]
theorem m257_13 {d : Nat} {x1 : Int64} {x3 : Int32} {s0 : Int32} {M : hp} {Q : Option Value → hp → Prop} (F : MF M) : Wp none d 257 13 [(0, .ref 126), (1, .long x1), (3, .int x3)] [.int s0, .ref 126] M Q = Wp none d 192 0 [(0, .ref 126), (1, .int s0)] [] M (fun r M1 => Wp none d 257 16 [(0, .ref 126), (1, .long x1), (3, .int x3)] (r.toList ++ []) M1 Q) := by
  rw [k257_13 (x0 := 126) (s1 := 126) F.1]
theorem m257_18 {d : Nat} {x1 : Int64} {x3 : Int32} {s0 : Int32} {M : hp} {Q : Option Value → hp → Prop} (F : MF M) : Wp none d 257 18 [(0, .ref 126), (1, .long x1), (3, .int x3)] [.int s0, .ref 126] M Q = Wp none d 256 0 [(0, .ref 126), (1, .int s0)] [] M (fun r M1 => Wp none d 257 21 [(0, .ref 126), (1, .long x1), (3, .int x3)] (r.toList ++ []) M1 Q) := by
  rw [k257_18 (x0 := 126) (s1 := 126) F.1]
theorem m258_9 {d : Nat} {x1 : Int32} {x2 : Int32} {M : hp} {Q : Option Value → hp → Prop} (F : MF M) (h4 : vin x2 4 = true) : Wp none d 258 9 [(0, .ref 126), (1, .int x1), (2, .int x2)] [] M Q = Wp none d 258 16 [(0, .ref 126), (1, .int x1), (2, .int x2)] [.long (hL M 151 x2.toNatClampNeg), .ref 126] M Q := by
  rw [k258_9 (x0 := 126) F.1 (by rw [m_R45 F]; decide) (by rw [m_R45 F, m_K151 F]) (by rw [m_R45 F, m_K151 F]; exact h4)]
  simp only [m_R45 F]
theorem m258_16 {d : Nat} {x1 : Int32} {x2 : Int32} {s0 : Int64} {M : hp} {Q : Option Value → hp → Prop} (F : MF M) : Wp none d 258 16 [(0, .ref 126), (1, .int x1), (2, .int x2)] [.long s0, .ref 126] M Q = Wp none d 190 0 [(0, .ref 126), (1, .long s0)] [] M (fun r M1 => Wp none d 258 19 [(0, .ref 126), (1, .int x1), (2, .int x2)] (r.toList ++ []) M1 Q) := by
  rw [k258_16 (x0 := 126) (s1 := 126) F.1]
theorem m258_40 {d : Nat} {x1 : Int32} {x2 : Int32} {s0 : Nat} {M : hp} {Q : Option Value → hp → Prop} (F : MF M) : Wp none d 258 40 [(0, .ref 126), (1, .int x1), (2, .int x2)] [.ref s0] M Q = Wp none d 258 46 [(0, .ref 126), (1, .int x1), (2, .int x2)] [.int 12, .int (hI M 126 21), .ref s0] M Q := by
  rw [k258_40 (x0 := 126) F.1]
theorem m258_54 {d : Nat} {x1 : Int32} {x2 : Int32} {s0 : Int32} {M : hp} {Q : Option Value → hp → Prop} (F : MF M) : Wp none d 258 54 [(0, .ref 126), (1, .int x1), (2, .int x2)] [.int s0, .ref 126] M Q = Wp none d 192 0 [(0, .ref 126), (1, .int s0)] [] M (fun r M1 => Wp none d 258 57 [(0, .ref 126), (1, .int x1), (2, .int x2)] (r.toList ++ []) M1 Q) := by
  rw [k258_54 (x0 := 126) (s1 := 126) F.1]
theorem m258_57 {d : Nat} {x1 : Int32} {x2 : Int32} {M : hp} {Q : Option Value → hp → Prop} (F : MF M) : Wp none d 258 57 [(0, .ref 126), (1, .int x1), (2, .int x2)] [] M Q = Wp none d 258 61 [(0, .ref 126), (1, .int x1), (2, .int x2)] [.int (hI M 126 19)] M Q := by
  rw [k258_57 (x0 := 126) F.1]
theorem m258_65 {d : Nat} {x1 : Int32} {x2 : Int32} {M : hp} {Q : Option Value → hp → Prop} (F : MF M) : Wp none d 258 65 [(0, .ref 126), (1, .int x1), (2, .int x2)] [] M Q = Wp none d 258 83 [(0, .ref 126), (1, .int x1), (2, .int (8 * (hI M 126 21)))] [] (sI M 126 21 ((hI M 126 21) + 1)) Q := by
  rw [k258_65 (x0 := 126) F.1]
theorem m258_91 {d : Nat} {x1 : Int32} {x2 : Int32} {x3 : Int32} {M : hp} {Q : Option Value → hp → Prop} (F : MF M) (h4 : vin (x2 + x3) 96 = true) : Wp none d 258 91 [(0, .ref 126), (1, .int x1), (2, .int x2), (3, .int x3)] [] M Q = Wp none d 258 100 [(0, .ref 126), (1, .int x1), (2, .int x2), (3, .int x3)] [] (sI M 152 (x2 + x3).toNatClampNeg 0) Q := by
  rw [k258_91 (x0 := 126) F.1 (by rw [m_R46 F]; decide) (by rw [m_R46 F, m_K152 F]) (by rw [m_R46 F, m_K152 F]; exact h4)]
  simp only [m_R46 F]
theorem m258_106 {d : Nat} {x1 : Int32} {x2 : Int32} {x3 : Int32} {M : hp} {Q : Option Value → hp → Prop} (F : MF M) (h4 : vin x2 96 = true) : Wp none d 258 106 [(0, .ref 126), (1, .int x1), (2, .int x2), (3, .int x3)] [] M Q = Wp none d 258 113 [(0, .ref 126), (1, .int x1), (2, .int x2), (3, .int x3)] [] (sI M 152 x2.toNatClampNeg x1) Q := by
  rw [k258_106 (x0 := 126) F.1 (by rw [m_R46 F]; decide) (by rw [m_R46 F, m_K152 F]) (by rw [m_R46 F, m_K152 F]; exact h4)]
  simp only [m_R46 F]
theorem m258_122 {d : Nat} {x1 : Int32} {x2 : Int32} {x3 : Int32} {s0 : Int32} {M : hp} {Q : Option Value → hp → Prop} (F : MF M) : Wp none d 258 122 [(0, .ref 126), (1, .int x1), (2, .int x2), (3, .int x3)] [.int s0, .ref 126] M Q = Wp none d 256 0 [(0, .ref 126), (1, .int s0)] [] M (fun r M1 => Wp none d 258 125 [(0, .ref 126), (1, .int x1), (2, .int x2), (3, .int x3)] (r.toList ++ []) M1 Q) := by
  rw [k258_122 (x0 := 126) (s1 := 126) F.1]
theorem m258_136 {d : Nat} {x1 : Int32} {x2 : Int32} {x3 : Int32} {s0 : Int32} {s1 : Int64} {M : hp} {Q : Option Value → hp → Prop} (F : MF M) : Wp none d 258 136 [(0, .ref 126), (1, .int x1), (2, .int x2), (3, .int x3)] [.int s0, .long s1, .ref 126] M Q = Wp none d 257 0 [(0, .ref 126), (1, .long s1), (3, .int s0)] [] M (fun r M1 => Wp none d 258 139 [(0, .ref 126), (1, .int x1), (2, .int x2), (3, .int x3)] (r.toList ++ []) M1 Q) := by
  rw [k258_136 (x0 := 126) (s2 := 126) F.1]
theorem m258_151 {d : Nat} {x1 : Int32} {x2 : Int32} {x3 : Int32} {s0 : Int32} {s1 : Int64} {M : hp} {Q : Option Value → hp → Prop} (F : MF M) : Wp none d 258 151 [(0, .ref 126), (1, .int x1), (2, .int x2), (3, .int x3)] [.int s0, .long s1, .ref 126] M Q = Wp none d 257 0 [(0, .ref 126), (1, .long s1), (3, .int s0)] [] M (fun r M1 => Wp none d 258 154 [(0, .ref 126), (1, .int x1), (2, .int x2), (3, .int x3)] (r.toList ++ []) M1 Q) := by
  rw [k258_151 (x0 := 126) (s2 := 126) F.1]
theorem m258_154 {d : Nat} {x1 : Int32} {x2 : Int32} {x3 : Int32} {M : hp} {Q : Option Value → hp → Prop} (F : MF M) (h4 : vin (x2 + 7) 96 = true) : Wp none d 258 154 [(0, .ref 126), (1, .int x1), (2, .int x2), (3, .int x3)] [] M Q = Wp none d 258 164 [(0, .ref 126), (1, .int x1), (2, .int x2), (3, .int x3)] [] (sI M 152 (x2 + 7).toNatClampNeg 1) Q := by
  rw [k258_154 (x0 := 126) F.1 (by rw [m_R46 F]; decide) (by rw [m_R46 F, m_K152 F]) (by rw [m_R46 F, m_K152 F]; exact h4)]
  simp only [m_R46 F]
theorem m258_164 {d : Nat} {x1 : Int32} {x2 : Int32} {x3 : Int32} {M : hp} {Q : Option Value → hp → Prop} (F : MF M) : Wp none d 258 164 [(0, .ref 126), (1, .int x1), (2, .int x2), (3, .int x3)] [] M Q = Wp none d 258 168 [(0, .ref 126), (1, .int x1), (2, .int x2), (3, .int x3)] [.int (hI M 126 19)] M Q := by
  rw [k258_164 (x0 := 126) F.1]
theorem m258_175 {d : Nat} {x1 : Int32} {x2 : Int32} {x3 : Int32} {s0 : Int64} {M : hp} {Q : Option Value → hp → Prop} (F : MF M) : Wp none d 258 175 [(0, .ref 126), (1, .int x1), (2, .int x2), (3, .int x3)] [.long s0, .ref 126] M Q = Wp none d 190 0 [(0, .ref 126), (1, .long s0)] [] M (fun r M1 => Wp none d 258 178 [(0, .ref 126), (1, .int x1), (2, .int x2), (3, .int x3)] (r.toList ++ []) M1 Q) := by
  rw [k258_175 (x0 := 126) (s1 := 126) F.1]
theorem m258_182 {d : Nat} {x1 : Int32} {x2 : Int32} {x3 : Int32} {M : hp} {Q : Option Value → hp → Prop} (F : MF M) : Wp none d 258 182 [(0, .ref 126), (1, .int x1), (2, .int x2), (3, .int x3)] [.ref 126] M Q = Wp none d 189 0 [(0, .ref 126)] [] M (fun r M1 => Wp none d 258 185 [(0, .ref 126), (1, .int x1), (2, .int x2), (3, .int x3)] (r.toList ++ []) M1 Q) := by
  rw [k258_182 (x0 := 126) (s0 := 126) F.1]
theorem m258_185 {d : Nat} {x1 : Int32} {x2 : Int32} {x3 : Int32} {M : hp} {Q : Option Value → hp → Prop} (F : MF M) : Wp none d 258 185 [(0, .ref 126), (1, .int x1), (2, .int x2), (3, .int x3)] [] M Q = Wp none d 258 198 [(0, .ref 126), (1, .int x1), (2, .int x2), (3, .int x3)] [.long 20, .long 1, .ref 126, .int (x2 + 7), .ref 152] M Q := by
  rw [k258_185 (x0 := 126) F.1 (by rw [m_R46 F]; decide)]
  simp only [m_R46 F]
theorem m258_198 {d : Nat} {x1 : Int32} {x2 : Int32} {x3 : Int32} {s0 : Int64} {s1 : Int64} {s3 : Int32} {s4 : Nat} {M : hp} {Q : Option Value → hp → Prop} (F : MF M) : Wp none d 258 198 [(0, .ref 126), (1, .int x1), (2, .int x2), (3, .int x3)] [.long s0, .long s1, .ref 126, .int s3, .ref s4] M Q = Wp none d 193 0 [(0, .ref 126), (1, .long s1), (3, .long s0)] [] M (fun r M1 => Wp none d 258 201 [(0, .ref 126), (1, .int x1), (2, .int x2), (3, .int x3)] (r.toList ++ [.int s3, .ref s4]) M1 Q) := by
  rw [k258_198 (x0 := 126) (s2 := 126) F.1]
theorem m258_201 {d : Nat} {x1 : Int32} {x2 : Int32} {x3 : Int32} {s0 : Int32} {s1 : Int32} {s2 : Nat} {M : hp} {Q : Option Value → hp → Prop} (F : MF M) (h1 : (hK M s2).1 = 20) (h2 : vin s1 (hK M s2).2 = true) : Wp none d 258 201 [(0, .ref 126), (1, .int x1), (2, .int x2), (3, .int x3)] [.int s0, .int s1, .ref s2] M Q = Wp none d 258 202 [(0, .ref 126), (1, .int x1), (2, .int x2), (3, .int x3)] [] (sI M s2 s1.toNatClampNeg s0) Q := by
  rw [k258_201 (x0 := 126) h1 h2]
theorem m258_202 {d : Nat} {x1 : Int32} {x2 : Int32} {x3 : Int32} {M : hp} {Q : Option Value → hp → Prop} (F : MF M) (h4 : vin (x2 + 5) 96 = true) : Wp none d 258 202 [(0, .ref 126), (1, .int x1), (2, .int x2), (3, .int x3)] [] M Q = Wp none d 258 214 [(0, .ref 126), (1, .int x1), (2, .int x2), (3, .int x3)] [] (sI M 152 (x2 + 5).toNatClampNeg (hI M 126 23)) Q := by
  rw [k258_202 (x0 := 126) F.1 (by rw [m_R46 F]; decide) (by rw [m_R46 F, m_K152 F]) (by rw [m_R46 F, m_K152 F]; exact h4)]
  simp only [m_R46 F]
theorem m258_214 {d : Nat} {x1 : Int32} {x2 : Int32} {x3 : Int32} {M : hp} {Q : Option Value → hp → Prop} (F : MF M) : Wp none d 258 214 [(0, .ref 126), (1, .int x1), (2, .int x2), (3, .int x3)] [] M Q = Wp none d 258 218 [(0, .ref 126), (1, .int x1), (2, .int x2), (3, .int x3)] [.int (hI M 126 19)] M Q := by
  rw [k258_214 (x0 := 126) F.1]
theorem m258_225 {d : Nat} {x1 : Int32} {x2 : Int32} {x3 : Int32} {s0 : Int64} {M : hp} {Q : Option Value → hp → Prop} (F : MF M) : Wp none d 258 225 [(0, .ref 126), (1, .int x1), (2, .int x2), (3, .int x3)] [.long s0, .ref 126] M Q = Wp none d 190 0 [(0, .ref 126), (1, .long s0)] [] M (fun r M1 => Wp none d 258 228 [(0, .ref 126), (1, .int x1), (2, .int x2), (3, .int x3)] (r.toList ++ []) M1 Q) := by
  rw [k258_225 (x0 := 126) (s1 := 126) F.1]
theorem m258_232 {d : Nat} {x1 : Int32} {x2 : Int32} {x3 : Int32} {M : hp} {Q : Option Value → hp → Prop} (F : MF M) : Wp none d 258 232 [(0, .ref 126), (1, .int x1), (2, .int x2), (3, .int x3)] [.ref 126] M Q = Wp none d 189 0 [(0, .ref 126)] [] M (fun r M1 => Wp none d 258 235 [(0, .ref 126), (1, .int x1), (2, .int x2), (3, .int x3)] (r.toList ++ []) M1 Q) := by
  rw [k258_232 (x0 := 126) (s0 := 126) F.1]
theorem m258_237 {d : Nat} {x1 : Int32} {x2 : Int32} {x3 : Int32} {s0 : Int32} {M : hp} {Q : Option Value → hp → Prop} (F : MF M) : Wp none d 258 237 [(0, .ref 126), (1, .int x1), (2, .int x2), (3, .int x3)] [.int s0, .ref 126] M Q = Wp none d 209 0 [(0, .ref 126), (1, .int s0)] [] M (fun r M1 => Wp none d 258 240 [(0, .ref 126), (1, .int x1), (2, .int x2), (3, .int x3)] (r.toList ++ []) M1 Q) := by
  rw [k258_237 (x0 := 126) (s1 := 126) F.1]
theorem m258_240 {d : Nat} {x1 : Int32} {x2 : Int32} {x3 : Int32} {M : hp} {Q : Option Value → hp → Prop} (F : MF M) (h4 : vin (x2 + 6) 96 = true) : Wp none d 258 240 [(0, .ref 126), (1, .int x1), (2, .int x2), (3, .int x3)] [] M Q = Q none (sI M 152 (x2 + 6).toNatClampNeg (hI M 126 23)) := by
  rw [k258_240 (x0 := 126) F.1 (by rw [m_R46 F]; decide) (by rw [m_R46 F, m_K152 F]) (by rw [m_R46 F, m_K152 F]; exact h4)]
  simp only [m_R46 F]
theorem m259_0 {d : Nat} {x1 : Int32} {M : hp} {Q : Option Value → hp → Prop} (F : MF M) : Wp none d 259 0 [(0, .ref 126), (1, .int x1)] [] M Q = Wp none d 259 4 [(0, .ref 126), (1, .int x1)] [.int (hI M 126 50)] M Q := by
  rw [k259_0 (x0 := 126) F.1]
theorem m259_7 {d : Nat} {x1 : Int32} {M : hp} {Q : Option Value → hp → Prop} (F : MF M) (h5 : vin x1 96 = true) (h6 : vin (x1 + 1) 96 = true) : Wp none d 259 7 [(0, .ref 126), (1, .int x1)] [] M Q = Wp none d 259 21 [(0, .ref 126), (1, .int x1)] [.int (hI M 152 (x1 + 1).toNatClampNeg), .int (hI M 152 x1.toNatClampNeg)] M Q := by
  rw [k259_7 (x0 := 126) F.1 (by rw [m_R46 F]; decide) (by rw [m_R46 F]; decide) (by rw [m_R46 F, m_K152 F]) (by rw [m_R46 F, m_K152 F]; exact h5) (by rw [m_R46 F, m_K152 F]; exact h6)]
  simp only [m_R46 F]
theorem m259_26 {d : Nat} {x1 : Int32} {M : hp} {Q : Option Value → hp → Prop} (F : MF M) : Wp none d 259 26 [(0, .ref 126), (1, .int x1)] [] M Q = Wp none d 259 31 [(0, .ref 126), (1, .int x1)] [] (sI M 126 20 1) Q := by
  rw [k259_26 (x0 := 126) F.1]
theorem m259_31 {d : Nat} {x1 : Int32} {M : hp} {Q : Option Value → hp → Prop} (F : MF M) (h5 : vin x1 96 = true) (h6 : vin (x1 + 1) 96 = true) : Wp none d 259 31 [(0, .ref 126), (1, .int x1)] [] M Q = Wp none d 259 46 [(0, .ref 126), (1, .int x1)] [.int (hI M 152 (x1 + 1).toNatClampNeg), .int (hI M 152 x1.toNatClampNeg), .ref 126] M Q := by
  rw [k259_31 (x0 := 126) F.1 (by rw [m_R46 F]; decide) (by rw [m_R46 F]; decide) (by rw [m_R46 F, m_K152 F]) (by rw [m_R46 F, m_K152 F]; exact h5) (by rw [m_R46 F, m_K152 F]; exact h6)]
  simp only [m_R46 F]
theorem m259_46 {d : Nat} {x1 : Int32} {s0 : Int32} {s1 : Int32} {M : hp} {Q : Option Value → hp → Prop} (F : MF M) : Wp none d 259 46 [(0, .ref 126), (1, .int x1)] [.int s0, .int s1, .ref 126] M Q = Wp none d 217 0 [(0, .ref 126), (1, .int s1), (2, .int s0)] [] M (fun r M1 => Wp none d 259 49 [(0, .ref 126), (1, .int x1)] (r.toList ++ []) M1 Q) := by
  rw [k259_46 (x0 := 126) (s2 := 126) F.1]
theorem m259_49 {d : Nat} {x1 : Int32} {M : hp} {Q : Option Value → hp → Prop} (F : MF M) : Wp none d 259 49 [(0, .ref 126), (1, .int x1)] [] M Q = Wp none d 259 54 [(0, .ref 126), (1, .int x1)] [] (sI M 126 20 0) Q := by
  rw [k259_49 (x0 := 126) F.1]
theorem m259_54 {d : Nat} {x1 : Int32} {M : hp} {Q : Option Value → hp → Prop} (F : MF M) (h2 : (hI M 126 38) = 0 ∨ (hI M 126 38) = 1) : Wp none d 259 54 [(0, .ref 126), (1, .int x1)] [] M Q = Wp none d 259 62 [(0, .ref 126), (1, .int x1)] [] (sI M 126 50 (hI M 126 38)) Q := by
  rw [k259_54 (x0 := 126) F.1 h2]
theorem m259_62 {d : Nat} {x1 : Int32} {M : hp} {Q : Option Value → hp → Prop} (F : MF M) : Wp none d 259 62 [(0, .ref 126), (1, .int x1)] [] M Q = Q (some (.int ((hL M 126 39).toInt32))) M := by
  rw [k259_62 (x0 := 126) F.1]
theorem m260_31 {d : Nat} {x1 : Int32} {x2 : Int32} {x3 : Int32} {s0 : Int32} {s1 : Int32} {M : hp} {Q : Option Value → hp → Prop} (F : MF M) : Wp none d 260 31 [(0, .ref 126), (1, .int x1), (2, .int x2), (3, .int x3)] [.int s0, .int s1, .ref 126] M Q = Wp none d 226 0 [(0, .ref 126), (1, .int s1), (2, .int s0)] [] M (fun r M1 => Wp none d 260 34 [(0, .ref 126), (1, .int x1), (2, .int x2), (3, .int x3)] (r.toList ++ []) M1 Q) := by
  rw [k260_31 (x0 := 126) (s2 := 126) F.1]
theorem m260_37 {d : Nat} {x1 : Int32} {x2 : Int32} {x3 : Int32} {s0 : Int32} {M : hp} {Q : Option Value → hp → Prop} (F : MF M) : Wp none d 260 37 [(0, .ref 126), (1, .int x1), (2, .int x2), (3, .int x3)] [.int s0, .ref 126] M Q = Wp none d 228 0 [(0, .ref 126), (1, .int s0)] [] M (fun r M1 => Wp none d 260 40 [(0, .ref 126), (1, .int x1), (2, .int x2), (3, .int x3)] (r.toList ++ []) M1 Q) := by
  rw [k260_37 (x0 := 126) (s1 := 126) F.1]
theorem m260_44 {d : Nat} {x1 : Int32} {x2 : Int32} {x3 : Int32} {s0 : Int32} {s1 : Int32} {M : hp} {Q : Option Value → hp → Prop} (F : MF M) : Wp none d 260 44 [(0, .ref 126), (1, .int x1), (2, .int x2), (3, .int x3)] [.int s0, .int s1, .ref 126] M Q = Wp none d 230 0 [(0, .ref 126), (1, .int s1), (2, .int s0)] [] M (fun r M1 => Wp none d 260 47 [(0, .ref 126), (1, .int x1), (2, .int x2), (3, .int x3)] (r.toList ++ []) M1 Q) := by
  rw [k260_44 (x0 := 126) (s2 := 126) F.1]
theorem m260_49 {d : Nat} {x1 : Int32} {x2 : Int32} {x3 : Int32} {M : hp} {Q : Option Value → hp → Prop} (F : MF M) : Wp none d 260 49 [(0, .ref 126), (1, .int x1), (2, .int x2), (3, .int x3)] [.ref 126] M Q = Wp none d 233 0 [(0, .ref 126)] [] M (fun r M1 => Wp none d 260 52 [(0, .ref 126), (1, .int x1), (2, .int x2), (3, .int x3)] (r.toList ++ []) M1 Q) := by
  rw [k260_49 (x0 := 126) (s0 := 126) F.1]
theorem m261_0 {d : Nat} {x1 : Int32} {M : hp} {Q : Option Value → hp → Prop} (F : MF M) (h6 : vin 4 5447 = true) (h8 : vin 1 13 = true) : Wp none d 261 0 [(0, .ref 126), (1, .int x1)] [] M Q = Wp none d 261 13 [(0, .ref 126), (1, .int x1)] [] (sL M 145 (1 : Int32).toNatClampNeg ((hI M 128 (4 : Int32).toNatClampNeg).toInt64)) Q := by
  rw [k261_0 (x0 := 126) F.1 (by rw [m_R36 F]; decide) (by rw [m_R3 F]; decide) (by rw [m_R3 F]; decide) (by rw [m_R3 F, m_K128 F]) (by rw [m_R3 F, m_K128 F]; exact h6) (by rw [m_R36 F, m_K145 F]) (by rw [m_R36 F, m_K145 F]; exact h8)]
  simp only [m_R36 F, m_R3 F]
theorem m261_13 {d : Nat} {x1 : Int32} {M : hp} {Q : Option Value → hp → Prop} (F : MF M) (h4 : vin 2 13 = true) : Wp none d 261 13 [(0, .ref 126), (1, .int x1)] [] M Q = Wp none d 261 24 [(0, .ref 126), (1, .int x1)] [] (sL M 145 (2 : Int32).toNatClampNeg ((hI M 126 47).toInt64)) Q := by
  rw [k261_13 (x0 := 126) F.1 (by rw [m_R36 F]; decide) (by rw [m_R36 F, m_K145 F]) (by rw [m_R36 F, m_K145 F]; exact h4)]
  simp only [m_R36 F]
theorem m261_24 {d : Nat} {x1 : Int32} {M : hp} {Q : Option Value → hp → Prop} (F : MF M) (h4 : vin 3 13 = true) : Wp none d 261 24 [(0, .ref 126), (1, .int x1)] [] M Q = Wp none d 261 35 [(0, .ref 126), (1, .int x1)] [] (sL M 145 (3 : Int32).toNatClampNeg ((hI M 126 48).toInt64)) Q := by
  rw [k261_24 (x0 := 126) F.1 (by rw [m_R36 F]; decide) (by rw [m_R36 F, m_K145 F]) (by rw [m_R36 F, m_K145 F]; exact h4)]
  simp only [m_R36 F]
theorem m261_35 {d : Nat} {x1 : Int32} {M : hp} {Q : Option Value → hp → Prop} (F : MF M) : Wp none d 261 35 [(0, .ref 126), (1, .int x1)] [] M Q = Wp none d 261 41 [(0, .ref 126), (1, .int x1)] [.ref 126, .int 4, .ref 145] M Q := by
  rw [k261_35 (x0 := 126) F.1 (by rw [m_R36 F]; decide)]
  simp only [m_R36 F]
theorem m261_41 {d : Nat} {x1 : Int32} {s1 : Int32} {s2 : Nat} {M : hp} {Q : Option Value → hp → Prop} (F : MF M) : Wp none d 261 41 [(0, .ref 126), (1, .int x1)] [.ref 126, .int s1, .ref s2] M Q = Wp none d 172 0 [(0, .ref 126)] [] M (fun r M1 => Wp none d 261 44 [(0, .ref 126), (1, .int x1)] (r.toList ++ [.int s1, .ref s2]) M1 Q) := by
  rw [k261_41 (x0 := 126) (s0 := 126) F.1]
theorem m261_47 {d : Nat} {x1 : Int32} {s0 : Int32} {s1 : Int32} {s2 : Nat} {M : hp} {Q : Option Value → hp → Prop} (F : MF M) (h1 : (hK M s2).1 = 21) (h2 : vin s1 (hK M s2).2 = true) : Wp none d 261 47 [(0, .ref 126), (1, .int x1)] [.int s0, .int s1, .ref s2] M Q = Wp none d 261 49 [(0, .ref 126), (1, .int x1)] [] (sL M s2 s1.toNatClampNeg s0.toInt64) Q := by
  rw [k261_47 (x0 := 126) h1 h2]
theorem m261_49 {d : Nat} {x1 : Int32} {M : hp} {Q : Option Value → hp → Prop} (F : MF M) : Wp none d 261 49 [(0, .ref 126), (1, .int x1)] [] M Q = Wp none d 261 54 [(0, .ref 126), (1, .int x1)] [] (sI M 126 50 0) Q := by
  rw [k261_49 (x0 := 126) F.1]
theorem m261_54 {d : Nat} {x1 : Int32} {M : hp} {Q : Option Value → hp → Prop} (F : MF M) (h5 : vin (x1 + 5) 96 = true) (h6 : vin (x1 + 6) 96 = true) : Wp none d 261 54 [(0, .ref 126), (1, .int x1)] [] M Q = Wp none d 261 71 [(0, .ref 126), (1, .int x1)] [.int (hI M 152 (x1 + 6).toNatClampNeg), .int (hI M 152 (x1 + 5).toNatClampNeg)] M Q := by
  rw [k261_54 (x0 := 126) F.1 (by rw [m_R46 F]; decide) (by rw [m_R46 F]; decide) (by rw [m_R46 F, m_K152 F]) (by rw [m_R46 F, m_K152 F]; exact h5) (by rw [m_R46 F, m_K152 F]; exact h6)]
  simp only [m_R46 F]
theorem m261_78 {d : Nat} {x1 : Int32} {s0 : Int32} {M : hp} {Q : Option Value → hp → Prop} (F : MF M) : Wp none d 261 78 [(0, .ref 126), (1, .int x1)] [.int s0, .ref 126] M Q = Wp none d 259 0 [(0, .ref 126), (1, .int s0)] [] M (fun r M1 => Wp none d 261 81 [(0, .ref 126), (1, .int x1)] (r.toList ++ []) M1 Q) := by
  rw [k261_78 (x0 := 126) (s1 := 126) F.1]
theorem m261_81 {d : Nat} {x1 : Int32} {s0 : Int32} {M : hp} {Q : Option Value → hp → Prop} (F : MF M) : Wp none d 261 81 [(0, .ref 126), (1, .int x1)] [.int s0] M Q = Wp none d 261 86 [(0, .ref 126), (1, .int x1), (2, .int s0)] [.int (hI M 126 50)] M Q := by
  rw [k261_81 (x0 := 126) F.1]
theorem m261_99 {d : Nat} {x1 : Int32} {s0 : Int32} {M : hp} {Q : Option Value → hp → Prop} (F : MF M) : Wp none d 261 99 [(0, .ref 126), (1, .int x1)] [.int s0, .ref 126] M Q = Wp none d 259 0 [(0, .ref 126), (1, .int s0)] [] M (fun r M1 => Wp none d 261 102 [(0, .ref 126), (1, .int x1)] (r.toList ++ []) M1 Q) := by
  rw [k261_99 (x0 := 126) (s1 := 126) F.1]
theorem m261_107 {d : Nat} {x1 : Int32} {x2 : Int32} {s0 : Int32} {M : hp} {Q : Option Value → hp → Prop} (F : MF M) : Wp none d 261 107 [(0, .ref 126), (1, .int x1), (2, .int x2)] [.int s0, .ref 126] M Q = Wp none d 259 0 [(0, .ref 126), (1, .int s0)] [] M (fun r M1 => Wp none d 261 110 [(0, .ref 126), (1, .int x1), (2, .int x2)] (r.toList ++ []) M1 Q) := by
  rw [k261_107 (x0 := 126) (s1 := 126) F.1]
theorem m261_110 {d : Nat} {x1 : Int32} {x2 : Int32} {s0 : Int32} {M : hp} {Q : Option Value → hp → Prop} (F : MF M) : Wp none d 261 110 [(0, .ref 126), (1, .int x1), (2, .int x2)] [.int s0] M Q = Wp none d 261 115 [(0, .ref 126), (1, .int x1), (2, .int x2), (3, .int s0)] [.int (hI M 126 50)] M Q := by
  rw [k261_110 (x0 := 126) F.1]
theorem m261_121 {d : Nat} {x1 : Int32} {x2 : Int32} {x3 : Int32} {M : hp} {Q : Option Value → hp → Prop} (F : MF M) (h5 : vin x1 96 = true) : Wp none d 261 121 [(0, .ref 126), (1, .int x1), (2, .int x2), (3, .int x3)] [] M Q = Wp none d 261 130 [(0, .ref 126), (1, .int x1), (2, .int x2), (3, .int x3)] [.int x3, .int x2, .int (hI M 152 x1.toNatClampNeg), .ref 126] M Q := by
  rw [k261_121 (x0 := 126) F.1 (by rw [m_R46 F]; decide) (by rw [m_R46 F]; decide) (by rw [m_R46 F, m_K152 F]) (by rw [m_R46 F, m_K152 F]; exact h5)]
  simp only [m_R46 F]
theorem m261_130 {d : Nat} {x1 : Int32} {x2 : Int32} {x3 : Int32} {s0 : Int32} {s1 : Int32} {s2 : Int32} {M : hp} {Q : Option Value → hp → Prop} (F : MF M) : Wp none d 261 130 [(0, .ref 126), (1, .int x1), (2, .int x2), (3, .int x3)] [.int s0, .int s1, .int s2, .ref 126] M Q = Wp none d 260 0 [(0, .ref 126), (1, .int s2), (2, .int s1), (3, .int s0)] [] M (fun r M1 => Wp none d 261 133 [(0, .ref 126), (1, .int x1), (2, .int x2), (3, .int x3)] (r.toList ++ []) M1 Q) := by
  rw [k261_130 (x0 := 126) (s3 := 126) F.1]
theorem m261_143 {d : Nat} {x1 : Int32} {x2 : Int32} {x3 : Int32} {x4 : Int32} {M : hp} {Q : Option Value → hp → Prop} (F : MF M) (h5 : vin x1 96 = true) : Wp none d 261 143 [(0, .ref 126), (1, .int x1), (2, .int x2), (3, .int x3), (4, .int x4)] [] M Q = Wp none d 261 151 [(0, .ref 126), (1, .int x1), (2, .int x2), (3, .int x3), (4, .int x4)] [.int 3, .int (hI M 152 x1.toNatClampNeg), .ref 126] M Q := by
  rw [k261_143 (x0 := 126) F.1 (by rw [m_R46 F]; decide) (by rw [m_R46 F]; decide) (by rw [m_R46 F, m_K152 F]) (by rw [m_R46 F, m_K152 F]; exact h5)]
  simp only [m_R46 F]
theorem m261_159 {d : Nat} {x1 : Int32} {x2 : Int32} {x3 : Int32} {x4 : Int32} {s0 : Nat} {M : hp} {Q : Option Value → hp → Prop} (F : MF M) : Wp none d 261 159 [(0, .ref 126), (1, .int x1), (2, .int x2), (3, .int x3), (4, .int x4)] [.ref s0] M Q = Wp none d 261 163 [(0, .ref 126), (1, .int x1), (2, .int x2), (3, .int x3), (4, .int x4)] [.int (hI M 126 48), .ref s0] M Q := by
  rw [k261_159 (x0 := 126) F.1]
theorem m261_163 {d : Nat} {x1 : Int32} {x2 : Int32} {x3 : Int32} {x4 : Int32} {s0 : Int32} {M : hp} {Q : Option Value → hp → Prop} (F : MF M) : Wp none d 261 163 [(0, .ref 126), (1, .int x1), (2, .int x2), (3, .int x3), (4, .int x4)] [.int s0, .ref 126] M Q = Wp none d 261 166 [(0, .ref 126), (1, .int x1), (2, .int x2), (3, .int x3), (4, .int x4)] [] (sI M 126 48 s0) Q := by
  rw [k261_163 (x0 := 126) (s1 := 126) F.1]
theorem m261_166 {d : Nat} {x1 : Int32} {x2 : Int32} {x3 : Int32} {x4 : Int32} {M : hp} {Q : Option Value → hp → Prop} (F : MF M) : Wp none d 261 166 [(0, .ref 126), (1, .int x1), (2, .int x2), (3, .int x3), (4, .int x4)] [] M Q = Wp none d 261 176 [(0, .ref 126), (1, .int x1), (2, .int x2), (3, .int x3), (4, .int x4)] [] (sI M 126 47 ((hI M 126 47) + 1)) Q := by
  rw [k261_166 (x0 := 126) F.1]
theorem m262_0 {d : Nat} {M : hp} {Q : Option Value → hp → Prop} (F : MF M) : Wp none d 262 0 [(0, .ref 126)] [] M Q = Wp none d 262 5 [(0, .ref 126)] [] (sI M 126 0 0) Q := by
  rw [k262_0 (x0 := 126) F.1]
theorem m262_5 {d : Nat} {M : hp} {Q : Option Value → hp → Prop} (F : MF M) : Wp none d 262 5 [(0, .ref 126)] [] M Q = Wp none d 262 10 [(0, .ref 126)] [] (sI M 126 49 (-1)) Q := by
  rw [k262_5 (x0 := 126) F.1]
theorem m262_12 {d : Nat} {s0 : Int32} {M : hp} {Q : Option Value → hp → Prop} (F : MF M) : Wp none d 262 12 [(0, .ref 126)] [.int s0, .ref 126] M Q = Wp none d 210 0 [(0, .ref 126), (1, .int s0)] [] M (fun r M1 => Wp none d 262 15 [(0, .ref 126)] (r.toList ++ []) M1 Q) := by
  rw [k262_12 (x0 := 126) (s1 := 126) F.1]
theorem m262_16 {d : Nat} {M : hp} {Q : Option Value → hp → Prop} (F : MF M) : Wp none d 262 16 [(0, .ref 126)] [.ref 126] M Q = Wp none d 258 0 [(0, .ref 126)] [] M (fun r M1 => Wp none d 262 19 [(0, .ref 126)] (r.toList ++ []) M1 Q) := by
  rw [k262_16 (x0 := 126) (s0 := 126) F.1]
theorem m262_19 {d : Nat} {M : hp} {Q : Option Value → hp → Prop} (F : MF M) : Wp none d 262 19 [(0, .ref 126)] [] M Q = Wp none d 262 23 [(0, .ref 126)] [.int (hI M 126 19)] M Q := by
  rw [k262_19 (x0 := 126) F.1]
theorem m262_29 {d : Nat} {s0 : Int32} {M : hp} {Q : Option Value → hp → Prop} (F : MF M) : Wp none d 262 29 [(0, .ref 126)] [.int s0, .ref 126] M Q = Wp none d 191 0 [(0, .ref 126), (1, .int s0)] [] M (fun r M1 => Wp none d 262 32 [(0, .ref 126)] (r.toList ++ []) M1 Q) := by
  rw [k262_29 (x0 := 126) (s1 := 126) F.1]
theorem m262_36 {d : Nat} {M : hp} {Q : Option Value → hp → Prop} (F : MF M) : Wp none d 262 36 [(0, .ref 126)] [.ref 126] M Q = Wp none d 189 0 [(0, .ref 126)] [] M (fun r M1 => Wp none d 262 39 [(0, .ref 126)] (r.toList ++ []) M1 Q) := by
  rw [k262_36 (x0 := 126) (s0 := 126) F.1]
theorem m262_40 {d : Nat} {M : hp} {Q : Option Value → hp → Prop} (F : MF M) : Wp none d 262 40 [(0, .ref 126)] [.ref 126] M Q = Wp none d 258 0 [(0, .ref 126)] [] M (fun r M1 => Wp none d 262 43 [(0, .ref 126)] (r.toList ++ []) M1 Q) := by
  rw [k262_40 (x0 := 126) (s0 := 126) F.1]
theorem m262_47 {d : Nat} {M : hp} {Q : Option Value → hp → Prop} (F : MF M) : Wp none d 262 47 [(0, .ref 126)] [.ref 126] M Q = Wp none d 211 0 [(0, .ref 126)] [] M (fun r M1 => Wp none d 262 50 [(0, .ref 126)] (r.toList ++ []) M1 Q) := by
  rw [k262_47 (x0 := 126) (s0 := 126) F.1]
theorem m262_50 {d : Nat} {M : hp} {Q : Option Value → hp → Prop} (F : MF M) : Wp none d 262 50 [(0, .ref 126)] [] M Q = Wp none d 262 54 [(0, .ref 126)] [.int (hI M 126 19)] M Q := by
  rw [k262_50 (x0 := 126) F.1]
theorem m262_60 {d : Nat} {s0 : Int32} {M : hp} {Q : Option Value → hp → Prop} (F : MF M) : Wp none d 262 60 [(0, .ref 126)] [.int s0, .ref 126] M Q = Wp none d 156 0 [(0, .ref 126), (1, .int s0)] [] M (fun r M1 => Wp none d 262 63 [(0, .ref 126)] (r.toList ++ []) M1 Q) := by
  rw [k262_60 (x0 := 126) (s1 := 126) F.1]
theorem m262_67 {d : Nat} {s0 : Int32} {M : hp} {Q : Option Value → hp → Prop} (F : MF M) : Wp none d 262 67 [(0, .ref 126)] [.int s0, .ref 126] M Q = Wp none d 159 0 [(0, .ref 126), (1, .int s0)] [] M (fun r M1 => Wp none d 262 70 [(0, .ref 126)] (r.toList ++ []) M1 Q) := by
  rw [k262_67 (x0 := 126) (s1 := 126) F.1]
theorem m262_70 {d : Nat} {M : hp} {Q : Option Value → hp → Prop} (F : MF M) : Wp none d 262 70 [(0, .ref 126)] [] M Q = Wp none d 262 77 [(0, .ref 126), (1, .int (hI M 126 8)), (2, .int 0)] [] M Q := by
  rw [k262_70 (x0 := 126) F.1]
theorem m262_84 {d : Nat} {x1 : Int32} {x2 : Int32} {M : hp} {Q : Option Value → hp → Prop} (F : MF M) (h6 : vin x2 306 = true) (h8 : vin x2 272 = true) : Wp none d 262 84 [(0, .ref 126), (1, .int x1), (2, .int x2)] [] M Q = Wp none d 262 96 [(0, .ref 126), (1, .int x1), (2, .int x2)] [] (sI M 133 x2.toNatClampNeg (hI M 131 x2.toNatClampNeg)) Q := by
  rw [k262_84 (x0 := 126) F.1 (by rw [m_R9 F]; decide) (by rw [m_R6 F]; decide) (by rw [m_R6 F]; decide) (by rw [m_R6 F, m_K131 F]) (by rw [m_R6 F, m_K131 F]; exact h6) (by rw [m_R9 F, m_K133 F]) (by rw [m_R9 F, m_K133 F]; exact h8)]
  simp only [m_R9 F, m_R6 F]
theorem m262_110 {d : Nat} {x1 : Int32} {x2 : Int32} {M : hp} {Q : Option Value → hp → Prop} (F : MF M) (h6 : vin x2 16 = true) (h8 : vin x2 16 = true) : Wp none d 262 110 [(0, .ref 126), (1, .int x1), (2, .int x2)] [] M Q = Wp none d 262 122 [(0, .ref 126), (1, .int x1), (2, .int x2)] [] (sI M 134 x2.toNatClampNeg (hI M 132 x2.toNatClampNeg)) Q := by
  rw [k262_110 (x0 := 126) F.1 (by rw [m_R10 F]; decide) (by rw [m_R7 F]; decide) (by rw [m_R7 F]; decide) (by rw [m_R7 F, m_K132 F]) (by rw [m_R7 F, m_K132 F]; exact h6) (by rw [m_R10 F, m_K134 F]) (by rw [m_R10 F, m_K134 F]; exact h8)]
  simp only [m_R10 F, m_R7 F]
theorem m262_128 {d : Nat} {x1 : Int32} {x2 : Int32} {M : hp} {Q : Option Value → hp → Prop} (F : MF M) : Wp none d 262 128 [(0, .ref 126), (1, .int x1), (2, .int x2)] [] M Q = Wp none d 262 133 [(0, .ref 126), (1, .int x1), (2, .int x2)] [] (sI M 126 47 0) Q := by
  rw [k262_128 (x0 := 126) F.1]
theorem m262_133 {d : Nat} {x1 : Int32} {x2 : Int32} {M : hp} {Q : Option Value → hp → Prop} (F : MF M) : Wp none d 262 133 [(0, .ref 126), (1, .int x1), (2, .int x2)] [] M Q = Wp none d 262 138 [(0, .ref 126), (1, .int x1), (2, .int x2)] [] (sI M 126 48 (-1)) Q := by
  rw [k262_133 (x0 := 126) F.1]
theorem m262_140 {d : Nat} {x1 : Int32} {x2 : Int32} {M : hp} {Q : Option Value → hp → Prop} (F : MF M) : Wp none d 262 140 [(0, .ref 126), (1, .int x1), (2, .int x2)] [] M Q = Wp none d 262 145 [(0, .ref 126), (1, .int x1), (2, .int x2)] [.int (hI M 126 21), .int x2] M Q := by
  rw [k262_140 (x0 := 126) F.1]
theorem m262_150 {d : Nat} {x1 : Int32} {x2 : Int32} {x3 : Int32} {M : hp} {Q : Option Value → hp → Prop} (F : MF M) (h5 : vin ((8 * x2) + 7) 96 = true) : Wp none d 262 150 [(0, .ref 126), (1, .int x1), (2, .int x2), (3, .int x3)] [] M Q = Wp none d 262 163 [(0, .ref 126), (1, .int x1), (2, .int x2), (3, .int x3)] [.int (hI M 152 ((8 * x2) + 7).toNatClampNeg), .int x3] M Q := by
  rw [k262_150 (x0 := 126) F.1 (by rw [m_R46 F]; decide) (by rw [m_R46 F]; decide) (by rw [m_R46 F, m_K152 F]) (by rw [m_R46 F, m_K152 F]; exact h5)]
  simp only [m_R46 F]
theorem m262_171 {d : Nat} {x1 : Int32} {x2 : Int32} {x3 : Int32} {s0 : Int32} {M : hp} {Q : Option Value → hp → Prop} (F : MF M) : Wp none d 262 171 [(0, .ref 126), (1, .int x1), (2, .int x2), (3, .int x3)] [.int s0, .ref 126] M Q = Wp none d 261 0 [(0, .ref 126), (1, .int s0)] [] M (fun r M1 => Wp none d 262 174 [(0, .ref 126), (1, .int x1), (2, .int x2), (3, .int x3)] (r.toList ++ []) M1 Q) := by
  rw [k262_171 (x0 := 126) (s1 := 126) F.1]
theorem m262_179 {d : Nat} {x1 : Int32} {x2 : Int32} {x3 : Int32} {s0 : Int32} {M : hp} {Q : Option Value → hp → Prop} (F : MF M) : Wp none d 262 179 [(0, .ref 126), (1, .int x1), (2, .int x2), (3, .int x3)] [.int s0, .ref 126] M Q = Wp none d 263 0 [(0, .ref 126), (1, .int s0)] [] M (fun r M1 => Wp none d 262 182 [(0, .ref 126), (1, .int x1), (2, .int x2), (3, .int x3)] (r.toList ++ []) M1 Q) := by
  rw [k262_179 (x0 := 126) (s1 := 126) F.1]
theorem m262_182 {d : Nat} {x1 : Int32} {x2 : Int32} {x3 : Int32} {M : hp} {Q : Option Value → hp → Prop} (F : MF M) : Wp none d 262 182 [(0, .ref 126), (1, .int x1), (2, .int x2), (3, .int x3)] [] M Q = Wp none d 262 187 [(0, .ref 126), (1, .int x1), (2, .int x2), (3, .int x3)] [] (sI M 126 49 x2) Q := by
  rw [k262_182 (x0 := 126) F.1]
theorem m262_190 {d : Nat} {x1 : Int32} {x2 : Int32} {x3 : Int32} {s0 : Int32} {M : hp} {Q : Option Value → hp → Prop} (F : MF M) : Wp none d 262 190 [(0, .ref 126), (1, .int x1), (2, .int x2), (3, .int x3)] [.int s0, .ref 126] M Q = Wp none d 156 0 [(0, .ref 126), (1, .int s0)] [] M (fun r M1 => Wp none d 262 193 [(0, .ref 126), (1, .int x1), (2, .int x2), (3, .int x3)] (r.toList ++ []) M1 Q) := by
  rw [k262_190 (x0 := 126) (s1 := 126) F.1]
theorem m262_206 {d : Nat} {x1 : Int32} {x2 : Int32} {M : hp} {Q : Option Value → hp → Prop} (F : MF M) : Wp none d 262 206 [(0, .ref 126), (1, .int x1), (2, .int x2)] [] M Q = Wp none d 262 211 [(0, .ref 126), (1, .int x1), (2, .int x2)] [.int (hI M 126 47), .ref 126] M Q := by
  rw [k262_206 (x0 := 126) F.1]
theorem m262_211 {d : Nat} {x1 : Int32} {x2 : Int32} {s0 : Int32} {M : hp} {Q : Option Value → hp → Prop} (F : MF M) : Wp none d 262 211 [(0, .ref 126), (1, .int x1), (2, .int x2)] [.int s0, .ref 126] M Q = Wp none d 156 0 [(0, .ref 126), (1, .int s0)] [] M (fun r M1 => Wp none d 262 214 [(0, .ref 126), (1, .int x1), (2, .int x2)] (r.toList ++ []) M1 Q) := by
  rw [k262_211 (x0 := 126) (s1 := 126) F.1]
theorem m263_3 {d : Nat} {x1 : Int32} {s0 : Int32} {M : hp} {Q : Option Value → hp → Prop} (F : MF M) : Wp none d 263 3 [(0, .ref 126), (1, .int x1)] [.int s0, .ref 126] M Q = Wp none d 160 0 [(0, .ref 126), (1, .int s0)] [] M (fun r M1 => Wp none d 263 6 [(0, .ref 126), (1, .int x1)] (r.toList ++ []) M1 Q) := by
  rw [k263_3 (x0 := 126) (s1 := 126) F.1]
theorem m263_15 {d : Nat} {x1 : Int32} {x2 : Int32} {M : hp} {Q : Option Value → hp → Prop} (F : MF M) (h6 : vin x2 272 = true) (h8 : vin x2 306 = true) : Wp none d 263 15 [(0, .ref 126), (1, .int x1), (2, .int x2)] [] M Q = Wp none d 263 27 [(0, .ref 126), (1, .int x1), (2, .int x2)] [] (sI M 131 x2.toNatClampNeg (hI M 133 x2.toNatClampNeg)) Q := by
  rw [k263_15 (x0 := 126) F.1 (by rw [m_R6 F]; decide) (by rw [m_R9 F]; decide) (by rw [m_R9 F]; decide) (by rw [m_R9 F, m_K133 F]) (by rw [m_R9 F, m_K133 F]; exact h6) (by rw [m_R6 F, m_K131 F]) (by rw [m_R6 F, m_K131 F]; exact h8)]
  simp only [m_R6 F, m_R9 F]
theorem m263_41 {d : Nat} {x1 : Int32} {x2 : Int32} {M : hp} {Q : Option Value → hp → Prop} (F : MF M) (h6 : vin x2 16 = true) (h8 : vin x2 16 = true) : Wp none d 263 41 [(0, .ref 126), (1, .int x1), (2, .int x2)] [] M Q = Wp none d 263 53 [(0, .ref 126), (1, .int x1), (2, .int x2)] [] (sI M 132 x2.toNatClampNeg (hI M 134 x2.toNatClampNeg)) Q := by
  rw [k263_41 (x0 := 126) F.1 (by rw [m_R7 F]; decide) (by rw [m_R10 F]; decide) (by rw [m_R10 F]; decide) (by rw [m_R10 F, m_K134 F]) (by rw [m_R10 F, m_K134 F]; exact h6) (by rw [m_R7 F, m_K132 F]) (by rw [m_R7 F, m_K132 F]; exact h8)]
  simp only [m_R7 F, m_R10 F]
theorem m263_59 {d : Nat} {x1 : Int32} {x2 : Int32} {M : hp} {Q : Option Value → hp → Prop} (F : MF M) : Wp none d 263 59 [(0, .ref 126), (1, .int x1), (2, .int x2)] [] M Q = Q none (sI M 126 8 x1) := by
  rw [k263_59 (x0 := 126) F.1]
theorem m264_0 {d : Nat} {M : hp} {Q : Option Value → hp → Prop} (F : MF M) : Wp none d 264 0 [(0, .ref 126)] [] M Q = Wp none d 264 5 [(0, .ref 126)] [] (sI M 126 0 0) Q := by
  rw [k264_0 (x0 := 126) F.1]
theorem m264_5 {d : Nat} {M : hp} {Q : Option Value → hp → Prop} (F : MF M) : Wp none d 264 5 [(0, .ref 126)] [] M Q = Q (some (.int (hI M 126 49))) M := by
  rw [k264_5 (x0 := 126) F.1]
theorem m265_0 {d : Nat} {x1 : Int32} {M : hp} {Q : Option Value → hp → Prop} (F : MF M) : Wp none d 265 0 [(0, .ref 126), (1, .int x1)] [] M Q = Wp none d 265 20 [(0, .ref 126), (1, .int x1)] [] (sL M 126 51 ((((hL M 126 51) * 1103) + 12345) - (((hL M 126 51) * 1103) + 12345) / 1000003 * 1000003)) Q := by
  rw [k265_0 (x0 := 126) F.1]
theorem m265_20 {d : Nat} {x1 : Int32} {M : hp} {Q : Option Value → hp → Prop} (F : MF M) (h2 : ¬ x1.toInt64 = 0) : Wp none d 265 20 [(0, .ref 126), (1, .int x1)] [] M Q = Q (some (.int (((hL M 126 51) - (hL M 126 51) / x1.toInt64 * x1.toInt64).toInt32))) M := by
  rw [k265_20 (x0 := 126) F.1 h2]
theorem m266_7 {d : Nat} {x1 : Int32} {x2 : Int32} {x3 : Int32} {x4 : Int32} {s0 : Int32} {s1 : Int32} {M : hp} {Q : Option Value → hp → Prop} (F : MF M) : Wp none d 266 7 [(0, .ref 126), (1, .int x1), (2, .int x2), (3, .int x3), (4, .int x4)] [.int s0, .int s1, .ref 126] M Q = Wp none d 225 0 [(0, .ref 126), (1, .int s1), (2, .int s0)] [] M (fun r M1 => Wp none d 266 10 [(0, .ref 126), (1, .int x1), (2, .int x2), (3, .int x3), (4, .int x4)] (r.toList ++ []) M1 Q) := by
  rw [k266_7 (x0 := 126) (s2 := 126) F.1]
theorem m266_13 {d : Nat} {x1 : Int32} {x2 : Int32} {x3 : Int32} {x4 : Int32} {M : hp} {Q : Option Value → hp → Prop} (F : MF M) (h4 : vin (7 + x2) 5447 = true) : Wp none d 266 13 [(0, .ref 126), (1, .int x1), (2, .int x2), (3, .int x3), (4, .int x4)] [] M Q = Wp none d 266 23 [(0, .ref 126), (1, .int x1), (2, .int x2), (3, .int x3), (4, .int x4)] [] (sI M 128 (7 + x2).toNatClampNeg x3) Q := by
  rw [k266_13 (x0 := 126) F.1 (by rw [m_R3 F]; decide) (by rw [m_R3 F, m_K128 F]) (by rw [m_R3 F, m_K128 F]; exact h4)]
  simp only [m_R3 F]
theorem m266_28 {d : Nat} {x1 : Int32} {x2 : Int32} {x3 : Int32} {x4 : Int32} {M : hp} {Q : Option Value → hp → Prop} (F : MF M) (h4 : vin (7 + x2) 5447 = true) : Wp none d 266 28 [(0, .ref 126), (1, .int x1), (2, .int x2), (3, .int x3), (4, .int x4)] [] M Q = Wp none d 266 38 [(0, .ref 126), (1, .int x1), (2, .int x2), (3, .int x3), (4, .int x4)] [] (sI M 128 (7 + x2).toNatClampNeg (-1)) Q := by
  rw [k266_28 (x0 := 126) F.1 (by rw [m_R3 F]; decide) (by rw [m_R3 F, m_K128 F]) (by rw [m_R3 F, m_K128 F]; exact h4)]
  simp only [m_R3 F]
theorem m266_43 {d : Nat} {x1 : Int32} {x2 : Int32} {x3 : Int32} {x4 : Int32} {M : hp} {Q : Option Value → hp → Prop} (F : MF M) (h5 : vin (14 + x2) 5447 = true) : Wp none d 266 43 [(0, .ref 126), (1, .int x1), (2, .int x2), (3, .int x3), (4, .int x4)] [] M Q = Wp none d 266 59 [(0, .ref 126), (1, .int x1), (2, .int x2), (3, .int x3), (4, .int x4)] [] (sI M 128 (14 + x2).toNatClampNeg ((hI M 128 (14 + x2).toNatClampNeg) ||| ((1 : Int32) <<< (x4 &&& 31)))) Q := by
  rw [k266_43 (x0 := 126) F.1 (by rw [m_R3 F]; decide) (by rw [m_R3 F]; decide) (by rw [m_R3 F, m_K128 F]) (by rw [m_R3 F, m_K128 F]; exact h5)]
  simp only [m_R3 F]
theorem m267_0 {d : Nat} {x1 : Int32} {x2 : Int32} {M : hp} {Q : Option Value → hp → Prop} (F : MF M) : Wp none d 267 0 [(0, .ref 126), (1, .int x1), (2, .int x2)] [] M Q = Wp none d 267 5 [(0, .ref 126), (1, .int x1), (2, .int x2)] [] (sI M 126 0 0) Q := by
  rw [k267_0 (x0 := 126) F.1]
theorem m267_31 {d : Nat} {x1 : Int32} {x2 : Int32} {s0 : Int32} {M : hp} {Q : Option Value → hp → Prop} (F : MF M) : Wp none d 267 31 [(0, .ref 126), (1, .int x1), (2, .int x2)] [.int s0, .ref 126] M Q = Wp none d 156 0 [(0, .ref 126), (1, .int s0)] [] M (fun r M1 => Wp none d 267 34 [(0, .ref 126), (1, .int x1), (2, .int x2)] (r.toList ++ []) M1 Q) := by
  rw [k267_31 (x0 := 126) (s1 := 126) F.1]
theorem m267_35 {d : Nat} {x1 : Int32} {x2 : Int32} {M : hp} {Q : Option Value → hp → Prop} (F : MF M) (h5 : vin 0 5447 = true) : Wp none d 267 35 [(0, .ref 126), (1, .int x1), (2, .int x2)] [] M Q = Wp none d 267 41 [(0, .ref 126), (1, .int x1), (2, .int x2)] [.int (hI M 128 (0 : Int32).toNatClampNeg)] M Q := by
  rw [k267_35 (x0 := 126) F.1 (by rw [m_R3 F]; decide) (by rw [m_R3 F]; decide) (by rw [m_R3 F, m_K128 F]) (by rw [m_R3 F, m_K128 F]; exact h5)]
  simp only [m_R3 F]
theorem m267_47 {d : Nat} {x1 : Int32} {x2 : Int32} {s0 : Int32} {M : hp} {Q : Option Value → hp → Prop} (F : MF M) : Wp none d 267 47 [(0, .ref 126), (1, .int x1), (2, .int x2)] [.int s0, .ref 126] M Q = Wp none d 156 0 [(0, .ref 126), (1, .int s0)] [] M (fun r M1 => Wp none d 267 50 [(0, .ref 126), (1, .int x1), (2, .int x2)] (r.toList ++ []) M1 Q) := by
  rw [k267_47 (x0 := 126) (s1 := 126) F.1]
theorem m267_54 {d : Nat} {x1 : Int32} {x2 : Int32} {s0 : Int32} {M : hp} {Q : Option Value → hp → Prop} (F : MF M) : Wp none d 267 54 [(0, .ref 126), (1, .int x1), (2, .int x2)] [.int s0, .ref 126] M Q = Wp none d 159 0 [(0, .ref 126), (1, .int s0)] [] M (fun r M1 => Wp none d 267 57 [(0, .ref 126), (1, .int x1), (2, .int x2)] (r.toList ++ []) M1 Q) := by
  rw [k267_54 (x0 := 126) (s1 := 126) F.1]
theorem m267_57 {d : Nat} {x1 : Int32} {x2 : Int32} {M : hp} {Q : Option Value → hp → Prop} (F : MF M) : Wp none d 267 57 [(0, .ref 126), (1, .int x1), (2, .int x2)] [] M Q = Wp none d 267 63 [(0, .ref 126), (1, .int x1), (2, .int x2)] [] (sL M 126 51 x1.toInt64) Q := by
  rw [k267_57 (x0 := 126) F.1]
theorem m267_74 {d : Nat} {x1 : Int32} {x2 : Int32} {x3 : Int32} {x4 : Int32} {M : hp} {Q : Option Value → hp → Prop} (F : MF M) (h5 : vin 4 5447 = true) : Wp none d 267 74 [(0, .ref 126), (1, .int x1), (2, .int x2), (3, .int x3), (4, .int x4)] [] M Q = Wp none d 267 83 [(0, .ref 126), (1, .int x1), (2, .int x2), (3, .int x3), (4, .int x4)] [.int 999, .int (hI M 128 (4 : Int32).toNatClampNeg)] M Q := by
  rw [k267_74 (x0 := 126) F.1 (by rw [m_R3 F]; decide) (by rw [m_R3 F]; decide) (by rw [m_R3 F, m_K128 F]) (by rw [m_R3 F, m_K128 F]; exact h5)]
  simp only [m_R3 F]
theorem m267_86 {d : Nat} {x1 : Int32} {x2 : Int32} {x3 : Int32} {x4 : Int32} {M : hp} {Q : Option Value → hp → Prop} (F : MF M) (h5 : vin 0 5447 = true) : Wp none d 267 86 [(0, .ref 126), (1, .int x1), (2, .int x2), (3, .int x3), (4, .int x4)] [] M Q = Wp none d 267 93 [(0, .ref 126), (1, .int x1), (2, .int x2), (3, .int x3), (4, .int x4)] [.int (hI M 128 (0 : Int32).toNatClampNeg), .ref 126] M Q := by
  rw [k267_86 (x0 := 126) F.1 (by rw [m_R3 F]; decide) (by rw [m_R3 F]; decide) (by rw [m_R3 F, m_K128 F]) (by rw [m_R3 F, m_K128 F]; exact h5)]
  simp only [m_R3 F]
theorem m267_93 {d : Nat} {x1 : Int32} {x2 : Int32} {x3 : Int32} {x4 : Int32} {s0 : Int32} {M : hp} {Q : Option Value → hp → Prop} (F : MF M) : Wp none d 267 93 [(0, .ref 126), (1, .int x1), (2, .int x2), (3, .int x3), (4, .int x4)] [.int s0, .ref 126] M Q = Wp none d 265 0 [(0, .ref 126), (1, .int s0)] [] M (fun r M1 => Wp none d 267 96 [(0, .ref 126), (1, .int x1), (2, .int x2), (3, .int x3), (4, .int x4)] (r.toList ++ []) M1 Q) := by
  rw [k267_93 (x0 := 126) (s1 := 126) F.1]
theorem m267_101 {d : Nat} {x1 : Int32} {x2 : Int32} {x3 : Int32} {x4 : Int32} {x5 : Int32} {s0 : Int32} {M : hp} {Q : Option Value → hp → Prop} (F : MF M) : Wp none d 267 101 [(0, .ref 126), (1, .int x1), (2, .int x2), (3, .int x3), (4, .int x4), (5, .int x5)] [.int s0, .ref 126] M Q = Wp none d 265 0 [(0, .ref 126), (1, .int s0)] [] M (fun r M1 => Wp none d 267 104 [(0, .ref 126), (1, .int x1), (2, .int x2), (3, .int x3), (4, .int x4), (5, .int x5)] (r.toList ++ []) M1 Q) := by
  rw [k267_101 (x0 := 126) (s1 := 126) F.1]
theorem m267_109 {d : Nat} {x1 : Int32} {x2 : Int32} {x3 : Int32} {x4 : Int32} {x5 : Int32} {x6 : Int32} {s0 : Int32} {M : hp} {Q : Option Value → hp → Prop} (F : MF M) : Wp none d 267 109 [(0, .ref 126), (1, .int x1), (2, .int x2), (3, .int x3), (4, .int x4), (5, .int x5), (6, .int x6)] [.int s0, .ref 126] M Q = Wp none d 265 0 [(0, .ref 126), (1, .int s0)] [] M (fun r M1 => Wp none d 267 112 [(0, .ref 126), (1, .int x1), (2, .int x2), (3, .int x3), (4, .int x4), (5, .int x5), (6, .int x6)] (r.toList ++ []) M1 Q) := by
  rw [k267_109 (x0 := 126) (s1 := 126) F.1]
theorem m267_116 {d : Nat} {x1 : Int32} {x2 : Int32} {x3 : Int32} {x4 : Int32} {x5 : Int32} {x6 : Int32} {x7 : Int32} {s0 : Int32} {M : hp} {Q : Option Value → hp → Prop} (F : MF M) : Wp none d 267 116 [(0, .ref 126), (1, .int x1), (2, .int x2), (3, .int x3), (4, .int x4), (5, .int x5), (6, .int x6), (7, .int x7)] [.int s0, .ref 126] M Q = Wp none d 265 0 [(0, .ref 126), (1, .int s0)] [] M (fun r M1 => Wp none d 267 119 [(0, .ref 126), (1, .int x1), (2, .int x2), (3, .int x3), (4, .int x4), (5, .int x5), (6, .int x6), (7, .int x7)] (r.toList ++ []) M1 Q) := by
  rw [k267_116 (x0 := 126) (s1 := 126) F.1]
theorem m267_130 {d : Nat} {x1 : Int32} {x2 : Int32} {x3 : Int32} {x4 : Int32} {x5 : Int32} {x6 : Int32} {x7 : Int32} {x8 : Int32} {s0 : Int32} {s1 : Int32} {s2 : Int32} {s3 : Int32} {M : hp} {Q : Option Value → hp → Prop} (F : MF M) : Wp none d 267 130 [(0, .ref 126), (1, .int x1), (2, .int x2), (3, .int x3), (4, .int x4), (5, .int x5), (6, .int x6), (7, .int x7), (8, .int x8)] [.int s0, .int s1, .int s2, .int s3, .ref 126] M Q = Wp none d 266 0 [(0, .ref 126), (1, .int s3), (2, .int s2), (3, .int s1), (4, .int s0)] [] M (fun r M1 => Wp none d 267 133 [(0, .ref 126), (1, .int x1), (2, .int x2), (3, .int x3), (4, .int x4), (5, .int x5), (6, .int x6), (7, .int x7), (8, .int x8)] (r.toList ++ []) M1 Q) := by
  rw [k267_130 (x0 := 126) (s4 := 126) F.1]
theorem m267_135 {d : Nat} {x1 : Int32} {x2 : Int32} {x3 : Int32} {x4 : Int32} {x5 : Int32} {x6 : Int32} {x7 : Int32} {x8 : Int32} {s1 : Int32} {M : hp} {Q : Option Value → hp → Prop} (F : MF M) : Wp none d 267 135 [(0, .ref 126), (1, .int x1), (2, .int x2), (3, .int x3), (4, .int x4), (5, .int x5), (6, .int x6), (7, .int x7), (8, .int x8)] [.ref 126, .int s1] M Q = Wp none d 232 0 [(0, .ref 126)] [] M (fun r M1 => Wp none d 267 138 [(0, .ref 126), (1, .int x1), (2, .int x2), (3, .int x3), (4, .int x4), (5, .int x5), (6, .int x6), (7, .int x7), (8, .int x8)] (r.toList ++ [.int s1]) M1 Q) := by
  rw [k267_135 (x0 := 126) (s0 := 126) F.1]
theorem m267_156 {d : Nat} {x1 : Int32} {x2 : Int32} {x3 : Int32} {x4 : Int32} {M : hp} {Q : Option Value → hp → Prop} (F : MF M) (h6 : vin (4 + x4) 5447 = true) (h8 : vin x4 17 = true) : Wp none d 267 156 [(0, .ref 126), (1, .int x1), (2, .int x2), (3, .int x3), (4, .int x4)] [] M Q = Wp none d 267 172 [(0, .ref 126), (1, .int x1), (2, .int x2), (3, .int x3), (4, .int x4)] [] (sI M 153 x4.toNatClampNeg (hI M 128 (4 + x4).toNatClampNeg)) Q := by
  rw [k267_156 (x0 := 126) F.1 (by rw [m_R52 F]; decide) (by rw [m_R3 F]; decide) (by rw [m_R3 F]; decide) (by rw [m_R3 F, m_K128 F]) (by rw [m_R3 F, m_K128 F]; exact h6) (by rw [m_R52 F, m_K153 F]) (by rw [m_R52 F, m_K153 F]; exact h8)]
  simp only [m_R52 F, m_R3 F]
theorem m267_178 {d : Nat} {x1 : Int32} {x2 : Int32} {x3 : Int32} {x4 : Int32} {M : hp} {Q : Option Value → hp → Prop} (F : MF M) (h5 : vin 0 5447 = true) : Wp none d 267 178 [(0, .ref 126), (1, .int x1), (2, .int x2), (3, .int x3), (4, .int x4)] [] M Q = Wp none d 267 188 [(0, .ref 126), (1, .int x1), (2, .int x2), (3, .int x3), (4, .int x4)] [] (sI M 126 53 (hI M 128 (0 : Int32).toNatClampNeg)) Q := by
  rw [k267_178 (x0 := 126) F.1 (by rw [m_R3 F]; decide) (by rw [m_R3 F]; decide) (by rw [m_R3 F, m_K128 F]) (by rw [m_R3 F, m_K128 F]; exact h5)]
  simp only [m_R3 F]
theorem m267_191 {d : Nat} {x1 : Int32} {x2 : Int32} {x3 : Int32} {x4 : Int32} {s0 : Int32} {M : hp} {Q : Option Value → hp → Prop} (F : MF M) : Wp none d 267 191 [(0, .ref 126), (1, .int x1), (2, .int x2), (3, .int x3), (4, .int x4)] [.int s0, .ref 126] M Q = Wp none d 160 0 [(0, .ref 126), (1, .int s0)] [] M (fun r M1 => Wp none d 267 194 [(0, .ref 126), (1, .int x1), (2, .int x2), (3, .int x3), (4, .int x4)] (r.toList ++ []) M1 Q) := by
  rw [k267_191 (x0 := 126) (s1 := 126) F.1]
theorem m267_196 {d : Nat} {x1 : Int32} {x2 : Int32} {x3 : Int32} {x4 : Int32} {s0 : Int32} {M : hp} {Q : Option Value → hp → Prop} (F : MF M) : Wp none d 267 196 [(0, .ref 126), (1, .int x1), (2, .int x2), (3, .int x3), (4, .int x4)] [.int s0, .ref 126] M Q = Wp none d 156 0 [(0, .ref 126), (1, .int s0)] [] M (fun r M1 => Wp none d 267 199 [(0, .ref 126), (1, .int x1), (2, .int x2), (3, .int x3), (4, .int x4)] (r.toList ++ []) M1 Q) := by
  rw [k267_196 (x0 := 126) (s1 := 126) F.1]
theorem m268_0 {d : Nat} {x1 : Int32} {x2 : Int32} {M : hp} {Q : Option Value → hp → Prop} (F : MF M) : Wp none d 268 0 [(0, .ref 126), (1, .int x1), (2, .int x2)] [] M Q = Wp none d 268 5 [(0, .ref 126), (1, .int x1), (2, .int x2)] [] (sI M 126 0 0) Q := by
  rw [k268_0 (x0 := 126) F.1]
theorem m268_5 {d : Nat} {x1 : Int32} {x2 : Int32} {M : hp} {Q : Option Value → hp → Prop} (F : MF M) : Wp none d 268 5 [(0, .ref 126), (1, .int x1), (2, .int x2)] [] M Q = Wp none d 268 15 [(0, .ref 126), (1, .int x1), (2, .int x2)] [.long (((hI M 126 53).toInt64) - 1), .long 0, .long x1.toInt64] M Q := by
  rw [k268_5 (x0 := 126) F.1]
theorem m268_33 {d : Nat} {x1 : Int32} {x2 : Int32} {M : hp} {Q : Option Value → hp → Prop} (F : MF M) : Wp none d 268 33 [(0, .ref 126), (1, .int x1), (2, .int x2)] [] M Q = Wp none d 268 38 [(0, .ref 126), (1, .int x1), (2, .int x2)] [.int x2, .ref 153] M Q := by
  rw [k268_33 (x0 := 126) F.1 (by rw [m_R52 F]; decide)]
  simp only [m_R52 F]
theorem m268_48 {d : Nat} {x1 : Int32} {x2 : Int32} {s0 : Int32} {s1 : Nat} {M : hp} {Q : Option Value → hp → Prop} (F : MF M) (h1 : ¬ s1 = 1) (h2 : (hK M s1).1 = 20) (h3 : vin ((s0 - 4) + x1) (hK M s1).2 = true) : Wp none d 268 48 [(0, .ref 126), (1, .int x1), (2, .int x2)] [.int s0, .ref s1] M Q = Q (some (.int (hI M s1 ((s0 - 4) + x1).toNatClampNeg))) M := by
  rw [k268_48 (x0 := 126) h1 h2 h3]
theorem m269_0 {d : Nat} {x1 : Int32} {M : hp} {Q : Option Value → hp → Prop} (F : MF M) : Wp none d 269 0 [(0, .ref 126), (1, .int x1)] [] M Q = Wp none d 269 5 [(0, .ref 126), (1, .int x1)] [] (sI M 126 0 0) Q := by
  rw [k269_0 (x0 := 126) F.1]
theorem m269_72 {d : Nat} {x1 : Int32} {M : hp} {Q : Option Value → hp → Prop} (F : MF M) (h5 : vin 0 5447 = true) : Wp none d 269 72 [(0, .ref 126), (1, .int x1)] [] M Q = Q (some (.int (hI M 128 (0 : Int32).toNatClampNeg))) M := by
  rw [k269_72 (x0 := 126) F.1 (by rw [m_R3 F]; decide) (by rw [m_R3 F]; decide) (by rw [m_R3 F, m_K128 F]) (by rw [m_R3 F, m_K128 F]; exact h5)]
  simp only [m_R3 F]
theorem m269_80 {d : Nat} {x1 : Int32} {M : hp} {Q : Option Value → hp → Prop} (F : MF M) : Wp none d 269 80 [(0, .ref 126), (1, .int x1)] [.ref 126] M Q = Wp none d 172 0 [(0, .ref 126)] [] M (fun r M1 => Wp none d 269 83 [(0, .ref 126), (1, .int x1)] (r.toList ++ []) M1 Q) := by
  rw [k269_80 (x0 := 126) (s0 := 126) F.1]
theorem m269_88 {d : Nat} {x1 : Int32} {M : hp} {Q : Option Value → hp → Prop} (F : MF M) : Wp none d 269 88 [(0, .ref 126), (1, .int x1)] [.ref 126] M Q = Wp none d 173 0 [(0, .ref 126)] [] M (fun r M1 => Wp none d 269 91 [(0, .ref 126), (1, .int x1)] (r.toList ++ []) M1 Q) := by
  rw [k269_88 (x0 := 126) (s0 := 126) F.1]
theorem m269_92 {d : Nat} {x1 : Int32} {M : hp} {Q : Option Value → hp → Prop} (F : MF M) (h5 : vin 1 5447 = true) : Wp none d 269 92 [(0, .ref 126), (1, .int x1)] [] M Q = Q (some (.int (hI M 128 (1 : Int32).toNatClampNeg))) M := by
  rw [k269_92 (x0 := 126) F.1 (by rw [m_R3 F]; decide) (by rw [m_R3 F]; decide) (by rw [m_R3 F, m_K128 F]) (by rw [m_R3 F, m_K128 F]; exact h5)]
  simp only [m_R3 F]
theorem m269_99 {d : Nat} {x1 : Int32} {M : hp} {Q : Option Value → hp → Prop} (F : MF M) (h5 : vin 2 5447 = true) : Wp none d 269 99 [(0, .ref 126), (1, .int x1)] [] M Q = Q (some (.int (hI M 128 (2 : Int32).toNatClampNeg))) M := by
  rw [k269_99 (x0 := 126) F.1 (by rw [m_R3 F]; decide) (by rw [m_R3 F]; decide) (by rw [m_R3 F, m_K128 F]) (by rw [m_R3 F, m_K128 F]; exact h5)]
  simp only [m_R3 F]
theorem m269_106 {d : Nat} {x1 : Int32} {M : hp} {Q : Option Value → hp → Prop} (F : MF M) : Wp none d 269 106 [(0, .ref 126), (1, .int x1)] [] M Q = Q (some (.int (hI M 126 8))) M := by
  rw [k269_106 (x0 := 126) F.1]
theorem m269_111 {d : Nat} {x1 : Int32} {M : hp} {Q : Option Value → hp → Prop} (F : MF M) : Wp none d 269 111 [(0, .ref 126), (1, .int x1)] [] M Q = Q (some (.int (hI M 126 13))) M := by
  rw [k269_111 (x0 := 126) F.1]
theorem m269_116 {d : Nat} {x1 : Int32} {M : hp} {Q : Option Value → hp → Prop} (F : MF M) (h5 : vin 1 7 = true) : Wp none d 269 116 [(0, .ref 126), (1, .int x1)] [] M Q = Q (some (.int (hI M 127 (1 : Int32).toNatClampNeg))) M := by
  rw [k269_116 (x0 := 126) F.1 (by rw [m_R2 F]; decide) (by rw [m_R2 F]; decide) (by rw [m_R2 F, m_K127 F]) (by rw [m_R2 F, m_K127 F]; exact h5)]
  simp only [m_R2 F]
theorem m269_123 {d : Nat} {x1 : Int32} {M : hp} {Q : Option Value → hp → Prop} (F : MF M) (h5 : vin 2 7 = true) : Wp none d 269 123 [(0, .ref 126), (1, .int x1)] [] M Q = Q (some (.int (hI M 127 (2 : Int32).toNatClampNeg))) M := by
  rw [k269_123 (x0 := 126) F.1 (by rw [m_R2 F]; decide) (by rw [m_R2 F]; decide) (by rw [m_R2 F, m_K127 F]) (by rw [m_R2 F, m_K127 F]; exact h5)]
  simp only [m_R2 F]
theorem m269_130 {d : Nat} {x1 : Int32} {M : hp} {Q : Option Value → hp → Prop} (F : MF M) (h5 : vin 3 7 = true) : Wp none d 269 130 [(0, .ref 126), (1, .int x1)] [] M Q = Q (some (.int (hI M 127 (3 : Int32).toNatClampNeg))) M := by
  rw [k269_130 (x0 := 126) F.1 (by rw [m_R2 F]; decide) (by rw [m_R2 F]; decide) (by rw [m_R2 F, m_K127 F]) (by rw [m_R2 F, m_K127 F]; exact h5)]
  simp only [m_R2 F]
theorem m269_137 {d : Nat} {x1 : Int32} {M : hp} {Q : Option Value → hp → Prop} (F : MF M) (h5 : vin 5 7 = true) : Wp none d 269 137 [(0, .ref 126), (1, .int x1)] [] M Q = Q (some (.int (hI M 127 (5 : Int32).toNatClampNeg))) M := by
  rw [k269_137 (x0 := 126) F.1 (by rw [m_R2 F]; decide) (by rw [m_R2 F]; decide) (by rw [m_R2 F, m_K127 F]) (by rw [m_R2 F, m_K127 F]; exact h5)]
  simp only [m_R2 F]
theorem m269_144 {d : Nat} {x1 : Int32} {M : hp} {Q : Option Value → hp → Prop} (F : MF M) (h5 : vin 6 7 = true) : Wp none d 269 144 [(0, .ref 126), (1, .int x1)] [] M Q = Q (some (.int (hI M 127 (6 : Int32).toNatClampNeg))) M := by
  rw [k269_144 (x0 := 126) F.1 (by rw [m_R2 F]; decide) (by rw [m_R2 F]; decide) (by rw [m_R2 F, m_K127 F]) (by rw [m_R2 F, m_K127 F]; exact h5)]
  simp only [m_R2 F]
theorem m269_152 {d : Nat} {x1 : Int32} {M : hp} {Q : Option Value → hp → Prop} (F : MF M) (h5 : vin 3 5447 = true) : Wp none d 269 152 [(0, .ref 126), (1, .int x1)] [] M Q = Q (some (.int (hI M 128 (3 : Int32).toNatClampNeg))) M := by
  rw [k269_152 (x0 := 126) F.1 (by rw [m_R3 F]; decide) (by rw [m_R3 F]; decide) (by rw [m_R3 F, m_K128 F]) (by rw [m_R3 F, m_K128 F]; exact h5)]
  simp only [m_R3 F]
theorem m269_173 {d : Nat} {x1 : Int32} {M : hp} {Q : Option Value → hp → Prop} (F : MF M) (h5 : vin ((4 + x1) - 13) 5447 = true) : Wp none d 269 173 [(0, .ref 126), (1, .int x1)] [] M Q = Wp none d 269 188 [(0, .ref 126), (1, .int x1)] [.int (hI M 128 ((4 + x1) - 13).toNatClampNeg)] M Q := by
  rw [k269_173 (x0 := 126) F.1 (by rw [m_R3 F]; decide) (by rw [m_R3 F]; decide) (by rw [m_R3 F, m_K128 F]) (by rw [m_R3 F, m_K128 F]; exact h5)]
  simp only [m_R3 F]
theorem m270_0 {d : Nat} {M : hp} {Q : Option Value → hp → Prop} (F : MF M) : Wp none d 270 0 [(0, .ref 126)] [] M Q = Wp none d 270 5 [(0, .ref 126)] [] (sI M 126 0 0) Q := by
  rw [k270_0 (x0 := 126) F.1]
theorem m270_5 {d : Nat} {M : hp} {Q : Option Value → hp → Prop} (F : MF M) : Wp none d 270 5 [(0, .ref 126)] [] M Q = Q (some (.int (hI M 126 1))) M := by
  rw [k270_5 (x0 := 126) F.1]
